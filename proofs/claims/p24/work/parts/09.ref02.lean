theorem dX11_enters_0 : decode cX11_enters 0 = .ok (.aload_n 0, 1) := by decide +kernel
theorem dX11_enters_1 : decode cX11_enters 1 = .ok (.getfield 118, 3) := by decide +kernel
theorem dX11_enters_4 : decode cX11_enters 4 = .ok (.aload_n 0, 1) := by decide +kernel
theorem dX11_enters_5 : decode cX11_enters 5 = .ok (.getfield 516, 3) := by decide +kernel
theorem dX11_enters_8 : decode cX11_enters 8 = .ok (.iload_n 1, 1) := by decide +kernel
theorem dX11_enters_9 : decode cX11_enters 9 = .ok (.iastore, 1) := by decide +kernel
theorem dX11_enters_10 : decode cX11_enters 10 = .ok (.aload_n 0, 1) := by decide +kernel
theorem dX11_enters_11 : decode cX11_enters 11 = .ok (.dup, 1) := by decide +kernel
theorem dX11_enters_12 : decode cX11_enters 12 = .ok (.getfield 516, 3) := by decide +kernel
theorem dX11_enters_15 : decode cX11_enters 15 = .ok (.iconst 1, 1) := by decide +kernel
theorem dX11_enters_16 : decode cX11_enters 16 = .ok (.iadd, 1) := by decide +kernel
theorem dX11_enters_17 : decode cX11_enters 17 = .ok (.putfield 516, 3) := by decide +kernel
theorem dX11_enters_20 : decode cX11_enters 20 = .ok (.return_, 1) := by decide +kernel
theorem dX11_fills_0 : decode cX11_fills 0 = .ok (.aload_n 0, 1) := by decide +kernel
theorem dX11_fills_1 : decode cX11_fills 1 = .ok (.getfield 54, 3) := by decide +kernel
theorem dX11_fills_4 : decode cX11_fills 4 = .ok (.iload_n 1, 1) := by decide +kernel
theorem dX11_fills_5 : decode cX11_fills 5 = .ok (.iaload, 1) := by decide +kernel
theorem dX11_fills_6 : decode cX11_fills 6 = .ok (.istore 4, 2) := by decide +kernel
theorem dX11_fills_8 : decode cX11_fills 8 = .ok (.iload 4, 2) := by decide +kernel
theorem dX11_fills_10 : decode cX11_fills 10 = .ok (.aload_n 0, 1) := by decide +kernel
theorem dX11_fills_11 : decode cX11_fills 11 = .ok (.getfield 13, 3) := by decide +kernel
theorem dX11_fills_14 : decode cX11_fills 14 = .ok (.aload_n 0, 1) := by decide +kernel
theorem dX11_fills_15 : decode cX11_fills 15 = .ok (.getfield 23, 3) := by decide +kernel
theorem dX11_fills_18 : decode cX11_fills 18 = .ok (.invokestatic 341, 3) := by decide +kernel
theorem dX11_fills_21 : decode cX11_fills 21 = .ok (.istore 5, 2) := by decide +kernel
theorem dX11_fills_23 : decode cX11_fills 23 = .ok (.aload_n 0, 1) := by decide +kernel
theorem dX11_fills_24 : decode cX11_fills 24 = .ok (.aload_n 0, 1) := by decide +kernel
theorem dX11_fills_25 : decode cX11_fills 25 = .ok (.getfield 13, 3) := by decide +kernel
theorem dX11_fills_28 : decode cX11_fills 28 = .ok (.iload 5, 2) := by decide +kernel
theorem dX11_fills_30 : decode cX11_fills 30 = .ok (.iaload, 1) := by decide +kernel
theorem dX11_fills_31 : decode cX11_fills 31 = .ok (.iload_n 2, 1) := by decide +kernel
theorem dX11_fills_32 : decode cX11_fills 32 = .ok (.iload_n 3, 1) := by decide +kernel
theorem dX11_fills_33 : decode cX11_fills 33 = .ok (.iload 5, 2) := by decide +kernel
theorem dX11_fills_35 : decode cX11_fills 35 = .ok (.iload 4, 2) := by decide +kernel
theorem dX11_fills_37 : decode cX11_fills 37 = .ok (.if_icmp .ne 7, 3) := by decide +kernel
theorem dX11_fills_40 : decode cX11_fills 40 = .ok (.iconst (-1), 1) := by decide +kernel
theorem dX11_fills_41 : decode cX11_fills 41 = .ok (.goto 4, 3) := by decide +kernel
theorem dX11_fills_44 : decode cX11_fills 44 = .ok (.iconst 0, 1) := by decide +kernel
theorem dX11_fills_45 : decode cX11_fills 45 = .ok (.invokevirtual 420, 3) := by decide +kernel
theorem dX11_fills_48 : decode cX11_fills 48 = .ok (.istore 6, 2) := by decide +kernel
theorem dX11_fills_50 : decode cX11_fills 50 = .ok (.aload_n 0, 1) := by decide +kernel
theorem dX11_fills_51 : decode cX11_fills 51 = .ok (.getfield 73, 3) := by decide +kernel
theorem dX11_fills_54 : decode cX11_fills 54 = .ok (.iload 6, 2) := by decide +kernel
theorem dX11_fills_56 : decode cX11_fills 56 = .ok (.aload_n 0, 1) := by decide +kernel
theorem dX11_fills_57 : decode cX11_fills 57 = .ok (.getfield 61, 3) := by decide +kernel
theorem dX11_fills_60 : decode cX11_fills 60 = .ok (.iload_n 1, 1) := by decide +kernel
theorem dX11_fills_61 : decode cX11_fills 61 = .ok (.laload, 1) := by decide +kernel
theorem dX11_fills_62 : decode cX11_fills 62 = .ok (.lastore, 1) := by decide +kernel
theorem dX11_fills_63 : decode cX11_fills 63 = .ok (.aload_n 0, 1) := by decide +kernel
theorem dX11_fills_64 : decode cX11_fills 64 = .ok (.getfield 76, 3) := by decide +kernel
theorem dX11_fills_67 : decode cX11_fills 67 = .ok (.iload 6, 2) := by decide +kernel
theorem dX11_fills_69 : decode cX11_fills 69 = .ok (.aload_n 0, 1) := by decide +kernel
theorem dX11_fills_70 : decode cX11_fills 70 = .ok (.getfield 64, 3) := by decide +kernel
theorem dX11_fills_73 : decode cX11_fills 73 = .ok (.iload_n 1, 1) := by decide +kernel
theorem dX11_fills_74 : decode cX11_fills 74 = .ok (.laload, 1) := by decide +kernel
theorem dX11_fills_75 : decode cX11_fills 75 = .ok (.lastore, 1) := by decide +kernel
theorem dX11_fills_76 : decode cX11_fills 76 = .ok (.aload_n 0, 1) := by decide +kernel
theorem dX11_fills_77 : decode cX11_fills 77 = .ok (.getfield 79, 3) := by decide +kernel
theorem dX11_fills_80 : decode cX11_fills 80 = .ok (.iload 6, 2) := by decide +kernel
theorem dX11_fills_82 : decode cX11_fills 82 = .ok (.aload_n 0, 1) := by decide +kernel
theorem dX11_fills_83 : decode cX11_fills 83 = .ok (.getfield 13, 3) := by decide +kernel
theorem dX11_fills_86 : decode cX11_fills 86 = .ok (.iload 5, 2) := by decide +kernel
theorem dX11_fills_88 : decode cX11_fills 88 = .ok (.iaload, 1) := by decide +kernel
theorem dX11_fills_89 : decode cX11_fills 89 = .ok (.iconst 5, 1) := by decide +kernel
theorem dX11_fills_90 : decode cX11_fills 90 = .ok (.if_icmp .ne 12, 3) := by decide +kernel
theorem dX11_fills_93 : decode cX11_fills 93 = .ok (.aload_n 0, 1) := by decide +kernel
theorem dX11_fills_94 : decode cX11_fills 94 = .ok (.getfield 67, 3) := by decide +kernel
theorem dX11_fills_97 : decode cX11_fills 97 = .ok (.iload_n 1, 1) := by decide +kernel
theorem dX11_fills_98 : decode cX11_fills 98 = .ok (.iaload, 1) := by decide +kernel
theorem dX11_fills_99 : decode cX11_fills 99 = .ok (.goto 4, 3) := by decide +kernel
theorem dX11_fills_102 : decode cX11_fills 102 = .ok (.iconst 0, 1) := by decide +kernel
theorem dX11_fills_103 : decode cX11_fills 103 = .ok (.iastore, 1) := by decide +kernel
theorem dX11_fills_104 : decode cX11_fills 104 = .ok (.aload_n 0, 1) := by decide +kernel
theorem dX11_fills_105 : decode cX11_fills 105 = .ok (.getfield 91, 3) := by decide +kernel
theorem dX11_fills_108 : decode cX11_fills 108 = .ok (.iload 6, 2) := by decide +kernel
theorem dX11_fills_110 : decode cX11_fills 110 = .ok (.iconst 1, 1) := by decide +kernel
theorem dX11_fills_111 : decode cX11_fills 111 = .ok (.bastore, 1) := by decide +kernel
theorem dX11_fills_112 : decode cX11_fills 112 = .ok (.return_, 1) := by decide +kernel
theorem dX11_firstOf_0 : decode cX11_firstOf 0 = .ok (.aload_n 1, 1) := by decide +kernel
theorem dX11_firstOf_1 : decode cX11_firstOf 1 = .ok (.iload_n 0, 1) := by decide +kernel
theorem dX11_firstOf_2 : decode cX11_firstOf 2 = .ok (.iaload, 1) := by decide +kernel
theorem dX11_firstOf_3 : decode cX11_firstOf 3 = .ok (.bipush 8, 2) := by decide +kernel
theorem dX11_firstOf_5 : decode cX11_firstOf 5 = .ok (.if_icmp .ne 11, 3) := by decide +kernel
theorem dX11_firstOf_8 : decode cX11_firstOf 8 = .ok (.aload_n 2, 1) := by decide +kernel
theorem dX11_firstOf_9 : decode cX11_firstOf 9 = .ok (.iconst 4, 1) := by decide +kernel
theorem dX11_firstOf_10 : decode cX11_firstOf 10 = .ok (.iload_n 0, 1) := by decide +kernel
theorem dX11_firstOf_11 : decode cX11_firstOf 11 = .ok (.imul, 1) := by decide +kernel
theorem dX11_firstOf_12 : decode cX11_firstOf 12 = .ok (.iaload, 1) := by decide +kernel
theorem dX11_firstOf_13 : decode cX11_firstOf 13 = .ok (.goto 4, 3) := by decide +kernel
theorem dX11_firstOf_16 : decode cX11_firstOf 16 = .ok (.iload_n 0, 1) := by decide +kernel
theorem dX11_firstOf_17 : decode cX11_firstOf 17 = .ok (.ireturn, 1) := by decide +kernel
theorem dX11_isLetter_0 : decode cX11_isLetter 0 = .ok (.iload_n 0, 1) := by decide +kernel
theorem dX11_isLetter_1 : decode cX11_isLetter 1 = .ok (.i2l, 1) := by decide +kernel
theorem dX11_isLetter_2 : decode cX11_isLetter 2 = .ok (.ldc2_w 192, 3) := by decide +kernel
theorem dX11_isLetter_5 : decode cX11_isLetter 5 = .ok (.ldc2_w 194, 3) := by decide +kernel
theorem dX11_isLetter_8 : decode cX11_isLetter 8 = .ok (.invokestatic 196, 3) := by decide +kernel
theorem dX11_isLetter_11 : decode cX11_isLetter 11 = .ok (.ireturn, 1) := by decide +kernel
theorem dX11_joins_0 : decode cX11_joins 0 = .ok (.aload_n 0, 1) := by decide +kernel
theorem dX11_joins_1 : decode cX11_joins 1 = .ok (.getfield 79, 3) := by decide +kernel
theorem dX11_joins_4 : decode cX11_joins 4 = .ok (.iload_n 1, 1) := by decide +kernel
theorem dX11_joins_5 : decode cX11_joins 5 = .ok (.dup2, 1) := by decide +kernel
theorem dX11_joins_6 : decode cX11_joins 6 = .ok (.iaload, 1) := by decide +kernel
theorem dX11_joins_7 : decode cX11_joins 7 = .ok (.iconst 1, 1) := by decide +kernel
theorem dX11_joins_8 : decode cX11_joins 8 = .ok (.iadd, 1) := by decide +kernel
theorem dX11_joins_9 : decode cX11_joins 9 = .ok (.iastore, 1) := by decide +kernel
theorem dX11_joins_10 : decode cX11_joins 10 = .ok (.iconst (-1), 1) := by decide +kernel
theorem dX11_joins_11 : decode cX11_joins 11 = .ok (.istore_n 3, 1) := by decide +kernel
theorem dX11_joins_12 : decode cX11_joins 12 = .ok (.aload_n 0, 1) := by decide +kernel
theorem dX11_joins_13 : decode cX11_joins 13 = .ok (.getfield 97, 3) := by decide +kernel
theorem dX11_joins_16 : decode cX11_joins 16 = .ok (.iload_n 1, 1) := by decide +kernel
theorem dX11_joins_17 : decode cX11_joins 17 = .ok (.iaload, 1) := by decide +kernel
theorem dX11_joins_18 : decode cX11_joins 18 = .ok (.ifCond .lt 27, 3) := by decide +kernel
theorem dX11_joins_21 : decode cX11_joins 21 = .ok (.aload_n 0, 1) := by decide +kernel
theorem dX11_joins_22 : decode cX11_joins 22 = .ok (.getfield 85, 3) := by decide +kernel
theorem dX11_joins_25 : decode cX11_joins 25 = .ok (.aload_n 0, 1) := by decide +kernel
theorem dX11_joins_26 : decode cX11_joins 26 = .ok (.getfield 97, 3) := by decide +kernel
theorem dX11_joins_29 : decode cX11_joins 29 = .ok (.iload_n 1, 1) := by decide +kernel
theorem dX11_joins_30 : decode cX11_joins 30 = .ok (.iaload, 1) := by decide +kernel
theorem dX11_joins_31 : decode cX11_joins 31 = .ok (.iaload, 1) := by decide +kernel
theorem dX11_joins_32 : decode cX11_joins 32 = .ok (.aload_n 0, 1) := by decide +kernel
theorem dX11_joins_33 : decode cX11_joins 33 = .ok (.getfield 85, 3) := by decide +kernel
theorem dX11_joins_36 : decode cX11_joins 36 = .ok (.iload_n 2, 1) := by decide +kernel
theorem dX11_joins_37 : decode cX11_joins 37 = .ok (.iaload, 1) := by decide +kernel
theorem dX11_joins_38 : decode cX11_joins 38 = .ok (.if_icmp .ge 7, 3) := by decide +kernel
theorem dX11_joins_41 : decode cX11_joins 41 = .ok (.iconst (-1), 1) := by decide +kernel
theorem dX11_joins_42 : decode cX11_joins 42 = .ok (.goto 9, 3) := by decide +kernel
theorem dX11_joins_45 : decode cX11_joins 45 = .ok (.aload_n 0, 1) := by decide +kernel
theorem dX11_joins_46 : decode cX11_joins 46 = .ok (.getfield 94, 3) := by decide +kernel
theorem dX11_joins_49 : decode cX11_joins 49 = .ok (.iload_n 1, 1) := by decide +kernel
theorem dX11_joins_50 : decode cX11_joins 50 = .ok (.iaload, 1) := by decide +kernel
theorem dX11_joins_51 : decode cX11_joins 51 = .ok (.istore 4, 2) := by decide +kernel
theorem dX11_joins_53 : decode cX11_joins 53 = .ok (.iload 4, 2) := by decide +kernel
theorem dX11_joins_55 : decode cX11_joins 55 = .ok (.ifCond .ge 10, 3) := by decide +kernel
theorem dX11_joins_58 : decode cX11_joins 58 = .ok (.aload_n 0, 1) := by decide +kernel
theorem dX11_joins_59 : decode cX11_joins 59 = .ok (.getfield 97, 3) := by decide +kernel
theorem dX11_joins_62 : decode cX11_joins 62 = .ok (.iload_n 1, 1) := by decide +kernel
theorem dX11_joins_63 : decode cX11_joins 63 = .ok (.iaload, 1) := by decide +kernel
theorem dX11_joins_64 : decode cX11_joins 64 = .ok (.istore_n 3, 1) := by decide +kernel
theorem dX11_joins_65 : decode cX11_joins 65 = .ok (.iload 4, 2) := by decide +kernel
theorem dX11_joins_67 : decode cX11_joins 67 = .ok (.ifCond .lt 34, 3) := by decide +kernel
theorem dX11_joins_70 : decode cX11_joins 70 = .ok (.aload_n 0, 1) := by decide +kernel
theorem dX11_joins_71 : decode cX11_joins 71 = .ok (.getfield 85, 3) := by decide +kernel
theorem dX11_joins_74 : decode cX11_joins 74 = .ok (.iload 4, 2) := by decide +kernel
theorem dX11_joins_76 : decode cX11_joins 76 = .ok (.iaload, 1) := by decide +kernel
theorem dX11_joins_77 : decode cX11_joins 77 = .ok (.aload_n 0, 1) := by decide +kernel
theorem dX11_joins_78 : decode cX11_joins 78 = .ok (.getfield 85, 3) := by decide +kernel
theorem dX11_joins_81 : decode cX11_joins 81 = .ok (.iload_n 2, 1) := by decide +kernel
theorem dX11_joins_82 : decode cX11_joins 82 = .ok (.iaload, 1) := by decide +kernel
theorem dX11_joins_83 : decode cX11_joins 83 = .ok (.if_icmp .ge 18, 3) := by decide +kernel
theorem dX11_joins_86 : decode cX11_joins 86 = .ok (.iload 4, 2) := by decide +kernel
theorem dX11_joins_88 : decode cX11_joins 88 = .ok (.istore_n 3, 1) := by decide +kernel
theorem dX11_joins_89 : decode cX11_joins 89 = .ok (.aload_n 0, 1) := by decide +kernel
theorem dX11_joins_90 : decode cX11_joins 90 = .ok (.getfield 100, 3) := by decide +kernel
theorem dX11_joins_93 : decode cX11_joins 93 = .ok (.iload 4, 2) := by decide +kernel
theorem dX11_joins_95 : decode cX11_joins 95 = .ok (.iaload, 1) := by decide +kernel
theorem dX11_joins_96 : decode cX11_joins 96 = .ok (.istore 4, 2) := by decide +kernel
theorem dX11_joins_98 : decode cX11_joins 98 = .ok (.goto (-33), 3) := by decide +kernel
theorem dX11_joins_101 : decode cX11_joins 101 = .ok (.aload_n 0, 1) := by decide +kernel
theorem dX11_joins_102 : decode cX11_joins 102 = .ok (.getfield 100, 3) := by decide +kernel
theorem dX11_joins_105 : decode cX11_joins 105 = .ok (.iload_n 2, 1) := by decide +kernel
theorem dX11_joins_106 : decode cX11_joins 106 = .ok (.iload_n 3, 1) := by decide +kernel
theorem dX11_joins_107 : decode cX11_joins 107 = .ok (.ifCond .ge 12, 3) := by decide +kernel
theorem dX11_joins_110 : decode cX11_joins 110 = .ok (.aload_n 0, 1) := by decide +kernel
theorem dX11_joins_111 : decode cX11_joins 111 = .ok (.getfield 94, 3) := by decide +kernel
theorem dX11_joins_114 : decode cX11_joins 114 = .ok (.iload_n 1, 1) := by decide +kernel
theorem dX11_joins_115 : decode cX11_joins 115 = .ok (.iaload, 1) := by decide +kernel
theorem dX11_joins_116 : decode cX11_joins 116 = .ok (.goto 9, 3) := by decide +kernel
theorem dX11_joins_119 : decode cX11_joins 119 = .ok (.aload_n 0, 1) := by decide +kernel
theorem dX11_joins_120 : decode cX11_joins 120 = .ok (.getfield 100, 3) := by decide +kernel
theorem dX11_joins_123 : decode cX11_joins 123 = .ok (.iload_n 3, 1) := by decide +kernel
theorem dX11_joins_124 : decode cX11_joins 124 = .ok (.iaload, 1) := by decide +kernel
theorem dX11_joins_125 : decode cX11_joins 125 = .ok (.iastore, 1) := by decide +kernel
theorem dX11_joins_126 : decode cX11_joins 126 = .ok (.iload_n 3, 1) := by decide +kernel
theorem dX11_joins_127 : decode cX11_joins 127 = .ok (.ifCond .ge 13, 3) := by decide +kernel
theorem dX11_joins_130 : decode cX11_joins 130 = .ok (.aload_n 0, 1) := by decide +kernel
theorem dX11_joins_131 : decode cX11_joins 131 = .ok (.getfield 94, 3) := by decide +kernel
theorem dX11_joins_134 : decode cX11_joins 134 = .ok (.iload_n 1, 1) := by decide +kernel
theorem dX11_joins_135 : decode cX11_joins 135 = .ok (.iload_n 2, 1) := by decide +kernel
theorem dX11_joins_136 : decode cX11_joins 136 = .ok (.iastore, 1) := by decide +kernel
theorem dX11_joins_137 : decode cX11_joins 137 = .ok (.goto 10, 3) := by decide +kernel
theorem dX11_joins_140 : decode cX11_joins 140 = .ok (.aload_n 0, 1) := by decide +kernel
theorem dX11_joins_141 : decode cX11_joins 141 = .ok (.getfield 100, 3) := by decide +kernel
theorem dX11_joins_144 : decode cX11_joins 144 = .ok (.iload_n 3, 1) := by decide +kernel
theorem dX11_joins_145 : decode cX11_joins 145 = .ok (.iload_n 2, 1) := by decide +kernel
theorem dX11_joins_146 : decode cX11_joins 146 = .ok (.iastore, 1) := by decide +kernel
theorem dX11_joins_147 : decode cX11_joins 147 = .ok (.aload_n 0, 1) := by decide +kernel
theorem dX11_joins_148 : decode cX11_joins 148 = .ok (.getfield 100, 3) := by decide +kernel
theorem dX11_joins_151 : decode cX11_joins 151 = .ok (.iload_n 2, 1) := by decide +kernel
theorem dX11_joins_152 : decode cX11_joins 152 = .ok (.iaload, 1) := by decide +kernel
theorem dX11_joins_153 : decode cX11_joins 153 = .ok (.ifCond .ge 10, 3) := by decide +kernel
theorem dX11_joins_156 : decode cX11_joins 156 = .ok (.aload_n 0, 1) := by decide +kernel
theorem dX11_joins_157 : decode cX11_joins 157 = .ok (.getfield 97, 3) := by decide +kernel
theorem dX11_joins_160 : decode cX11_joins 160 = .ok (.iload_n 1, 1) := by decide +kernel
theorem dX11_joins_161 : decode cX11_joins 161 = .ok (.iload_n 2, 1) := by decide +kernel
theorem dX11_joins_162 : decode cX11_joins 162 = .ok (.iastore, 1) := by decide +kernel
theorem dX11_joins_163 : decode cX11_joins 163 = .ok (.return_, 1) := by decide +kernel
theorem dX11_laysNode_0 : decode cX11_laysNode 0 = .ok (.aload_n 0, 1) := by decide +kernel
theorem dX11_laysNode_1 : decode cX11_laysNode 1 = .ok (.getfield 413, 3) := by decide +kernel
theorem dX11_laysNode_4 : decode cX11_laysNode 4 = .ok (.istore 5, 2) := by decide +kernel
theorem dX11_laysNode_6 : decode cX11_laysNode 6 = .ok (.aload_n 0, 1) := by decide +kernel
theorem dX11_laysNode_7 : decode cX11_laysNode 7 = .ok (.dup, 1) := by decide +kernel
theorem dX11_laysNode_8 : decode cX11_laysNode 8 = .ok (.getfield 413, 3) := by decide +kernel
theorem dX11_laysNode_11 : decode cX11_laysNode 11 = .ok (.iconst 1, 1) := by decide +kernel
theorem dX11_laysNode_12 : decode cX11_laysNode 12 = .ok (.iadd, 1) := by decide +kernel
theorem dX11_laysNode_13 : decode cX11_laysNode 13 = .ok (.putfield 413, 3) := by decide +kernel
theorem dX11_laysNode_16 : decode cX11_laysNode 16 = .ok (.aload_n 0, 1) := by decide +kernel
theorem dX11_laysNode_17 : decode cX11_laysNode 17 = .ok (.getfield 70, 3) := by decide +kernel
theorem dX11_laysNode_20 : decode cX11_laysNode 20 = .ok (.iload 5, 2) := by decide +kernel
theorem dX11_laysNode_22 : decode cX11_laysNode 22 = .ok (.iload_n 1, 1) := by decide +kernel
theorem dX11_laysNode_23 : decode cX11_laysNode 23 = .ok (.iastore, 1) := by decide +kernel
theorem dX11_laysNode_24 : decode cX11_laysNode 24 = .ok (.aload_n 0, 1) := by decide +kernel
theorem dX11_laysNode_25 : decode cX11_laysNode 25 = .ok (.getfield 73, 3) := by decide +kernel
theorem dX11_laysNode_28 : decode cX11_laysNode 28 = .ok (.iload 5, 2) := by decide +kernel
theorem dX11_laysNode_30 : decode cX11_laysNode 30 = .ok (.lconst 0, 1) := by decide +kernel
theorem dX11_laysNode_31 : decode cX11_laysNode 31 = .ok (.lastore, 1) := by decide +kernel
theorem dX11_laysNode_32 : decode cX11_laysNode 32 = .ok (.aload_n 0, 1) := by decide +kernel
theorem dX11_laysNode_33 : decode cX11_laysNode 33 = .ok (.getfield 76, 3) := by decide +kernel
theorem dX11_laysNode_36 : decode cX11_laysNode 36 = .ok (.iload 5, 2) := by decide +kernel
theorem dX11_laysNode_38 : decode cX11_laysNode 38 = .ok (.lconst 0, 1) := by decide +kernel
theorem dX11_laysNode_39 : decode cX11_laysNode 39 = .ok (.lastore, 1) := by decide +kernel
theorem dX11_laysNode_40 : decode cX11_laysNode 40 = .ok (.aload_n 0, 1) := by decide +kernel
theorem dX11_laysNode_41 : decode cX11_laysNode 41 = .ok (.getfield 79, 3) := by decide +kernel
theorem dX11_laysNode_44 : decode cX11_laysNode 44 = .ok (.iload 5, 2) := by decide +kernel
theorem dX11_laysNode_46 : decode cX11_laysNode 46 = .ok (.iconst 0, 1) := by decide +kernel
theorem dX11_laysNode_47 : decode cX11_laysNode 47 = .ok (.iastore, 1) := by decide +kernel
theorem dX11_laysNode_48 : decode cX11_laysNode 48 = .ok (.aload_n 0, 1) := by decide +kernel
theorem dX11_laysNode_49 : decode cX11_laysNode 49 = .ok (.getfield 82, 3) := by decide +kernel
theorem dX11_laysNode_52 : decode cX11_laysNode 52 = .ok (.iload 5, 2) := by decide +kernel
theorem dX11_laysNode_54 : decode cX11_laysNode 54 = .ok (.iload_n 2, 1) := by decide +kernel
theorem dX11_laysNode_55 : decode cX11_laysNode 55 = .ok (.iastore, 1) := by decide +kernel
theorem dX11_laysNode_56 : decode cX11_laysNode 56 = .ok (.aload_n 0, 1) := by decide +kernel
theorem dX11_laysNode_57 : decode cX11_laysNode 57 = .ok (.getfield 85, 3) := by decide +kernel
theorem dX11_laysNode_60 : decode cX11_laysNode 60 = .ok (.iload 5, 2) := by decide +kernel
theorem dX11_laysNode_62 : decode cX11_laysNode 62 = .ok (.iload_n 3, 1) := by decide +kernel
theorem dX11_laysNode_63 : decode cX11_laysNode 63 = .ok (.iastore, 1) := by decide +kernel
theorem dX11_laysNode_64 : decode cX11_laysNode 64 = .ok (.aload_n 0, 1) := by decide +kernel
theorem dX11_laysNode_65 : decode cX11_laysNode 65 = .ok (.getfield 88, 3) := by decide +kernel
theorem dX11_laysNode_68 : decode cX11_laysNode 68 = .ok (.iload 5, 2) := by decide +kernel
theorem dX11_laysNode_70 : decode cX11_laysNode 70 = .ok (.iload 4, 2) := by decide +kernel
theorem dX11_laysNode_72 : decode cX11_laysNode 72 = .ok (.iastore, 1) := by decide +kernel
theorem dX11_laysNode_73 : decode cX11_laysNode 73 = .ok (.aload_n 0, 1) := by decide +kernel
theorem dX11_laysNode_74 : decode cX11_laysNode 74 = .ok (.getfield 91, 3) := by decide +kernel
theorem dX11_laysNode_77 : decode cX11_laysNode 77 = .ok (.iload 5, 2) := by decide +kernel
theorem dX11_laysNode_79 : decode cX11_laysNode 79 = .ok (.iconst 0, 1) := by decide +kernel
theorem dX11_laysNode_80 : decode cX11_laysNode 80 = .ok (.bastore, 1) := by decide +kernel
theorem dX11_laysNode_81 : decode cX11_laysNode 81 = .ok (.aload_n 0, 1) := by decide +kernel
theorem dX11_laysNode_82 : decode cX11_laysNode 82 = .ok (.getfield 94, 3) := by decide +kernel
theorem dX11_laysNode_85 : decode cX11_laysNode 85 = .ok (.iload 5, 2) := by decide +kernel
theorem dX11_laysNode_87 : decode cX11_laysNode 87 = .ok (.iconst (-1), 1) := by decide +kernel
theorem dX11_laysNode_88 : decode cX11_laysNode 88 = .ok (.iastore, 1) := by decide +kernel
theorem dX11_laysNode_89 : decode cX11_laysNode 89 = .ok (.aload_n 0, 1) := by decide +kernel
theorem dX11_laysNode_90 : decode cX11_laysNode 90 = .ok (.getfield 97, 3) := by decide +kernel
theorem dX11_laysNode_93 : decode cX11_laysNode 93 = .ok (.iload 5, 2) := by decide +kernel
theorem dX11_laysNode_95 : decode cX11_laysNode 95 = .ok (.iconst (-1), 1) := by decide +kernel
theorem dX11_laysNode_96 : decode cX11_laysNode 96 = .ok (.iastore, 1) := by decide +kernel
theorem dX11_laysNode_97 : decode cX11_laysNode 97 = .ok (.aload_n 0, 1) := by decide +kernel
theorem dX11_laysNode_98 : decode cX11_laysNode 98 = .ok (.getfield 100, 3) := by decide +kernel
theorem dX11_laysNode_101 : decode cX11_laysNode 101 = .ok (.iload 5, 2) := by decide +kernel
theorem dX11_laysNode_103 : decode cX11_laysNode 103 = .ok (.iconst (-1), 1) := by decide +kernel
theorem dX11_laysNode_104 : decode cX11_laysNode 104 = .ok (.iastore, 1) := by decide +kernel
theorem dX11_laysNode_105 : decode cX11_laysNode 105 = .ok (.iload_n 2, 1) := by decide +kernel
theorem dX11_laysNode_106 : decode cX11_laysNode 106 = .ok (.ifCond .lt 10, 3) := by decide +kernel
theorem dX11_laysNode_109 : decode cX11_laysNode 109 = .ok (.aload_n 0, 1) := by decide +kernel
theorem dX11_laysNode_110 : decode cX11_laysNode 110 = .ok (.iload_n 2, 1) := by decide +kernel
theorem dX11_laysNode_111 : decode cX11_laysNode 111 = .ok (.iload 5, 2) := by decide +kernel
theorem dX11_laysNode_113 : decode cX11_laysNode 113 = .ok (.invokevirtual 416, 3) := by decide +kernel
theorem dX11_laysNode_116 : decode cX11_laysNode 116 = .ok (.iload 5, 2) := by decide +kernel
theorem dX11_laysNode_118 : decode cX11_laysNode 118 = .ok (.ireturn, 1) := by decide +kernel
theorem dX11_laysPairs_0 : decode cX11_laysPairs 0 = .ok (.aload_n 0, 1) := by decide +kernel
theorem dX11_laysPairs_1 : decode cX11_laysPairs 1 = .ok (.iload_n 1, 1) := by decide +kernel
theorem dX11_laysPairs_2 : decode cX11_laysPairs 2 = .ok (.putfield 492, 3) := by decide +kernel
theorem dX11_laysPairs_5 : decode cX11_laysPairs 5 = .ok (.aload_n 0, 1) := by decide +kernel
theorem dX11_laysPairs_6 : decode cX11_laysPairs 6 = .ok (.iload_n 2, 1) := by decide +kernel
theorem dX11_laysPairs_7 : decode cX11_laysPairs 7 = .ok (.putfield 495, 3) := by decide +kernel
theorem dX11_laysPairs_10 : decode cX11_laysPairs 10 = .ok (.iconst 0, 1) := by decide +kernel
theorem dX11_laysPairs_11 : decode cX11_laysPairs 11 = .ok (.istore_n 3, 1) := by decide +kernel
theorem dX11_laysPairs_12 : decode cX11_laysPairs 12 = .ok (.iload_n 3, 1) := by decide +kernel
theorem dX11_laysPairs_13 : decode cX11_laysPairs 13 = .ok (.bipush 36, 2) := by decide +kernel
theorem dX11_laysPairs_15 : decode cX11_laysPairs 15 = .ok (.if_icmp .ge 46, 3) := by decide +kernel
theorem dX11_laysPairs_18 : decode cX11_laysPairs 18 = .ok (.aload_n 0, 1) := by decide +kernel
theorem dX11_laysPairs_19 : decode cX11_laysPairs 19 = .ok (.getfield 115, 3) := by decide +kernel
theorem dX11_laysPairs_22 : decode cX11_laysPairs 22 = .ok (.iload_n 3, 1) := by decide +kernel
theorem dX11_laysPairs_23 : decode cX11_laysPairs 23 = .ok (.iload_n 3, 1) := by decide +kernel
theorem dX11_laysPairs_24 : decode cX11_laysPairs 24 = .ok (.bipush 6, 2) := by decide +kernel
theorem dX11_laysPairs_26 : decode cX11_laysPairs 26 = .ok (.idiv, 1) := by decide +kernel
theorem dX11_laysPairs_27 : decode cX11_laysPairs 27 = .ok (.aload_n 0, 1) := by decide +kernel
theorem dX11_laysPairs_28 : decode cX11_laysPairs 28 = .ok (.getfield 33, 3) := by decide +kernel
theorem dX11_laysPairs_31 : decode cX11_laysPairs 31 = .ok (.iload_n 1, 1) := by decide +kernel
theorem dX11_laysPairs_32 : decode cX11_laysPairs 32 = .ok (.iaload, 1) := by decide +kernel
theorem dX11_laysPairs_33 : decode cX11_laysPairs 33 = .ok (.if_icmp .ge 20, 3) := by decide +kernel
theorem dX11_laysPairs_36 : decode cX11_laysPairs 36 = .ok (.iload_n 3, 1) := by decide +kernel
theorem dX11_laysPairs_37 : decode cX11_laysPairs 37 = .ok (.bipush 6, 2) := by decide +kernel
theorem dX11_laysPairs_39 : decode cX11_laysPairs 39 = .ok (.irem, 1) := by decide +kernel
theorem dX11_laysPairs_40 : decode cX11_laysPairs 40 = .ok (.aload_n 0, 1) := by decide +kernel
theorem dX11_laysPairs_41 : decode cX11_laysPairs 41 = .ok (.getfield 33, 3) := by decide +kernel
theorem dX11_laysPairs_44 : decode cX11_laysPairs 44 = .ok (.iload_n 2, 1) := by decide +kernel
theorem dX11_laysPairs_45 : decode cX11_laysPairs 45 = .ok (.iaload, 1) := by decide +kernel
theorem dX11_laysPairs_46 : decode cX11_laysPairs 46 = .ok (.if_icmp .ge 7, 3) := by decide +kernel
theorem dX11_laysPairs_49 : decode cX11_laysPairs 49 = .ok (.iconst 1, 1) := by decide +kernel
theorem dX11_laysPairs_50 : decode cX11_laysPairs 50 = .ok (.goto 4, 3) := by decide +kernel
theorem dX11_laysPairs_53 : decode cX11_laysPairs 53 = .ok (.iconst 0, 1) := by decide +kernel
theorem dX11_laysPairs_54 : decode cX11_laysPairs 54 = .ok (.bastore, 1) := by decide +kernel
theorem dX11_laysPairs_55 : decode cX11_laysPairs 55 = .ok (.iinc 3 1, 3) := by decide +kernel
theorem dX11_laysPairs_58 : decode cX11_laysPairs 58 = .ok (.goto (-46), 3) := by decide +kernel
theorem dX11_laysPairs_61 : decode cX11_laysPairs 61 = .ok (.iconst 1, 1) := by decide +kernel
theorem dX11_laysPairs_62 : decode cX11_laysPairs 62 = .ok (.istore_n 3, 1) := by decide +kernel
theorem dX11_laysPairs_63 : decode cX11_laysPairs 63 = .ok (.iload_n 3, 1) := by decide +kernel
theorem dX11_laysPairs_64 : decode cX11_laysPairs 64 = .ok (.ifCond .eq 61, 3) := by decide +kernel
theorem dX11_laysPairs_67 : decode cX11_laysPairs 67 = .ok (.iconst 0, 1) := by decide +kernel
theorem dX11_laysPairs_68 : decode cX11_laysPairs 68 = .ok (.istore_n 3, 1) := by decide +kernel
theorem dX11_laysPairs_69 : decode cX11_laysPairs 69 = .ok (.iconst 0, 1) := by decide +kernel
theorem dX11_laysPairs_70 : decode cX11_laysPairs 70 = .ok (.istore 4, 2) := by decide +kernel
theorem dX11_laysPairs_72 : decode cX11_laysPairs 72 = .ok (.iload 4, 2) := by decide +kernel
theorem dX11_laysPairs_74 : decode cX11_laysPairs 74 = .ok (.bipush 36, 2) := by decide +kernel
theorem dX11_laysPairs_76 : decode cX11_laysPairs 76 = .ok (.if_icmp .ge 46, 3) := by decide +kernel
theorem dX11_laysPairs_79 : decode cX11_laysPairs 79 = .ok (.aload_n 0, 1) := by decide +kernel
theorem dX11_laysPairs_80 : decode cX11_laysPairs 80 = .ok (.getfield 115, 3) := by decide +kernel
theorem dX11_laysPairs_83 : decode cX11_laysPairs 83 = .ok (.iload 4, 2) := by decide +kernel
theorem dX11_laysPairs_85 : decode cX11_laysPairs 85 = .ok (.baload, 1) := by decide +kernel
theorem dX11_laysPairs_86 : decode cX11_laysPairs 86 = .ok (.ifCond .eq 30, 3) := by decide +kernel
theorem dX11_laysPairs_89 : decode cX11_laysPairs 89 = .ok (.aload_n 0, 1) := by decide +kernel
theorem dX11_laysPairs_90 : decode cX11_laysPairs 90 = .ok (.iload 4, 2) := by decide +kernel
theorem dX11_laysPairs_92 : decode cX11_laysPairs 92 = .ok (.bipush 6, 2) := by decide +kernel
theorem dX11_laysPairs_94 : decode cX11_laysPairs 94 = .ok (.idiv, 1) := by decide +kernel
theorem dX11_laysPairs_95 : decode cX11_laysPairs 95 = .ok (.iload 4, 2) := by decide +kernel
theorem dX11_laysPairs_97 : decode cX11_laysPairs 97 = .ok (.bipush 6, 2) := by decide +kernel
theorem dX11_laysPairs_99 : decode cX11_laysPairs 99 = .ok (.irem, 1) := by decide +kernel
theorem dX11_laysPairs_100 : decode cX11_laysPairs 100 = .ok (.invokevirtual 510, 3) := by decide +kernel
theorem dX11_laysPairs_103 : decode cX11_laysPairs 103 = .ok (.ifCond .ne 13, 3) := by decide +kernel
theorem dX11_laysPairs_106 : decode cX11_laysPairs 106 = .ok (.aload_n 0, 1) := by decide +kernel
theorem dX11_laysPairs_107 : decode cX11_laysPairs 107 = .ok (.getfield 115, 3) := by decide +kernel
theorem dX11_laysPairs_110 : decode cX11_laysPairs 110 = .ok (.iload 4, 2) := by decide +kernel
theorem dX11_laysPairs_112 : decode cX11_laysPairs 112 = .ok (.iconst 0, 1) := by decide +kernel
theorem dX11_laysPairs_113 : decode cX11_laysPairs 113 = .ok (.bastore, 1) := by decide +kernel
theorem dX11_laysPairs_114 : decode cX11_laysPairs 114 = .ok (.iconst 1, 1) := by decide +kernel
theorem dX11_laysPairs_115 : decode cX11_laysPairs 115 = .ok (.istore_n 3, 1) := by decide +kernel
theorem dX11_laysPairs_116 : decode cX11_laysPairs 116 = .ok (.iinc 4 1, 3) := by decide +kernel
theorem dX11_laysPairs_119 : decode cX11_laysPairs 119 = .ok (.goto (-47), 3) := by decide +kernel
theorem dX11_laysPairs_122 : decode cX11_laysPairs 122 = .ok (.goto (-59), 3) := by decide +kernel
theorem dX11_laysPairs_125 : decode cX11_laysPairs 125 = .ok (.return_, 1) := by decide +kernel
theorem dX11_nextByte_0 : decode cX11_nextByte 0 = .ok (.aload_n 0, 1) := by decide +kernel
theorem dX11_nextByte_1 : decode cX11_nextByte 1 = .ok (.getfield 548, 3) := by decide +kernel
theorem dX11_nextByte_4 : decode cX11_nextByte 4 = .ok (.aload_n 0, 1) := by decide +kernel
theorem dX11_nextByte_5 : decode cX11_nextByte 5 = .ok (.getfield 551, 3) := by decide +kernel
theorem dX11_nextByte_8 : decode cX11_nextByte 8 = .ok (.if_icmp .ne 16, 3) := by decide +kernel
theorem dX11_nextByte_11 : decode cX11_nextByte 11 = .ok (.aload_n 0, 1) := by decide +kernel
theorem dX11_nextByte_12 : decode cX11_nextByte 12 = .ok (.bipush 11, 2) := by decide +kernel
theorem dX11_nextByte_14 : decode cX11_nextByte 14 = .ok (.aload_n 0, 1) := by decide +kernel
theorem dX11_nextByte_15 : decode cX11_nextByte 15 = .ok (.getfield 551, 3) := by decide +kernel
theorem dX11_nextByte_18 : decode cX11_nextByte 18 = .ok (.invokevirtual 554, 3) := by decide +kernel
theorem dX11_nextByte_21 : decode cX11_nextByte 21 = .ok (.istore_n 1, 1) := by decide +kernel
theorem dX11_nextByte_22 : decode cX11_nextByte 22 = .ok (.iconst (-1), 1) := by decide +kernel
theorem dX11_nextByte_23 : decode cX11_nextByte 23 = .ok (.ireturn, 1) := by decide +kernel
theorem dX11_nextByte_24 : decode cX11_nextByte 24 = .ok (.aload_n 0, 1) := by decide +kernel
theorem dX11_nextByte_25 : decode cX11_nextByte 25 = .ok (.dup, 1) := by decide +kernel
theorem dX11_nextByte_26 : decode cX11_nextByte 26 = .ok (.getfield 548, 3) := by decide +kernel
theorem dX11_nextByte_29 : decode cX11_nextByte 29 = .ok (.iconst 1, 1) := by decide +kernel
theorem dX11_nextByte_30 : decode cX11_nextByte 30 = .ok (.iadd, 1) := by decide +kernel
theorem dX11_nextByte_31 : decode cX11_nextByte 31 = .ok (.putfield 548, 3) := by decide +kernel
theorem dX11_nextByte_34 : decode cX11_nextByte 34 = .ok (.aload_n 0, 1) := by decide +kernel
theorem dX11_nextByte_35 : decode cX11_nextByte 35 = .ok (.getfield 112, 3) := by decide +kernel
theorem dX11_nextByte_38 : decode cX11_nextByte 38 = .ok (.aload_n 0, 1) := by decide +kernel
theorem dX11_nextByte_39 : decode cX11_nextByte 39 = .ok (.getfield 557, 3) := by decide +kernel
theorem dX11_nextByte_42 : decode cX11_nextByte 42 = .ok (.aload_n 0, 1) := by decide +kernel
theorem dX11_nextByte_43 : decode cX11_nextByte 43 = .ok (.getfield 548, 3) := by decide +kernel
theorem dX11_nextByte_46 : decode cX11_nextByte 46 = .ok (.iadd, 1) := by decide +kernel
theorem dX11_nextByte_47 : decode cX11_nextByte 47 = .ok (.iconst 1, 1) := by decide +kernel
theorem dX11_nextByte_48 : decode cX11_nextByte 48 = .ok (.isub, 1) := by decide +kernel
theorem dX11_nextByte_49 : decode cX11_nextByte 49 = .ok (.baload, 1) := by decide +kernel
theorem dX11_nextByte_50 : decode cX11_nextByte 50 = .ok (.sipush 255, 3) := by decide +kernel
theorem dX11_nextByte_53 : decode cX11_nextByte 53 = .ok (.iand, 1) := by decide +kernel
theorem dX11_nextByte_54 : decode cX11_nextByte 54 = .ok (.ireturn, 1) := by decide +kernel
theorem dX11_readsFlag_0 : decode cX11_readsFlag 0 = .ok (.aload_n 0, 1) := by decide +kernel
theorem dX11_readsFlag_1 : decode cX11_readsFlag 1 = .ok (.invokevirtual 560, 3) := by decide +kernel
theorem dX11_readsFlag_4 : decode cX11_readsFlag 4 = .ok (.istore_n 2, 1) := by decide +kernel
theorem dX11_readsFlag_5 : decode cX11_readsFlag 5 = .ok (.aload_n 0, 1) := by decide +kernel
theorem dX11_readsFlag_6 : decode cX11_readsFlag 6 = .ok (.iload_n 2, 1) := by decide +kernel
theorem dX11_readsFlag_7 : decode cX11_readsFlag 7 = .ok (.i2l, 1) := by decide +kernel
theorem dX11_readsFlag_8 : decode cX11_readsFlag 8 = .ok (.putfield 563, 3) := by decide +kernel
theorem dX11_readsFlag_11 : decode cX11_readsFlag 11 = .ok (.iload_n 2, 1) := by decide +kernel
theorem dX11_readsFlag_12 : decode cX11_readsFlag 12 = .ok (.ifCond .lt 22, 3) := by decide +kernel
theorem dX11_readsFlag_15 : decode cX11_readsFlag 15 = .ok (.iload_n 2, 1) := by decide +kernel
theorem dX11_readsFlag_16 : decode cX11_readsFlag 16 = .ok (.iconst 2, 1) := by decide +kernel
theorem dX11_readsFlag_17 : decode cX11_readsFlag 17 = .ok (.if_icmp .lt 13, 3) := by decide +kernel
theorem dX11_readsFlag_20 : decode cX11_readsFlag 20 = .ok (.aload_n 0, 1) := by decide +kernel
theorem dX11_readsFlag_21 : decode cX11_readsFlag 21 = .ok (.bipush 12, 2) := by decide +kernel
theorem dX11_readsFlag_23 : decode cX11_readsFlag 23 = .ok (.iload_n 1, 1) := by decide +kernel
theorem dX11_readsFlag_24 : decode cX11_readsFlag 24 = .ok (.invokevirtual 554, 3) := by decide +kernel
theorem dX11_readsFlag_27 : decode cX11_readsFlag 27 = .ok (.ifCond .eq 7, 3) := by decide +kernel
theorem dX11_readsFlag_30 : decode cX11_readsFlag 30 = .ok (.iconst 1, 1) := by decide +kernel
theorem dX11_readsFlag_31 : decode cX11_readsFlag 31 = .ok (.goto 4, 3) := by decide +kernel
theorem dX11_readsFlag_34 : decode cX11_readsFlag 34 = .ok (.iconst 0, 1) := by decide +kernel
theorem dX11_readsFlag_35 : decode cX11_readsFlag 35 = .ok (.ireturn, 1) := by decide +kernel
theorem dX11_readsInt_0 : decode cX11_readsInt 0 = .ok (.aload_n 0, 1) := by decide +kernel
theorem dX11_readsInt_1 : decode cX11_readsInt 1 = .ok (.iload_n 1, 1) := by decide +kernel
theorem dX11_readsInt_2 : decode cX11_readsInt 2 = .ok (.invokevirtual 566, 3) := by decide +kernel
theorem dX11_readsInt_5 : decode cX11_readsInt 5 = .ok (.ifCond .eq 30, 3) := by decide +kernel
theorem dX11_readsInt_8 : decode cX11_readsInt 8 = .ok (.aload_n 0, 1) := by decide +kernel
theorem dX11_readsInt_9 : decode cX11_readsInt 9 = .ok (.getfield 563, 3) := by decide +kernel
theorem dX11_readsInt_12 : decode cX11_readsInt 12 = .ok (.lload_n 2, 1) := by decide +kernel
theorem dX11_readsInt_13 : decode cX11_readsInt 13 = .ok (.lload 4, 2) := by decide +kernel
theorem dX11_readsInt_15 : decode cX11_readsInt 15 = .ok (.invokestatic 196, 3) := by decide +kernel
theorem dX11_readsInt_18 : decode cX11_readsInt 18 = .ok (.ifCond .ne 13, 3) := by decide +kernel
theorem dX11_readsInt_21 : decode cX11_readsInt 21 = .ok (.aload_n 0, 1) := by decide +kernel
theorem dX11_readsInt_22 : decode cX11_readsInt 22 = .ok (.bipush 12, 2) := by decide +kernel
theorem dX11_readsInt_24 : decode cX11_readsInt 24 = .ok (.iload_n 1, 1) := by decide +kernel
theorem dX11_readsInt_25 : decode cX11_readsInt 25 = .ok (.invokevirtual 554, 3) := by decide +kernel
theorem dX11_readsInt_28 : decode cX11_readsInt 28 = .ok (.ifCond .eq 7, 3) := by decide +kernel
theorem dX11_readsInt_31 : decode cX11_readsInt 31 = .ok (.iconst 1, 1) := by decide +kernel
theorem dX11_readsInt_32 : decode cX11_readsInt 32 = .ok (.goto 4, 3) := by decide +kernel
theorem dX11_readsInt_35 : decode cX11_readsInt 35 = .ok (.iconst 0, 1) := by decide +kernel
theorem dX11_readsInt_36 : decode cX11_readsInt 36 = .ok (.ireturn, 1) := by decide +kernel
theorem dX11_readsNumber_0 : decode cX11_readsNumber 0 = .ok (.lconst 0, 1) := by decide +kernel
theorem dX11_readsNumber_1 : decode cX11_readsNumber 1 = .ok (.lstore_n 2, 1) := by decide +kernel
theorem dX11_readsNumber_2 : decode cX11_readsNumber 2 = .ok (.iconst 0, 1) := by decide +kernel
theorem dX11_readsNumber_3 : decode cX11_readsNumber 3 = .ok (.istore 4, 2) := by decide +kernel
theorem dX11_readsNumber_5 : decode cX11_readsNumber 5 = .ok (.iload 4, 2) := by decide +kernel
theorem dX11_readsNumber_7 : decode cX11_readsNumber 7 = .ok (.bipush 10, 2) := by decide +kernel
theorem dX11_readsNumber_9 : decode cX11_readsNumber 9 = .ok (.if_icmp .ge 81, 3) := by decide +kernel
theorem dX11_readsNumber_12 : decode cX11_readsNumber 12 = .ok (.aload_n 0, 1) := by decide +kernel
theorem dX11_readsNumber_13 : decode cX11_readsNumber 13 = .ok (.invokevirtual 560, 3) := by decide +kernel
theorem dX11_readsNumber_16 : decode cX11_readsNumber 16 = .ok (.istore 5, 2) := by decide +kernel
theorem dX11_readsNumber_18 : decode cX11_readsNumber 18 = .ok (.iload 5, 2) := by decide +kernel
theorem dX11_readsNumber_20 : decode cX11_readsNumber 20 = .ok (.ifCond .ge 5, 3) := by decide +kernel
theorem dX11_readsNumber_23 : decode cX11_readsNumber 23 = .ok (.iconst 0, 1) := by decide +kernel
theorem dX11_readsNumber_24 : decode cX11_readsNumber 24 = .ok (.ireturn, 1) := by decide +kernel
theorem dX11_readsNumber_25 : decode cX11_readsNumber 25 = .ok (.iload 4, 2) := by decide +kernel
theorem dX11_readsNumber_27 : decode cX11_readsNumber 27 = .ok (.bipush 9, 2) := by decide +kernel
theorem dX11_readsNumber_29 : decode cX11_readsNumber 29 = .ok (.if_icmp .ne 17, 3) := by decide +kernel
theorem dX11_readsNumber_32 : decode cX11_readsNumber 32 = .ok (.iload 5, 2) := by decide +kernel
theorem dX11_readsNumber_34 : decode cX11_readsNumber 34 = .ok (.iconst 1, 1) := by decide +kernel
theorem dX11_readsNumber_35 : decode cX11_readsNumber 35 = .ok (.if_icmp .le 11, 3) := by decide +kernel
theorem dX11_readsNumber_38 : decode cX11_readsNumber 38 = .ok (.aload_n 0, 1) := by decide +kernel
theorem dX11_readsNumber_39 : decode cX11_readsNumber 39 = .ok (.bipush 12, 2) := by decide +kernel
theorem dX11_readsNumber_41 : decode cX11_readsNumber 41 = .ok (.iload_n 1, 1) := by decide +kernel
theorem dX11_readsNumber_42 : decode cX11_readsNumber 42 = .ok (.invokevirtual 554, 3) := by decide +kernel
theorem dX11_readsNumber_45 : decode cX11_readsNumber 45 = .ok (.ireturn, 1) := by decide +kernel
theorem dX11_readsNumber_46 : decode cX11_readsNumber 46 = .ok (.lload_n 2, 1) := by decide +kernel
theorem dX11_readsNumber_47 : decode cX11_readsNumber 47 = .ok (.iload 5, 2) := by decide +kernel
theorem dX11_readsNumber_49 : decode cX11_readsNumber 49 = .ok (.i2l, 1) := by decide +kernel
theorem dX11_readsNumber_50 : decode cX11_readsNumber 50 = .ok (.ldc2_w 456, 3) := by decide +kernel
theorem dX11_readsNumber_53 : decode cX11_readsNumber 53 = .ok (.land, 1) := by decide +kernel
theorem dX11_readsNumber_54 : decode cX11_readsNumber 54 = .ok (.bipush 7, 2) := by decide +kernel
theorem dX11_readsNumber_56 : decode cX11_readsNumber 56 = .ok (.iload 4, 2) := by decide +kernel
theorem dX11_readsNumber_58 : decode cX11_readsNumber 58 = .ok (.imul, 1) := by decide +kernel
theorem dX11_readsNumber_59 : decode cX11_readsNumber 59 = .ok (.lshl, 1) := by decide +kernel
theorem dX11_readsNumber_60 : decode cX11_readsNumber 60 = .ok (.lor, 1) := by decide +kernel
theorem dX11_readsNumber_61 : decode cX11_readsNumber 61 = .ok (.lstore_n 2, 1) := by decide +kernel
theorem dX11_readsNumber_62 : decode cX11_readsNumber 62 = .ok (.iload 5, 2) := by decide +kernel
theorem dX11_readsNumber_64 : decode cX11_readsNumber 64 = .ok (.sipush 128, 3) := by decide +kernel
theorem dX11_readsNumber_67 : decode cX11_readsNumber 67 = .ok (.if_icmp .ge 17, 3) := by decide +kernel
theorem dX11_readsNumber_70 : decode cX11_readsNumber 70 = .ok (.aload_n 0, 1) := by decide +kernel
theorem dX11_readsNumber_71 : decode cX11_readsNumber 71 = .ok (.lload_n 2, 1) := by decide +kernel
theorem dX11_readsNumber_72 : decode cX11_readsNumber 72 = .ok (.iconst 1, 1) := by decide +kernel
theorem dX11_readsNumber_73 : decode cX11_readsNumber 73 = .ok (.lushr, 1) := by decide +kernel
theorem dX11_readsNumber_74 : decode cX11_readsNumber 74 = .ok (.lload_n 2, 1) := by decide +kernel
theorem dX11_readsNumber_75 : decode cX11_readsNumber 75 = .ok (.lconst 1, 1) := by decide +kernel
theorem dX11_readsNumber_76 : decode cX11_readsNumber 76 = .ok (.land, 1) := by decide +kernel
theorem dX11_readsNumber_77 : decode cX11_readsNumber 77 = .ok (.lneg, 1) := by decide +kernel
theorem dX11_readsNumber_78 : decode cX11_readsNumber 78 = .ok (.lxor, 1) := by decide +kernel
theorem dX11_readsNumber_79 : decode cX11_readsNumber 79 = .ok (.putfield 563, 3) := by decide +kernel
theorem dX11_readsNumber_82 : decode cX11_readsNumber 82 = .ok (.iconst 1, 1) := by decide +kernel
theorem dX11_readsNumber_83 : decode cX11_readsNumber 83 = .ok (.ireturn, 1) := by decide +kernel
theorem dX11_readsNumber_84 : decode cX11_readsNumber 84 = .ok (.iinc 4 1, 3) := by decide +kernel
theorem dX11_readsNumber_87 : decode cX11_readsNumber 87 = .ok (.goto (-82), 3) := by decide +kernel
theorem dX11_readsNumber_90 : decode cX11_readsNumber 90 = .ok (.iconst 0, 1) := by decide +kernel
theorem dX11_readsNumber_91 : decode cX11_readsNumber 91 = .ok (.ireturn, 1) := by decide +kernel
theorem dX11_readsReal_0 : decode cX11_readsReal 0 = .ok (.aload_n 0, 1) := by decide +kernel
theorem dX11_readsReal_1 : decode cX11_readsReal 1 = .ok (.lconst 0, 1) := by decide +kernel
theorem dX11_readsReal_2 : decode cX11_readsReal 2 = .ok (.putfield 563, 3) := by decide +kernel
theorem dX11_readsReal_5 : decode cX11_readsReal 5 = .ok (.iconst 0, 1) := by decide +kernel
theorem dX11_readsReal_6 : decode cX11_readsReal 6 = .ok (.istore_n 1, 1) := by decide +kernel
theorem dX11_readsReal_7 : decode cX11_readsReal 7 = .ok (.iload_n 1, 1) := by decide +kernel
theorem dX11_readsReal_8 : decode cX11_readsReal 8 = .ok (.bipush 8, 2) := by decide +kernel
theorem dX11_readsReal_10 : decode cX11_readsReal 10 = .ok (.if_icmp .ge 34, 3) := by decide +kernel
theorem dX11_readsReal_13 : decode cX11_readsReal 13 = .ok (.aload_n 0, 1) := by decide +kernel
theorem dX11_readsReal_14 : decode cX11_readsReal 14 = .ok (.invokevirtual 560, 3) := by decide +kernel
theorem dX11_readsReal_17 : decode cX11_readsReal 17 = .ok (.istore_n 2, 1) := by decide +kernel
theorem dX11_readsReal_18 : decode cX11_readsReal 18 = .ok (.iload_n 2, 1) := by decide +kernel
theorem dX11_readsReal_19 : decode cX11_readsReal 19 = .ok (.ifCond .ge 5, 3) := by decide +kernel
theorem dX11_readsReal_22 : decode cX11_readsReal 22 = .ok (.iconst 0, 1) := by decide +kernel
theorem dX11_readsReal_23 : decode cX11_readsReal 23 = .ok (.ireturn, 1) := by decide +kernel
theorem dX11_readsReal_24 : decode cX11_readsReal 24 = .ok (.aload_n 0, 1) := by decide +kernel
theorem dX11_readsReal_25 : decode cX11_readsReal 25 = .ok (.aload_n 0, 1) := by decide +kernel
theorem dX11_readsReal_26 : decode cX11_readsReal 26 = .ok (.getfield 563, 3) := by decide +kernel
theorem dX11_readsReal_29 : decode cX11_readsReal 29 = .ok (.bipush 8, 2) := by decide +kernel
theorem dX11_readsReal_31 : decode cX11_readsReal 31 = .ok (.lshl, 1) := by decide +kernel
theorem dX11_readsReal_32 : decode cX11_readsReal 32 = .ok (.iload_n 2, 1) := by decide +kernel
theorem dX11_readsReal_33 : decode cX11_readsReal 33 = .ok (.i2l, 1) := by decide +kernel
theorem dX11_readsReal_34 : decode cX11_readsReal 34 = .ok (.lor, 1) := by decide +kernel
theorem dX11_readsReal_35 : decode cX11_readsReal 35 = .ok (.putfield 563, 3) := by decide +kernel
theorem dX11_readsReal_38 : decode cX11_readsReal 38 = .ok (.iinc 1 1, 3) := by decide +kernel
theorem dX11_readsReal_41 : decode cX11_readsReal 41 = .ok (.goto (-34), 3) := by decide +kernel
theorem dX11_readsReal_44 : decode cX11_readsReal 44 = .ok (.iconst 1, 1) := by decide +kernel
theorem dX11_readsReal_45 : decode cX11_readsReal 45 = .ok (.ireturn, 1) := by decide +kernel
theorem dX11_readsText_0 : decode cX11_readsText 0 = .ok (.aload_n 0, 1) := by decide +kernel
theorem dX11_readsText_1 : decode cX11_readsText 1 = .ok (.iload_n 1, 1) := by decide +kernel
theorem dX11_readsText_2 : decode cX11_readsText 2 = .ok (.lconst 0, 1) := by decide +kernel
theorem dX11_readsText_3 : decode cX11_readsText 3 = .ok (.ldc2_w 569, 3) := by decide +kernel
theorem dX11_readsText_6 : decode cX11_readsText 6 = .ok (.invokevirtual 571, 3) := by decide +kernel
theorem dX11_readsText_9 : decode cX11_readsText 9 = .ok (.ifCond .ne 5, 3) := by decide +kernel
theorem dX11_readsText_12 : decode cX11_readsText 12 = .ok (.iconst 0, 1) := by decide +kernel
theorem dX11_readsText_13 : decode cX11_readsText 13 = .ok (.ireturn, 1) := by decide +kernel
theorem dX11_readsText_14 : decode cX11_readsText 14 = .ok (.aload_n 0, 1) := by decide +kernel
theorem dX11_readsText_15 : decode cX11_readsText 15 = .ok (.getfield 563, 3) := by decide +kernel
theorem dX11_readsText_18 : decode cX11_readsText 18 = .ok (.l2i, 1) := by decide +kernel
theorem dX11_readsText_19 : decode cX11_readsText 19 = .ok (.istore_n 2, 1) := by decide +kernel
theorem dX11_readsText_20 : decode cX11_readsText 20 = .ok (.aload_n 0, 1) := by decide +kernel
theorem dX11_readsText_21 : decode cX11_readsText 21 = .ok (.lconst 0, 1) := by decide +kernel
theorem dX11_readsText_22 : decode cX11_readsText 22 = .ok (.putfield 575, 3) := by decide +kernel
theorem dX11_readsText_25 : decode cX11_readsText 25 = .ok (.aload_n 0, 1) := by decide +kernel
theorem dX11_readsText_26 : decode cX11_readsText 26 = .ok (.iload_n 2, 1) := by decide +kernel
theorem dX11_readsText_27 : decode cX11_readsText 27 = .ok (.putfield 578, 3) := by decide +kernel
theorem dX11_readsText_30 : decode cX11_readsText 30 = .ok (.iconst 0, 1) := by decide +kernel
theorem dX11_readsText_31 : decode cX11_readsText 31 = .ok (.istore_n 3, 1) := by decide +kernel
theorem dX11_readsText_32 : decode cX11_readsText 32 = .ok (.iload_n 3, 1) := by decide +kernel
theorem dX11_readsText_33 : decode cX11_readsText 33 = .ok (.iload_n 2, 1) := by decide +kernel
theorem dX11_readsText_34 : decode cX11_readsText 34 = .ok (.if_icmp .ge 58, 3) := by decide +kernel
theorem dX11_readsText_37 : decode cX11_readsText 37 = .ok (.aload_n 0, 1) := by decide +kernel
theorem dX11_readsText_38 : decode cX11_readsText 38 = .ok (.invokevirtual 560, 3) := by decide +kernel
theorem dX11_readsText_41 : decode cX11_readsText 41 = .ok (.istore 4, 2) := by decide +kernel
theorem dX11_readsText_43 : decode cX11_readsText 43 = .ok (.iload 4, 2) := by decide +kernel
theorem dX11_readsText_45 : decode cX11_readsText 45 = .ok (.ifCond .ge 5, 3) := by decide +kernel
theorem dX11_readsText_48 : decode cX11_readsText 48 = .ok (.iconst 0, 1) := by decide +kernel
theorem dX11_readsText_49 : decode cX11_readsText 49 = .ok (.ireturn, 1) := by decide +kernel
theorem dX11_readsText_50 : decode cX11_readsText 50 = .ok (.iload 4, 2) := by decide +kernel
theorem dX11_readsText_52 : decode cX11_readsText 52 = .ok (.invokestatic 218, 3) := by decide +kernel
theorem dX11_readsText_55 : decode cX11_readsText 55 = .ok (.ifCond .ne 11, 3) := by decide +kernel
theorem dX11_readsText_58 : decode cX11_readsText 58 = .ok (.aload_n 0, 1) := by decide +kernel
theorem dX11_readsText_59 : decode cX11_readsText 59 = .ok (.bipush 12, 2) := by decide +kernel
theorem dX11_readsText_61 : decode cX11_readsText 61 = .ok (.iload_n 1, 1) := by decide +kernel
theorem dX11_readsText_62 : decode cX11_readsText 62 = .ok (.invokevirtual 554, 3) := by decide +kernel
theorem dX11_readsText_65 : decode cX11_readsText 65 = .ok (.ireturn, 1) := by decide +kernel
theorem dX11_readsText_66 : decode cX11_readsText 66 = .ok (.aload_n 0, 1) := by decide +kernel
theorem dX11_readsText_67 : decode cX11_readsText 67 = .ok (.ldc2_w 222, 3) := by decide +kernel
theorem dX11_readsText_70 : decode cX11_readsText 70 = .ok (.aload_n 0, 1) := by decide +kernel
theorem dX11_readsText_71 : decode cX11_readsText 71 = .ok (.getfield 575, 3) := by decide +kernel
theorem dX11_readsText_74 : decode cX11_readsText 74 = .ok (.lmul, 1) := by decide +kernel
theorem dX11_readsText_75 : decode cX11_readsText 75 = .ok (.iload 4, 2) := by decide +kernel
theorem dX11_readsText_77 : decode cX11_readsText 77 = .ok (.i2l, 1) := by decide +kernel
theorem dX11_readsText_78 : decode cX11_readsText 78 = .ok (.ladd, 1) := by decide +kernel
theorem dX11_readsText_79 : decode cX11_readsText 79 = .ok (.ldc2_w 224, 3) := by decide +kernel
theorem dX11_readsText_82 : decode cX11_readsText 82 = .ok (.lsub, 1) := by decide +kernel
theorem dX11_readsText_83 : decode cX11_readsText 83 = .ok (.putfield 575, 3) := by decide +kernel
theorem dX11_readsText_86 : decode cX11_readsText 86 = .ok (.iinc 3 1, 3) := by decide +kernel
theorem dX11_readsText_89 : decode cX11_readsText 89 = .ok (.goto (-57), 3) := by decide +kernel
theorem dX11_readsText_92 : decode cX11_readsText 92 = .ok (.iconst 1, 1) := by decide +kernel
theorem dX11_readsText_93 : decode cX11_readsText 93 = .ok (.ireturn, 1) := by decide +kernel
def f_X11_holds_94 (k24 : Int32 → Int32 → Int32 → ST → Option (Int32 × ST)) (x1 : Int32) (x3 : Int32) (x4 : Int32) (σ : ST) : Option (Int32 × ST) := k24 x1 x3 (x4 + 1) σ
def f_X11_holds_24  : Nat → Int32 → Int32 → Int32 → ST → Option (Int32 × ST)
  | 0, _, _, _, _ => none
  | n + 1, x1, x3, x4, σ => if 0 ≤ x3.toInt ∧ x3.toInt < 72 then (if (σ.1 11 x3.toNatClampNeg) ≤ x4 then (some (1, σ)) else ((f_X11_fieldFor  x1 ((8 * x3) + x4) σ).bind fun q2 => if 0 ≤ q2.1 then (if 0 ≤ q2.1.toInt ∧ q2.1.toInt < 576 then (if 0 ≤ ((8 * x3) + x4).toInt ∧ ((8 * x3) + x4).toInt < 576 then ((f_T_X11_match  (q2.2.1 15 q2.1.toNatClampNeg) (q2.2.1 15 ((8 * x3) + x4).toNatClampNeg) q2.2).bind fun q6 => if q6.1 = 0 then (some (0, q6.2)) else (f_X11_holds_94 (f_X11_holds_24  n) x1 x3 x4 q6.2)) else none) else none) else (if 0 ≤ ((8 * x3) + x4).toInt ∧ ((8 * x3) + x4).toInt < 576 then (if (q2.2.1 16 ((8 * x3) + x4).toNatClampNeg) = 0 then (some (0, q2.2)) else (f_X11_holds_94 (f_X11_holds_24  n) x1 x3 x4 q2.2)) else none))) else none
def f_X11_holds (p0 : Int32) (p1 : Int32) (σ : ST) : Option (Int32 × ST) := (f_X11_namesMay  p0 p1 σ).bind fun q1 => if q1.1 = 0 then (some (0, q1.2)) else (f_X11_holds_24  FU p0 ((6 * (q1.2.1 0 54)) + p1) 0 q1.2)

set_option maxRecDepth 100000 in
set_option maxHeartbeats 4000000 in
theorem b_X11_holds_94 {p : Program} {l : Launch} {e : Env} {s : State} {m : MethodId} {args : Array Value} {below : List Frame} {meth : Method} {c : Code} {dC : Nat → ClassId} {dI : Nat → Nat → Nat} {a : Nat → Nat} {k : Nat → ClassId} {A : Nat → Prop} {q : Int32 × ST} (hC : CxB p s m args meth c dC dI k A cX11_holds RX11 (some .boolean) 7)  {k24 : Int32 → Int32 → Int32 → ST → Option (Int32 × ST)} (hk24 : ∀ (x1 : Int32) (x3 : Int32) (x4 : Int32) (σ : ST), k24 x1 x3 x4 σ = some q → GoB p l e ({ frames := 343, cells := 0, slots := 0, locals := 8524 } : Room) s m args below meth c (MQ below (qBi dC dI a k A q) args s 0 0 A) dC dI a k A 7 24 σ [(0, .ref (a 0)), (1, .int x1), (3, .int x3), (4, .int x4)] []) {x1 : Int32} {x3 : Int32} {x4 : Int32} {σ : ST} (h : f_X11_holds_94 k24 x1 x3 x4 σ = some q) : GoB p l e ({ frames := 343, cells := 0, slots := 0, locals := 8524 } : Room) s m args below meth c (MQ below (qBi dC dI a k A q) args s 0 0 A) dC dI a k A 7 94 σ [(0, .ref (a 0)), (1, .int x1), (3, .int x3), (4, .int x4)] [] := by
  have hC0 := hC
  obtain ⟨hx, hb, hr, hml, hown, hts, hlocks, hA, hN, hK⟩ := hC0
  intro H locs ls hP hD hS hl
  have hD0 : ∀ σ1 : ST, va_D A (wB a k σ1) := fun σ1 => wB_D hD
  unfold f_X11_holds_94 at h
  refine lv_iinc (v := (x4 + 1)) (lv' := [(4, .int (x4 + 1)), (0, .ref (a 0)), (1, .int x1), (3, .int x3)]) hx hb dX11_holds_94 hl (k := 3) rfl rfl (by decide) rfl (fun ls hl => ?_)
  refine lv_goto (tgt := 24) hx hb dX11_holds_97 (by decide) ?_
  exact hk24 _ _ _ _ h _ _ _ hP hD hS (lv_sub hl [1, 2, 3, 0] rfl)

set_option maxRecDepth 100000 in
set_option maxHeartbeats 4000000 in
theorem b_X11_holds_24 {p : Program} {l : Launch} {e : Env} {s : State} {m : MethodId} {args : Array Value} {below : List Frame} {meth : Method} {c : Code} {dC : Nat → ClassId} {dI : Nat → Nat → Nat} {a : Nat → Nat} {k : Nat → ClassId} {A : Nat → Prop} {q : Int32 × ST} (hC : CxB p s m args meth c dC dI k A cX11_holds RX11 (some .boolean) 7)   : ∀ (n : Nat) (x1 : Int32) (x3 : Int32) (x4 : Int32) (σ : ST), f_X11_holds_24  n x1 x3 x4 σ = some q → GoB p l e ({ frames := 343, cells := 0, slots := 0, locals := 8524 } : Room) s m args below meth c (MQ below (qBi dC dI a k A q) args s 0 0 A) dC dI a k A 7 24 σ [(0, .ref (a 0)), (1, .int x1), (3, .int x3), (4, .int x4)] [] := by
  intro n
  induction n with
  | zero =>
    intro x1 x3 x4 σ h
    rw [f_X11_holds_24] at h
    cases h
  | succ n ih =>
    intro x1 x3 x4 σ h
    have hC0 := hC
    obtain ⟨hx, hb, hr, hml, hown, hts, hlocks, hA, hN, hK⟩ := hC0
    intro H locs ls hP hD hS hl
    have hD0 : ∀ σ1 : ST, va_D A (wB a k σ1) := fun σ1 => wB_D hD
    rw [f_X11_holds_24] at h
    refine lv_iload hx hb dX11_holds_24 (lv_at hl 3 rfl) ?_
    refine lv_aload_n hx hb dX11_holds_26 rfl (lv_at hl 0 rfl) ?_
    refine va_get (D := (dC, dI)) (ci := 11) (C := RX11) (T := TX11) (N := 95) hx hb hts inlX11 hown hK hP 0 gB_0 rfl 23 (by decide) (hts (.fieldLink RX11 42 "ShapeReaderModel" "fieldMany" "[I") mw_27_7) (fun _ h9 => h9) rfl dX11_holds_27 ?_
    refine lv_iload_n hx hb dX11_holds_30 rfl (lv_at hl 2 rfl) ?_
    obtain ⟨hg1, h⟩ := ig h
    refine va_iald hx hb hK hP 11 10 gB_11 yB_11 (vp_in_iff.mpr hg1) dX11_holds_31 ?_
    refine lv_icmp_ge (tgt := 100) hx hb dX11_holds_32 (by decide) (fun hc => ?_) (fun hc => ?_)
    · replace h := ip hc h
      refine lv_iconst (v := 1) hx hb dX11_holds_100 (by decide) ?_
      obtain rfl := Option.some.inj h
      exact W.zret hx hb hr rfl (fun t ht hW => ⟨⟨_, (), rfl, rfl, ⟨by rw [ht]; exact hP, va_K.moved hW.alike hK, hD⟩⟩, hS.F ht⟩) hS.2.2 dX11_holds_101
    · replace h := iq hc h
      refine lv_bipush (v := 8) hx hb dX11_holds_35 (by decide) ?_
      refine lv_iload_n hx hb dX11_holds_37 rfl (lv_at hl 2 rfl) ?_
      refine lv_imul hx hb dX11_holds_38 ?_
      refine lv_iload hx hb dX11_holds_39 (lv_at hl 3 rfl) ?_
      refine lv_iadd hx hb dX11_holds_41 ?_
      refine lv_istore (lv' := [(5, .int ((8 * x3) + x4)), (0, .ref (a 0)), (1, .int x1), (3, .int x3), (4, .int x4)]) hx hb dX11_holds_42 hl (by decide) rfl (fun ls hl => ?_)
      refine lv_aload_n hx hb dX11_holds_44 rfl (lv_at hl 1 rfl) ?_
      refine lv_iload_n hx hb dX11_holds_45 rfl (lv_at hl 2 rfl) ?_
      refine lv_iload hx hb dX11_holds_46 (lv_at hl 0 rfl) ?_
      obtain ⟨q2, hc, h⟩ := ib h
      have hF := va_frees hD hS hA
      refine va_calli (va_runV (As := [.int x1, .int ((8 * x3) + x4)]) (rest := []) ⟨hx, hb, hml, hown, hts⟩ (s_X11_fieldFor hc) (cwV 2 hts (gV mw_36_11 mw_36_12 mw_36_13 mw_0_15 mw_56_7) rfl rfl rfl (by decide +kernel) ⟨(Nat.le_of_ble_eq_true rfl), (Nat.le_of_ble_eq_true rfl)⟩) (vV (ci := 11) (q0 := 0) hK hP hD hN rfl gB_0) rfl rfl hl.1 rfl (lv_room (Nat.le_of_ble_eq_true rfl)) dX11_holds_48 ⟨(Nat.le_of_ble_eq_true rfl), (Nat.le_of_ble_eq_true rfl)⟩) hS (fun q _ h => hF q h) hF (fun r3 u t H locs ht hvm hw hB _ _ hS => ?_)
      obtain rfl : r3 = q2.1 := hw
      replace hP : va_P (dC, dI) vwCl (wB a k q2.2) H := by rw [← ht]; exact hB.1
      replace hD := hD0 (q2.2)
      clear hB hF
      refine lv_istore (lv' := [(6, .int q2.1), (5, .int ((8 * x3) + x4)), (0, .ref (a 0)), (1, .int x1), (3, .int x3), (4, .int x4)]) hx hb dX11_holds_51 hl (by decide) rfl (fun ls hl => ?_)
      refine lv_iload hx hb dX11_holds_53 (lv_at hl 0 rfl) ?_
      refine lv_if_ge (tgt := 71) hx hb dX11_holds_55 (by decide) (fun hc => ?_) (fun hc => ?_)
      · replace h := ip hc h
        refine lv_aload_n hx hb dX11_holds_71 rfl (lv_at hl 2 rfl) ?_
        refine lv_aload_n hx hb dX11_holds_72 rfl (lv_at hl 2 rfl) ?_
        refine va_get (D := (dC, dI)) (ci := 11) (C := RX11) (T := TX11) (N := 95) hx hb hts inlX11 hown hK hP 0 gB_0 rfl 27 (by decide) (hts (.fieldLink RX11 54 "ShapeReaderModel" "fieldType" "[I") mw_27_11) (fun _ h9 => h9) rfl dX11_holds_73 ?_
        refine lv_iload hx hb dX11_holds_76 (lv_at hl 0 rfl) ?_
        obtain ⟨hg4, h⟩ := ig h
        refine va_iald hx hb hK hP 15 14 gB_15 yB_15 (vp_in_iff.mpr hg4) dX11_holds_78 ?_
        refine lv_aload_n hx hb dX11_holds_79 rfl (lv_at hl 2 rfl) ?_
        refine va_get (D := (dC, dI)) (ci := 11) (C := RX11) (T := TX11) (N := 95) hx hb hts inlX11 hown hK hP 0 gB_0 rfl 27 (by decide) (hts (.fieldLink RX11 54 "ShapeReaderModel" "fieldType" "[I") mw_27_11) (fun _ h9 => h9) rfl dX11_holds_80 ?_
        refine lv_iload hx hb dX11_holds_83 (lv_at hl 1 rfl) ?_
        obtain ⟨hg5, h⟩ := ig h
        refine va_iald hx hb hK hP 15 14 gB_15 yB_15 (vp_in_iff.mpr hg5) dX11_holds_85 ?_
        obtain ⟨q6, hc, h⟩ := ib h
        have hF := va_frees hD hS hA
        refine va_calli (va_runV (As := [.int (q2.2.1 15 q2.1.toNatClampNeg), .int (q2.2.1 15 ((8 * x3) + x4).toNatClampNeg)]) (rest := []) ⟨hx, hb, hml, hown, hts⟩ (s_X11_match hc) (cwV 2 hts (gV mw_36_2 mw_36_3 mw_36_4 mw_0_15 mw_56_8) rfl rfl rfl (by decide +kernel) ⟨(Nat.le_of_ble_eq_true rfl), (Nat.le_of_ble_eq_true rfl)⟩) (vV (ci := 11) (q0 := 0) hK hP hD hN rfl gB_0) rfl rfl hl.1 rfl (lv_room (Nat.le_of_ble_eq_true rfl)) dX11_holds_86 ⟨(Nat.le_of_ble_eq_true rfl), (Nat.le_of_ble_eq_true rfl)⟩) hS (fun q _ h => hF q h) hF (fun r7 u t H locs ht hvm hw hB _ _ hS => ?_)
        obtain rfl : r7 = q6.1 := hw
        replace hP : va_P (dC, dI) vwCl (wB a k q6.2) H := by rw [← ht]; exact hB.1
        replace hD := hD0 (q6.2)
        clear hB hF
        refine lv_if_ne (tgt := 94) hx hb dX11_holds_89 (by decide) (fun hc => ?_) (fun hc => ?_)
        · replace h := iq hc h
          exact b_X11_holds_94 hC ih h _ _ _ hP hD hS (lv_sub hl [2, 3, 4, 5] rfl)
        · replace h := ip hc h
          refine lv_iconst (v := 0) hx hb dX11_holds_92 (by decide) ?_
          obtain rfl := Option.some.inj h
          exact W.zret hx hb hr rfl (fun t ht hW => ⟨⟨_, (), rfl, rfl, ⟨by rw [ht]; exact hP, va_K.moved hW.alike hK, hD⟩⟩, hS.F ht⟩) hS.2.2 dX11_holds_93
      · replace h := iq hc h
        refine lv_aload_n hx hb dX11_holds_58 rfl (lv_at hl 2 rfl) ?_
        refine va_get (D := (dC, dI)) (ci := 11) (C := RX11) (T := TX11) (N := 95) hx hb hts inlX11 hown hK hP 0 gB_0 rfl 28 (by decide) (hts (.fieldLink RX11 57 "ShapeReaderModel" "hasElse" "[Z") mw_27_12) (fun _ h9 => h9) rfl dX11_holds_59 ?_
        refine lv_iload hx hb dX11_holds_62 (lv_at hl 1 rfl) ?_
        obtain ⟨hg8, h⟩ := ig h
        refine va_zald hx hb hK hP 16 15 gB_16 yB_16 (vp_in_iff.mpr hg8) dX11_holds_64 ?_
        refine lv_if_ne (tgt := 94) hx hb dX11_holds_65 (by decide) (fun hc => ?_) (fun hc => ?_)
        · replace h := iq hc h
          exact b_X11_holds_94 hC ih h _ _ _ hP hD hS (lv_sub hl [2, 3, 4, 5] rfl)
        · replace h := ip hc h
          refine lv_goto (tgt := 92) hx hb dX11_holds_68 (by decide) ?_
          refine lv_iconst (v := 0) hx hb dX11_holds_92 (by decide) ?_
          obtain rfl := Option.some.inj h
          exact W.zret hx hb hr rfl (fun t ht hW => ⟨⟨_, (), rfl, rfl, ⟨by rw [ht]; exact hP, va_K.moved hW.alike hK, hD⟩⟩, hS.F ht⟩) hS.2.2 dX11_holds_93

set_option maxRecDepth 100000 in
set_option maxHeartbeats 4000000 in
theorem b_X11_holds_e {p : Program} {l : Launch} {e : Env} {s : State} {m : MethodId} {args : Array Value} {below : List Frame} {meth : Method} {c : Code} {dC : Nat → ClassId} {dI : Nat → Nat → Nat} {a : Nat → Nat} {k : Nat → ClassId} {A : Nat → Prop} {q : Int32 × ST} (hC : CxB p s m args meth c dC dI k A cX11_holds RX11 (some .boolean) 7)   {p0 : Int32} {p1 : Int32} {σ : ST} (h : f_X11_holds  p0 p1 σ = some q) : GoB p l e ({ frames := 343, cells := 0, slots := 0, locals := 8524 } : Room) s m args below meth c (MQ below (qBi dC dI a k A q) args s 0 0 A) dC dI a k A 7 0 σ (lv_args 0 [.ref (a 0), .int p0, .int p1]) [] := by
  have hC0 := hC
  obtain ⟨hx, hb, hr, hml, hown, hts, hlocks, hA, hN, hK⟩ := hC0
  intro H locs ls hP hD hS hl
  have hD0 : ∀ σ1 : ST, va_D A (wB a k σ1) := fun σ1 => wB_D hD
  replace hl : lv_has ls 7 [(0, .ref (a 0)), (1, .int p0), (2, .int p1)] := hl
  unfold f_X11_holds at h
  refine lv_aload_n hx hb dX11_holds_0 rfl (lv_at hl 0 rfl) ?_
  refine lv_iload_n hx hb dX11_holds_1 rfl (lv_at hl 1 rfl) ?_
  refine lv_iload_n hx hb dX11_holds_2 rfl (lv_at hl 2 rfl) ?_
  obtain ⟨q1, hc, h⟩ := ib h
  have hF := va_frees hD hS hA
  refine va_calli (va_runV (As := [.int p0, .int p1]) (rest := []) ⟨hx, hb, hml, hown, hts⟩ (s_X11_namesMay hc) (cwV 2 hts (gV mw_36_8 mw_36_9 mw_36_10 mw_0_15 mw_56_6) rfl rfl rfl (by decide +kernel) ⟨(Nat.le_of_ble_eq_true rfl), (Nat.le_of_ble_eq_true rfl)⟩) (vV (ci := 11) (q0 := 0) hK hP hD hN rfl gB_0) rfl rfl hl.1 rfl (lv_room (Nat.le_of_ble_eq_true rfl)) dX11_holds_3 ⟨(Nat.le_of_ble_eq_true rfl), (Nat.le_of_ble_eq_true rfl)⟩) hS (fun q _ h => hF q h) hF (fun r2 u t H locs ht hvm hw hB _ _ hS => ?_)
  obtain rfl : r2 = q1.1 := hw
  replace hP : va_P (dC, dI) vwCl (wB a k q1.2) H := by rw [← ht]; exact hB.1
  replace hD := hD0 (q1.2)
  clear hB hF
  refine lv_if_ne (tgt := 11) hx hb dX11_holds_6 (by decide) (fun hc => ?_) (fun hc => ?_)
  · replace h := iq hc h
    refine lv_bipush (v := 6) hx hb dX11_holds_11 (by decide) ?_
    refine lv_aload_n hx hb dX11_holds_13 rfl (lv_at hl 0 rfl) ?_
    refine va_get (D := (dC, dI)) (ci := 11) (C := RX11) (T := TX11) (N := 95) hx hb hts inlX11 hown hK hP 0 gB_0 rfl 54 (by decide) (hts (.fieldLink RX11 495 "ShapeReaderModel" "reader" "I") mw_36_1) (fun _ h9 => h9) rfl dX11_holds_14 ?_
    refine lv_imul hx hb dX11_holds_17 ?_
    refine lv_iload_n hx hb dX11_holds_18 rfl (lv_at hl 2 rfl) ?_
    refine lv_iadd hx hb dX11_holds_19 ?_
    refine lv_istore_n (lv' := [(3, .int ((6 * (q1.2.1 0 54)) + p1)), (0, .ref (a 0)), (1, .int p0), (2, .int p1)]) hx hb dX11_holds_20 rfl hl (by decide) rfl (fun ls hl => ?_)
    refine lv_iconst (v := 0) hx hb dX11_holds_21 (by decide) ?_
    refine lv_istore (lv' := [(4, .int 0), (3, .int ((6 * (q1.2.1 0 54)) + p1)), (0, .ref (a 0)), (1, .int p0), (2, .int p1)]) hx hb dX11_holds_22 hl (by decide) rfl (fun ls hl => ?_)
    exact b_X11_holds_24 hC FU _ _ _ _ h _ _ _ hP hD hS (lv_sub hl [2, 3, 1, 0] rfl)
  · replace h := ip hc h
    refine lv_iconst (v := 0) hx hb dX11_holds_9 (by decide) ?_
    obtain rfl := Option.some.inj h
    exact W.zret hx hb hr rfl (fun t ht hW => ⟨⟨_, (), rfl, rfl, ⟨by rw [ht]; exact hP, va_K.moved hW.alike hK, hD⟩⟩, hS.F ht⟩) hS.2.2 dX11_holds_10

theorem s_X11_holds {l : Launch} {dC : Nat → ClassId} {dI : Nat → Nat → Nat} {a : Nat → Nat} {k : Nat → ClassId} {sz : Nat} {p0 : Int32} {p1 : Int32} {σ : ST} {q : Int32 × ST} (h : f_X11_holds  p0 p1 σ = some q) : Met l yX11_holds (.code yX11_holds cX11_holds 7 (some .boolean) :: pw) ({ frames := 343, cells := 0, slots := 0, locals := 8524 } : Room) (va_Pc [.ref (a 0), .int p0, .int p1] (vPre dC dI (wB a k σ) (tB k) sz)) (qBi dC dI a k (va_A (wB a k σ) sz) q) 0 0 (va_A (wB a k σ) sz) := metB (fun A => qBi dC dI a k A q) (plainFor_of_name (by decide)) (Nat.le_of_ble_eq_true rfl) (fun _ _ _ _ _ _ _ _ hC => b_X11_holds_e hC h)

def f_X11_laysPairs_54 (k12 : Int32 → Int32 → Int32 → ST → Option (ST)) (x1 : Int32) (x2 : Int32) (x3 : Int32) (y0 : Int32) (y1 : Int32) (σ : ST) : Option (ST) := if 0 ≤ y1.toInt ∧ y1.toInt < 36 then (k12 x1 x2 (x3 + 1) (stI σ 35 y1.toNatClampNeg (vp_nar .boolean y0))) else none
def f_X11_laysPairs_53 (k12 : Int32 → Int32 → Int32 → ST → Option (ST)) (x1 : Int32) (x2 : Int32) (x3 : Int32) (y0 : Int32) (σ : ST) : Option (ST) := f_X11_laysPairs_54 k12 x1 x2 x3 0 y0 σ
def f_X11_laysPairs_116 (k63 : Int32 → ST → Option (ST)) (k72 : Int32 → Int32 → ST → Option (ST)) (x3 : Int32) (x4 : Int32) (σ : ST) : Option (ST) := k72 x3 (x4 + 1) σ
def f_X11_laysPairs_72 (k63 : Int32 → ST → Option (ST)) : Nat → Int32 → Int32 → ST → Option (ST)
  | 0, _, _, _ => none
  | n + 1, x3, x4, σ => if 36 ≤ x4 then (k63 x3 σ) else (if 0 ≤ x4.toInt ∧ x4.toInt < 36 then (if (σ.1 35 x4.toNatClampNeg) = 0 then (f_X11_laysPairs_116 k63 (f_X11_laysPairs_72 k63 n) x3 x4 σ) else ((f_X11_holds  (x4 / 6) (x4 - x4 / 6 * 6) σ).bind fun q2 => if q2.1 = 0 then (f_X11_laysPairs_116 k63 (f_X11_laysPairs_72 k63 n) 1 x4 (stI q2.2 35 x4.toNatClampNeg (vp_nar .boolean 0))) else (f_X11_laysPairs_116 k63 (f_X11_laysPairs_72 k63 n) x3 x4 q2.2))) else none)
def f_X11_laysPairs_63  : Nat → Int32 → ST → Option (ST)
  | 0, _, _ => none
  | n + 1, x3, σ => if x3 = 0 then (some σ) else (f_X11_laysPairs_72 (f_X11_laysPairs_63  n) FU 0 0 σ)
def f_X11_laysPairs_12  : Nat → Int32 → Int32 → Int32 → ST → Option (ST)
  | 0, _, _, _, _ => none
  | n + 1, x1, x2, x3, σ => if 36 ≤ x3 then (f_X11_laysPairs_63  FU 1 σ) else (if 0 ≤ x1.toInt ∧ x1.toInt < 12 then (if (σ.1 8 x1.toNatClampNeg) ≤ (x3 / 6) then (f_X11_laysPairs_53 (f_X11_laysPairs_12  n) x1 x2 x3 x3 σ) else (if 0 ≤ x2.toInt ∧ x2.toInt < 12 then (if (σ.1 8 x2.toNatClampNeg) ≤ (x3 - x3 / 6 * 6) then (f_X11_laysPairs_53 (f_X11_laysPairs_12  n) x1 x2 x3 x3 σ) else (f_X11_laysPairs_54 (f_X11_laysPairs_12  n) x1 x2 x3 1 x3 σ)) else none)) else none)
def f_X11_laysPairs (p0 : Int32) (p1 : Int32) (σ : ST) : Option (ST) := f_X11_laysPairs_12  FU p0 p1 0 (stI (stI σ 0 53 p0) 0 54 p1)

set_option maxRecDepth 100000 in
set_option maxHeartbeats 4000000 in
theorem b_X11_laysPairs_54 {p : Program} {l : Launch} {e : Env} {s : State} {m : MethodId} {args : Array Value} {below : List Frame} {meth : Method} {c : Code} {dC : Nat → ClassId} {dI : Nat → Nat → Nat} {a : Nat → Nat} {k : Nat → ClassId} {A : Nat → Prop} {q : ST} (hC : CxB p s m args meth c dC dI k A cX11_laysPairs RX11 none 5)  {k12 : Int32 → Int32 → Int32 → ST → Option (ST)} (hk12 : ∀ (x1 : Int32) (x2 : Int32) (x3 : Int32) (σ : ST), k12 x1 x2 x3 σ = some q → GoB p l e ({ frames := 344, cells := 0, slots := 0, locals := 8550 } : Room) s m args below meth c (MQ below (qBv dC dI a k A q) args s 0 0 A) dC dI a k A 5 12 σ [(0, .ref (a 0)), (1, .int x1), (2, .int x2), (3, .int x3)] []) {x1 : Int32} {x2 : Int32} {x3 : Int32} {y0 : Int32} {y1 : Int32} {σ : ST} (h : f_X11_laysPairs_54 k12 x1 x2 x3 y0 y1 σ = some q) : GoB p l e ({ frames := 344, cells := 0, slots := 0, locals := 8550 } : Room) s m args below meth c (MQ below (qBv dC dI a k A q) args s 0 0 A) dC dI a k A 5 54 σ [(0, .ref (a 0)), (1, .int x1), (2, .int x2), (3, .int x3)] [.int y0, .int y1, .ref (a 35)] := by
  have hC0 := hC
  obtain ⟨hx, hb, hr, hml, hown, hts, hlocks, hA, hN, hK⟩ := hC0
  intro H locs ls hP hD hS hl
  have hD0 : ∀ σ1 : ST, va_D A (wB a k σ1) := fun σ1 => wB_D hD
  unfold f_X11_laysPairs_54 at h
  obtain ⟨hg1, h⟩ := ig h
  refine va_zast hx hb hK hP hD hS 35 34 gB_35 yB_35 (vp_in_iff.mpr hg1) dX11_laysPairs_54 (fun H locs hP hD hS => ?_)
  replace hP := uB_35 hP
  replace hD := hD0 ((stI σ 35 y1.toNatClampNeg (vp_nar .boolean y0)))
  refine lv_iinc (v := (x3 + 1)) (lv' := [(3, .int (x3 + 1)), (0, .ref (a 0)), (1, .int x1), (2, .int x2)]) hx hb dX11_laysPairs_55 hl (k := 3) rfl rfl (by decide) rfl (fun ls hl => ?_)
  refine lv_goto (tgt := 12) hx hb dX11_laysPairs_58 (by decide) ?_
  exact hk12 _ _ _ _ h _ _ _ hP hD hS (lv_sub hl [1, 2, 3, 0] rfl)

set_option maxRecDepth 100000 in
set_option maxHeartbeats 4000000 in
theorem b_X11_laysPairs_53 {p : Program} {l : Launch} {e : Env} {s : State} {m : MethodId} {args : Array Value} {below : List Frame} {meth : Method} {c : Code} {dC : Nat → ClassId} {dI : Nat → Nat → Nat} {a : Nat → Nat} {k : Nat → ClassId} {A : Nat → Prop} {q : ST} (hC : CxB p s m args meth c dC dI k A cX11_laysPairs RX11 none 5)  {k12 : Int32 → Int32 → Int32 → ST → Option (ST)} (hk12 : ∀ (x1 : Int32) (x2 : Int32) (x3 : Int32) (σ : ST), k12 x1 x2 x3 σ = some q → GoB p l e ({ frames := 344, cells := 0, slots := 0, locals := 8550 } : Room) s m args below meth c (MQ below (qBv dC dI a k A q) args s 0 0 A) dC dI a k A 5 12 σ [(0, .ref (a 0)), (1, .int x1), (2, .int x2), (3, .int x3)] []) {x1 : Int32} {x2 : Int32} {x3 : Int32} {y0 : Int32} {σ : ST} (h : f_X11_laysPairs_53 k12 x1 x2 x3 y0 σ = some q) : GoB p l e ({ frames := 344, cells := 0, slots := 0, locals := 8550 } : Room) s m args below meth c (MQ below (qBv dC dI a k A q) args s 0 0 A) dC dI a k A 5 53 σ [(0, .ref (a 0)), (1, .int x1), (2, .int x2), (3, .int x3)] [.int y0, .ref (a 35)] := by
  have hC0 := hC
  obtain ⟨hx, hb, hr, hml, hown, hts, hlocks, hA, hN, hK⟩ := hC0
  intro H locs ls hP hD hS hl
  have hD0 : ∀ σ1 : ST, va_D A (wB a k σ1) := fun σ1 => wB_D hD
  unfold f_X11_laysPairs_53 at h
  refine lv_iconst (v := 0) hx hb dX11_laysPairs_53 (by decide) ?_
  exact b_X11_laysPairs_54 hC hk12 h _ _ _ hP hD hS (lv_sub hl [0, 1, 2, 3] rfl)

set_option maxRecDepth 100000 in
set_option maxHeartbeats 4000000 in
theorem b_X11_laysPairs_116 {p : Program} {l : Launch} {e : Env} {s : State} {m : MethodId} {args : Array Value} {below : List Frame} {meth : Method} {c : Code} {dC : Nat → ClassId} {dI : Nat → Nat → Nat} {a : Nat → Nat} {k : Nat → ClassId} {A : Nat → Prop} {q : ST} (hC : CxB p s m args meth c dC dI k A cX11_laysPairs RX11 none 5)  {k63 : Int32 → ST → Option (ST)} (hk63 : ∀ (x3 : Int32) (σ : ST), k63 x3 σ = some q → GoB p l e ({ frames := 344, cells := 0, slots := 0, locals := 8550 } : Room) s m args below meth c (MQ below (qBv dC dI a k A q) args s 0 0 A) dC dI a k A 5 63 σ [(0, .ref (a 0)), (3, .int x3)] []) {k72 : Int32 → Int32 → ST → Option (ST)} (hk72 : ∀ (x3 : Int32) (x4 : Int32) (σ : ST), k72 x3 x4 σ = some q → GoB p l e ({ frames := 344, cells := 0, slots := 0, locals := 8550 } : Room) s m args below meth c (MQ below (qBv dC dI a k A q) args s 0 0 A) dC dI a k A 5 72 σ [(0, .ref (a 0)), (3, .int x3), (4, .int x4)] []) {x3 : Int32} {x4 : Int32} {σ : ST} (h : f_X11_laysPairs_116 k63 k72 x3 x4 σ = some q) : GoB p l e ({ frames := 344, cells := 0, slots := 0, locals := 8550 } : Room) s m args below meth c (MQ below (qBv dC dI a k A q) args s 0 0 A) dC dI a k A 5 116 σ [(0, .ref (a 0)), (3, .int x3), (4, .int x4)] [] := by
  have hC0 := hC
  obtain ⟨hx, hb, hr, hml, hown, hts, hlocks, hA, hN, hK⟩ := hC0
  intro H locs ls hP hD hS hl
  have hD0 : ∀ σ1 : ST, va_D A (wB a k σ1) := fun σ1 => wB_D hD
  unfold f_X11_laysPairs_116 at h
  refine lv_iinc (v := (x4 + 1)) (lv' := [(4, .int (x4 + 1)), (0, .ref (a 0)), (3, .int x3)]) hx hb dX11_laysPairs_116 hl (k := 2) rfl rfl (by decide) rfl (fun ls hl => ?_)
  refine lv_goto (tgt := 72) hx hb dX11_laysPairs_119 (by decide) ?_
  exact hk72 _ _ _ h _ _ _ hP hD hS (lv_sub hl [1, 2, 0] rfl)

set_option maxRecDepth 100000 in
set_option maxHeartbeats 4000000 in
theorem b_X11_laysPairs_72 {p : Program} {l : Launch} {e : Env} {s : State} {m : MethodId} {args : Array Value} {below : List Frame} {meth : Method} {c : Code} {dC : Nat → ClassId} {dI : Nat → Nat → Nat} {a : Nat → Nat} {k : Nat → ClassId} {A : Nat → Prop} {q : ST} (hC : CxB p s m args meth c dC dI k A cX11_laysPairs RX11 none 5)  {k63 : Int32 → ST → Option (ST)} (hk63 : ∀ (x3 : Int32) (σ : ST), k63 x3 σ = some q → GoB p l e ({ frames := 344, cells := 0, slots := 0, locals := 8550 } : Room) s m args below meth c (MQ below (qBv dC dI a k A q) args s 0 0 A) dC dI a k A 5 63 σ [(0, .ref (a 0)), (3, .int x3)] []) : ∀ (n : Nat) (x3 : Int32) (x4 : Int32) (σ : ST), f_X11_laysPairs_72 k63 n x3 x4 σ = some q → GoB p l e ({ frames := 344, cells := 0, slots := 0, locals := 8550 } : Room) s m args below meth c (MQ below (qBv dC dI a k A q) args s 0 0 A) dC dI a k A 5 72 σ [(0, .ref (a 0)), (3, .int x3), (4, .int x4)] [] := by
  intro n
  induction n with
  | zero =>
    intro x3 x4 σ h
    rw [f_X11_laysPairs_72] at h
    cases h
  | succ n ih =>
    intro x3 x4 σ h
    have hC0 := hC
    obtain ⟨hx, hb, hr, hml, hown, hts, hlocks, hA, hN, hK⟩ := hC0
    intro H locs ls hP hD hS hl
    have hD0 : ∀ σ1 : ST, va_D A (wB a k σ1) := fun σ1 => wB_D hD
    rw [f_X11_laysPairs_72] at h
    refine lv_iload hx hb dX11_laysPairs_72 (lv_at hl 2 rfl) ?_
    refine lv_bipush (v := 36) hx hb dX11_laysPairs_74 (by decide) ?_
    refine lv_icmp_ge (tgt := 122) hx hb dX11_laysPairs_76 (by decide) (fun hc => ?_) (fun hc => ?_)
    · replace h := ip hc h
      refine lv_goto (tgt := 63) hx hb dX11_laysPairs_122 (by decide) ?_
      exact hk63 _ _ h _ _ _ hP hD hS (lv_sub hl [0, 1] rfl)
    · replace h := iq hc h
      refine lv_aload_n hx hb dX11_laysPairs_79 rfl (lv_at hl 0 rfl) ?_
      refine va_get (D := (dC, dI)) (ci := 11) (C := RX11) (T := TX11) (N := 95) hx hb hts inlX11 hown hK hP 0 gB_0 rfl 55 (by decide) (hts (.fieldLink RX11 115 "ShapeReaderModel" "pair" "[Z") mw_28_1) (fun _ h9 => h9) rfl dX11_laysPairs_80 ?_
      refine lv_iload hx hb dX11_laysPairs_83 (lv_at hl 2 rfl) ?_
      obtain ⟨hg1, h⟩ := ig h
      refine va_zald hx hb hK hP 35 34 gB_35 yB_35 (vp_in_iff.mpr hg1) dX11_laysPairs_85 ?_
      refine lv_if_eq (tgt := 116) hx hb dX11_laysPairs_86 (by decide) (fun hc => ?_) (fun hc => ?_)
      · replace h := ip hc h
        exact b_X11_laysPairs_116 hC hk63 ih h _ _ _ hP hD hS (lv_sub hl [0, 1, 2] rfl)
      · replace h := iq hc h
        refine lv_aload_n hx hb dX11_laysPairs_89 rfl (lv_at hl 0 rfl) ?_
        refine lv_iload hx hb dX11_laysPairs_90 (lv_at hl 2 rfl) ?_
        refine lv_bipush (v := 6) hx hb dX11_laysPairs_92 (by decide) ?_
        refine lv_idiv hx hb dX11_laysPairs_94 (by decide) ?_
        refine lv_iload hx hb dX11_laysPairs_95 (lv_at hl 2 rfl) ?_
        refine lv_bipush (v := 6) hx hb dX11_laysPairs_97 (by decide) ?_
        refine lv_irem hx hb dX11_laysPairs_99 (by decide) ?_
        obtain ⟨q2, hc, h⟩ := ib h
        have hF := va_frees hD hS hA
        refine va_calli (va_runV (As := [.int (x4 / 6), .int (x4 - x4 / 6 * 6)]) (rest := []) ⟨hx, hb, hml, hown, hts⟩ (s_X11_holds hc) (cwV 2 hts (gV mw_36_14 mw_36_15 mw_36_16 mw_0_15 mw_56_10) rfl rfl rfl (by decide +kernel) ⟨(Nat.le_of_ble_eq_true rfl), (Nat.le_of_ble_eq_true rfl)⟩) (vV (ci := 11) (q0 := 0) hK hP hD hN rfl gB_0) rfl rfl hl.1 rfl (lv_room (Nat.le_of_ble_eq_true rfl)) dX11_laysPairs_100 ⟨(Nat.le_of_ble_eq_true rfl), (Nat.le_of_ble_eq_true rfl)⟩) hS (fun q _ h => hF q h) hF (fun r3 u t H locs ht hvm hw hB _ _ hS => ?_)
        obtain rfl : r3 = q2.1 := hw
        replace hP : va_P (dC, dI) vwCl (wB a k q2.2) H := by rw [← ht]; exact hB.1
        replace hD := hD0 (q2.2)
        clear hB hF
        refine lv_if_ne (tgt := 116) hx hb dX11_laysPairs_103 (by decide) (fun hc => ?_) (fun hc => ?_)
        · replace h := iq hc h
          exact b_X11_laysPairs_116 hC hk63 ih h _ _ _ hP hD hS (lv_sub hl [0, 1, 2] rfl)
        · replace h := ip hc h
          refine lv_aload_n hx hb dX11_laysPairs_106 rfl (lv_at hl 0 rfl) ?_
          refine va_get (D := (dC, dI)) (ci := 11) (C := RX11) (T := TX11) (N := 95) hx hb hts inlX11 hown hK hP 0 gB_0 rfl 55 (by decide) (hts (.fieldLink RX11 115 "ShapeReaderModel" "pair" "[Z") mw_28_1) (fun _ h9 => h9) rfl dX11_laysPairs_107 ?_
          refine lv_iload hx hb dX11_laysPairs_110 (lv_at hl 2 rfl) ?_
          refine lv_iconst (v := 0) hx hb dX11_laysPairs_112 (by decide) ?_
          refine va_zast hx hb hK hP hD hS 35 34 gB_35 yB_35 (vp_in_iff.mpr hg1) dX11_laysPairs_113 (fun H locs hP hD hS => ?_)
          replace hP := uB_35 hP
          replace hD := hD0 ((stI q2.2 35 x4.toNatClampNeg (vp_nar .boolean 0)))
          refine lv_iconst (v := 1) hx hb dX11_laysPairs_114 (by decide) ?_
          refine lv_istore_n (lv' := [(3, .int 1), (0, .ref (a 0)), (4, .int x4)]) hx hb dX11_laysPairs_115 rfl hl (by decide) rfl (fun ls hl => ?_)
          exact b_X11_laysPairs_116 hC hk63 ih h _ _ _ hP hD hS (lv_sub hl [1, 0, 2] rfl)

set_option maxRecDepth 100000 in
set_option maxHeartbeats 4000000 in
theorem b_X11_laysPairs_63 {p : Program} {l : Launch} {e : Env} {s : State} {m : MethodId} {args : Array Value} {below : List Frame} {meth : Method} {c : Code} {dC : Nat → ClassId} {dI : Nat → Nat → Nat} {a : Nat → Nat} {k : Nat → ClassId} {A : Nat → Prop} {q : ST} (hC : CxB p s m args meth c dC dI k A cX11_laysPairs RX11 none 5)   : ∀ (n : Nat) (x3 : Int32) (σ : ST), f_X11_laysPairs_63  n x3 σ = some q → GoB p l e ({ frames := 344, cells := 0, slots := 0, locals := 8550 } : Room) s m args below meth c (MQ below (qBv dC dI a k A q) args s 0 0 A) dC dI a k A 5 63 σ [(0, .ref (a 0)), (3, .int x3)] [] := by
  intro n
  induction n with
  | zero =>
    intro x3 σ h
    rw [f_X11_laysPairs_63] at h
    cases h
  | succ n ih =>
    intro x3 σ h
    have hC0 := hC
    obtain ⟨hx, hb, hr, hml, hown, hts, hlocks, hA, hN, hK⟩ := hC0
    intro H locs ls hP hD hS hl
    have hD0 : ∀ σ1 : ST, va_D A (wB a k σ1) := fun σ1 => wB_D hD
    rw [f_X11_laysPairs_63] at h
    refine lv_iload_n hx hb dX11_laysPairs_63 rfl (lv_at hl 1 rfl) ?_
    refine lv_if_eq (tgt := 125) hx hb dX11_laysPairs_64 (by decide) (fun hc => ?_) (fun hc => ?_)
    · replace h := ip hc h
      obtain rfl := Option.some.inj h
      exact W.vret hx hb hr (fun t ht hW => ⟨⟨(), rfl, trivial, ⟨by rw [ht]; exact hP, va_K.moved hW.alike hK, hD⟩⟩, hS.F ht⟩) hS.2.2 dX11_laysPairs_125
    · replace h := iq hc h
      refine lv_iconst (v := 0) hx hb dX11_laysPairs_67 (by decide) ?_
      refine lv_istore_n (lv' := [(3, .int 0), (0, .ref (a 0))]) hx hb dX11_laysPairs_68 rfl hl (by decide) rfl (fun ls hl => ?_)
      refine lv_iconst (v := 0) hx hb dX11_laysPairs_69 (by decide) ?_
      refine lv_istore (lv' := [(4, .int 0), (3, .int 0), (0, .ref (a 0))]) hx hb dX11_laysPairs_70 hl (by decide) rfl (fun ls hl => ?_)
      exact b_X11_laysPairs_72 hC ih FU _ _ _ h _ _ _ hP hD hS (lv_sub hl [2, 1, 0] rfl)

set_option maxRecDepth 100000 in
set_option maxHeartbeats 4000000 in
theorem b_X11_laysPairs_12 {p : Program} {l : Launch} {e : Env} {s : State} {m : MethodId} {args : Array Value} {below : List Frame} {meth : Method} {c : Code} {dC : Nat → ClassId} {dI : Nat → Nat → Nat} {a : Nat → Nat} {k : Nat → ClassId} {A : Nat → Prop} {q : ST} (hC : CxB p s m args meth c dC dI k A cX11_laysPairs RX11 none 5)   : ∀ (n : Nat) (x1 : Int32) (x2 : Int32) (x3 : Int32) (σ : ST), f_X11_laysPairs_12  n x1 x2 x3 σ = some q → GoB p l e ({ frames := 344, cells := 0, slots := 0, locals := 8550 } : Room) s m args below meth c (MQ below (qBv dC dI a k A q) args s 0 0 A) dC dI a k A 5 12 σ [(0, .ref (a 0)), (1, .int x1), (2, .int x2), (3, .int x3)] [] := by
  intro n
  induction n with
  | zero =>
    intro x1 x2 x3 σ h
    rw [f_X11_laysPairs_12] at h
    cases h
  | succ n ih =>
    intro x1 x2 x3 σ h
    have hC0 := hC
    obtain ⟨hx, hb, hr, hml, hown, hts, hlocks, hA, hN, hK⟩ := hC0
    intro H locs ls hP hD hS hl
    have hD0 : ∀ σ1 : ST, va_D A (wB a k σ1) := fun σ1 => wB_D hD
    rw [f_X11_laysPairs_12] at h
    refine lv_iload_n hx hb dX11_laysPairs_12 rfl (lv_at hl 3 rfl) ?_
    refine lv_bipush (v := 36) hx hb dX11_laysPairs_13 (by decide) ?_
    refine lv_icmp_ge (tgt := 61) hx hb dX11_laysPairs_15 (by decide) (fun hc => ?_) (fun hc => ?_)
    · replace h := ip hc h
      refine lv_iconst (v := 1) hx hb dX11_laysPairs_61 (by decide) ?_
      refine lv_istore_n (lv' := [(3, .int 1), (0, .ref (a 0)), (1, .int x1), (2, .int x2)]) hx hb dX11_laysPairs_62 rfl hl (by decide) rfl (fun ls hl => ?_)
      exact b_X11_laysPairs_63 hC FU _ _ h _ _ _ hP hD hS (lv_sub hl [1, 0] rfl)
    · replace h := iq hc h
      refine lv_aload_n hx hb dX11_laysPairs_18 rfl (lv_at hl 0 rfl) ?_
      refine va_get (D := (dC, dI)) (ci := 11) (C := RX11) (T := TX11) (N := 95) hx hb hts inlX11 hown hK hP 0 gB_0 rfl 55 (by decide) (hts (.fieldLink RX11 115 "ShapeReaderModel" "pair" "[Z") mw_28_1) (fun _ h9 => h9) rfl dX11_laysPairs_19 ?_
      refine lv_iload_n hx hb dX11_laysPairs_22 rfl (lv_at hl 3 rfl) ?_
      refine lv_iload_n hx hb dX11_laysPairs_23 rfl (lv_at hl 3 rfl) ?_
      refine lv_bipush (v := 6) hx hb dX11_laysPairs_24 (by decide) ?_
      refine lv_idiv hx hb dX11_laysPairs_26 (by decide) ?_
      refine lv_aload_n hx hb dX11_laysPairs_27 rfl (lv_at hl 0 rfl) ?_
      refine va_get (D := (dC, dI)) (ci := 11) (C := RX11) (T := TX11) (N := 95) hx hb hts inlX11 hown hK hP 0 gB_0 rfl 20 (by decide) (hts (.fieldLink RX11 33 "ShapeReaderModel" "recordMany" "[I") mw_27_4) (fun _ h9 => h9) rfl dX11_laysPairs_28 ?_
      refine lv_iload_n hx hb dX11_laysPairs_31 rfl (lv_at hl 1 rfl) ?_
      obtain ⟨hg1, h⟩ := ig h
      refine va_iald hx hb hK hP 8 7 gB_8 yB_8 (vp_in_iff.mpr hg1) dX11_laysPairs_32 ?_
      refine lv_icmp_ge (tgt := 53) hx hb dX11_laysPairs_33 (by decide) (fun hc => ?_) (fun hc => ?_)
      · replace h := ip hc h
        exact b_X11_laysPairs_53 hC ih h _ _ _ hP hD hS (lv_sub hl [0, 1, 2, 3] rfl)
      · replace h := iq hc h
        refine lv_iload_n hx hb dX11_laysPairs_36 rfl (lv_at hl 3 rfl) ?_
        refine lv_bipush (v := 6) hx hb dX11_laysPairs_37 (by decide) ?_
        refine lv_irem hx hb dX11_laysPairs_39 (by decide) ?_
        refine lv_aload_n hx hb dX11_laysPairs_40 rfl (lv_at hl 0 rfl) ?_
        refine va_get (D := (dC, dI)) (ci := 11) (C := RX11) (T := TX11) (N := 95) hx hb hts inlX11 hown hK hP 0 gB_0 rfl 20 (by decide) (hts (.fieldLink RX11 33 "ShapeReaderModel" "recordMany" "[I") mw_27_4) (fun _ h9 => h9) rfl dX11_laysPairs_41 ?_
        refine lv_iload_n hx hb dX11_laysPairs_44 rfl (lv_at hl 2 rfl) ?_
        obtain ⟨hg2, h⟩ := ig h
        refine va_iald hx hb hK hP 8 7 gB_8 yB_8 (vp_in_iff.mpr hg2) dX11_laysPairs_45 ?_
        refine lv_icmp_ge (tgt := 53) hx hb dX11_laysPairs_46 (by decide) (fun hc => ?_) (fun hc => ?_)
        · replace h := ip hc h
          exact b_X11_laysPairs_53 hC ih h _ _ _ hP hD hS (lv_sub hl [0, 1, 2, 3] rfl)
        · replace h := iq hc h
          refine lv_iconst (v := 1) hx hb dX11_laysPairs_49 (by decide) ?_
          refine lv_goto (tgt := 54) hx hb dX11_laysPairs_50 (by decide) ?_
          exact b_X11_laysPairs_54 hC ih h _ _ _ hP hD hS (lv_sub hl [0, 1, 2, 3] rfl)

set_option maxRecDepth 100000 in
set_option maxHeartbeats 4000000 in
theorem b_X11_laysPairs_e {p : Program} {l : Launch} {e : Env} {s : State} {m : MethodId} {args : Array Value} {below : List Frame} {meth : Method} {c : Code} {dC : Nat → ClassId} {dI : Nat → Nat → Nat} {a : Nat → Nat} {k : Nat → ClassId} {A : Nat → Prop} {q : ST} (hC : CxB p s m args meth c dC dI k A cX11_laysPairs RX11 none 5)   {p0 : Int32} {p1 : Int32} {σ : ST} (h : f_X11_laysPairs  p0 p1 σ = some q) : GoB p l e ({ frames := 344, cells := 0, slots := 0, locals := 8550 } : Room) s m args below meth c (MQ below (qBv dC dI a k A q) args s 0 0 A) dC dI a k A 5 0 σ (lv_args 0 [.ref (a 0), .int p0, .int p1]) [] := by
  have hC0 := hC
  obtain ⟨hx, hb, hr, hml, hown, hts, hlocks, hA, hN, hK⟩ := hC0
  intro H locs ls hP hD hS hl
  have hD0 : ∀ σ1 : ST, va_D A (wB a k σ1) := fun σ1 => wB_D hD
  replace hl : lv_has ls 5 [(0, .ref (a 0)), (1, .int p0), (2, .int p1)] := hl
  unfold f_X11_laysPairs at h
  refine lv_aload_n hx hb dX11_laysPairs_0 rfl (lv_at hl 0 rfl) ?_
  refine lv_iload_n hx hb dX11_laysPairs_1 rfl (lv_at hl 1 rfl) ?_
  refine va_put (D := (dC, dI)) (ci := 11) (ty := .int) (C := RX11) (T := TX11) (N := 95) hx hb hts inlX11 tyX11 tyX11_ok nmX11 hown hK hP hD hS 0 gB_0 rfl 53 (by decide) (hts (.fieldLink RX11 492 "ShapeReaderModel" "writer" "I") mw_36_0) (fun _ h9 => h9) rfl (by decide +kernel) rfl rfl (Nat.le_of_ble_eq_true rfl) dX11_laysPairs_2 (fun H locs hP hD hS => ?_)
  replace hP := uB_0_53 hP
  replace hD := hD0 ((stI σ 0 53 p0))
  refine lv_aload_n hx hb dX11_laysPairs_5 rfl (lv_at hl 0 rfl) ?_
  refine lv_iload_n hx hb dX11_laysPairs_6 rfl (lv_at hl 2 rfl) ?_
  refine va_put (D := (dC, dI)) (ci := 11) (ty := .int) (C := RX11) (T := TX11) (N := 95) hx hb hts inlX11 tyX11 tyX11_ok nmX11 hown hK hP hD hS 0 gB_0 rfl 54 (by decide) (hts (.fieldLink RX11 495 "ShapeReaderModel" "reader" "I") mw_36_1) (fun _ h9 => h9) rfl (by decide +kernel) rfl rfl (Nat.le_of_ble_eq_true rfl) dX11_laysPairs_7 (fun H locs hP hD hS => ?_)
  replace hP := uB_0_54 hP
  replace hD := hD0 ((stI (stI σ 0 53 p0) 0 54 p1))
  refine lv_iconst (v := 0) hx hb dX11_laysPairs_10 (by decide) ?_
  refine lv_istore_n (lv' := [(3, .int 0), (0, .ref (a 0)), (1, .int p0), (2, .int p1)]) hx hb dX11_laysPairs_11 rfl hl (by decide) rfl (fun ls hl => ?_)
  exact b_X11_laysPairs_12 hC FU _ _ _ _ h _ _ _ hP hD hS (lv_sub hl [1, 2, 3, 0] rfl)

theorem s_X11_laysPairs {l : Launch} {dC : Nat → ClassId} {dI : Nat → Nat → Nat} {a : Nat → Nat} {k : Nat → ClassId} {sz : Nat} {p0 : Int32} {p1 : Int32} {σ : ST} {q : ST} (h : f_X11_laysPairs  p0 p1 σ = some q) : Met l yX11_laysPairs (.code yX11_laysPairs cX11_laysPairs 5 none :: pw) ({ frames := 344, cells := 0, slots := 0, locals := 8550 } : Room) (va_Pc [.ref (a 0), .int p0, .int p1] (vPre dC dI (wB a k σ) (tB k) sz)) (qBv dC dI a k (va_A (wB a k σ) sz) q) 0 0 (va_A (wB a k σ) sz) := metB (fun A => qBv dC dI a k A q) (plainFor_of_name (by decide)) (Nat.le_of_ble_eq_true rfl) (fun _ _ _ _ _ _ _ _ hC => b_X11_laysPairs_e hC h)

def f_X11_enters (p0 : Int32) (σ : ST) : Option (ST) := if 0 ≤ (σ.1 0 57).toInt ∧ (σ.1 0 57).toInt < 256 then ((some (stI (stI σ 36 (σ.1 0 57).toNatClampNeg p0) 0 57 (((stI σ 36 (σ.1 0 57).toNatClampNeg p0).1 0 57) + 1))).bind fun z2 => some z2) else none

set_option maxRecDepth 100000 in
set_option maxHeartbeats 4000000 in
theorem b_X11_enters_e {p : Program} {l : Launch} {e : Env} {s : State} {m : MethodId} {args : Array Value} {below : List Frame} {meth : Method} {c : Code} {dC : Nat → ClassId} {dI : Nat → Nat → Nat} {a : Nat → Nat} {k : Nat → ClassId} {A : Nat → Prop} {q : ST} (hC : CxB p s m args meth c dC dI k A cX11_enters RX11 none 2)   {p0 : Int32} {σ : ST} (h : f_X11_enters  p0 σ = some q) : GoB p l e ({ frames := 0, cells := 0, slots := 0, locals := 0 } : Room) s m args below meth c (MQ below (qBv dC dI a k A q) args s 0 0 A) dC dI a k A 2 0 σ (lv_args 0 [.ref (a 0), .int p0]) [] := by
  have hC0 := hC
  obtain ⟨hx, hb, hr, hml, hown, hts, hlocks, hA, hN, hK⟩ := hC0
  intro H locs ls hP hD hS hl
  have hD0 : ∀ σ1 : ST, va_D A (wB a k σ1) := fun σ1 => wB_D hD
  replace hl : lv_has ls 2 [(0, .ref (a 0)), (1, .int p0)] := hl
  unfold f_X11_enters at h
  refine lv_aload_n hx hb dX11_enters_0 rfl (lv_at hl 0 rfl) ?_
  refine va_get (D := (dC, dI)) (ci := 11) (C := RX11) (T := TX11) (N := 95) hx hb hts inlX11 hown hK hP 0 gB_0 rfl 56 (by decide) (hts (.fieldLink RX11 118 "ShapeReaderModel" "step" "[I") mw_28_2) (fun _ h9 => h9) rfl dX11_enters_1 ?_
  refine lv_aload_n hx hb dX11_enters_4 rfl (lv_at hl 0 rfl) ?_
  refine va_get (D := (dC, dI)) (ci := 11) (C := RX11) (T := TX11) (N := 95) hx hb hts inlX11 hown hK hP 0 gB_0 rfl 57 (by decide) (hts (.fieldLink RX11 516 "ShapeReaderModel" "steps" "I") mw_36_18) (fun _ h9 => h9) rfl dX11_enters_5 ?_
  refine lv_iload_n hx hb dX11_enters_8 rfl (lv_at hl 1 rfl) ?_
  obtain ⟨hg1, h⟩ := ig h
  refine va_iast hx hb hK hP hD hS 36 35 gB_36 yB_36 (vp_in_iff.mpr hg1) dX11_enters_9 (fun H locs hP hD hS => ?_)
  replace hP := uB_36 hP
  replace hD := hD0 ((stI σ 36 (σ.1 0 57).toNatClampNeg p0))
  refine lv_aload_n hx hb dX11_enters_10 rfl (lv_at hl 0 rfl) ?_
  refine lv_dup hx hb dX11_enters_11 rfl ?_
  refine va_get (D := (dC, dI)) (ci := 11) (C := RX11) (T := TX11) (N := 95) hx hb hts inlX11 hown hK hP 0 gB_0 rfl 57 (by decide) (hts (.fieldLink RX11 516 "ShapeReaderModel" "steps" "I") mw_36_18) (fun _ h9 => h9) rfl dX11_enters_12 ?_
  refine lv_iconst (v := 1) hx hb dX11_enters_15 (by decide) ?_
  refine lv_iadd hx hb dX11_enters_16 ?_
  refine va_put (D := (dC, dI)) (ci := 11) (ty := .int) (C := RX11) (T := TX11) (N := 95) hx hb hts inlX11 tyX11 tyX11_ok nmX11 hown hK hP hD hS 0 gB_0 rfl 57 (by decide) (hts (.fieldLink RX11 516 "ShapeReaderModel" "steps" "I") mw_36_18) (fun _ h9 => h9) rfl (by decide +kernel) rfl rfl (Nat.le_of_ble_eq_true rfl) dX11_enters_17 (fun H locs hP hD hS => ?_)
  replace hP := uB_0_57 hP
  replace hD := hD0 ((stI (stI σ 36 (σ.1 0 57).toNatClampNeg p0) 0 57 (((stI σ 36 (σ.1 0 57).toNatClampNeg p0).1 0 57) + 1)))
  obtain ⟨z2, hs, h⟩ := ib h
  replace hs := Option.some.inj hs
  replace hP : va_P (dC, dI) vwCl (wB a k z2) H := by rw [← hs]; exact hP
  replace hD := hD0 z2
  clear hs
  obtain rfl := Option.some.inj h
  exact W.vret hx hb hr (fun t ht hW => ⟨⟨(), rfl, trivial, ⟨by rw [ht]; exact hP, va_K.moved hW.alike hK, hD⟩⟩, hS.F ht⟩) hS.2.2 dX11_enters_20

theorem s_X11_enters {l : Launch} {dC : Nat → ClassId} {dI : Nat → Nat → Nat} {a : Nat → Nat} {k : Nat → ClassId} {sz : Nat} {p0 : Int32} {σ : ST} {q : ST} (h : f_X11_enters  p0 σ = some q) : Met l yX11_enters (.code yX11_enters cX11_enters 2 none :: pw) ({ frames := 0, cells := 0, slots := 0, locals := 0 } : Room) (va_Pc [.ref (a 0), .int p0] (vPre dC dI (wB a k σ) (tB k) sz)) (qBv dC dI a k (va_A (wB a k σ) sz) q) 0 0 (va_A (wB a k σ) sz) := metB (fun A => qBv dC dI a k A q) (plainFor_of_name (by decide)) (Nat.le_of_ble_eq_true rfl) (fun _ _ _ _ _ _ _ _ hC => b_X11_enters_e hC h)

def f_X11_joins_147 (x1 : Int32) (x2 : Int32) (σ : ST) : Option (ST) := if 0 ≤ x2.toInt ∧ x2.toInt < 4096 then (if 0 ≤ (σ.1 30 x2.toNatClampNeg) then (some σ) else (if 0 ≤ x1.toInt ∧ x1.toInt < 4096 then (some (stI σ 29 x1.toNatClampNeg x2)) else none)) else none
def f_X11_joins_125 (x1 : Int32) (x2 : Int32) (x3 : Int32) (y0 : Int32) (y1 : Int32) (σ : ST) : Option (ST) := if 0 ≤ y1.toInt ∧ y1.toInt < 4096 then (if 0 ≤ x3 then (if 0 ≤ x3.toInt ∧ x3.toInt < 4096 then (f_X11_joins_147  x1 x2 (stI (stI σ 30 y1.toNatClampNeg y0) 30 x3.toNatClampNeg x2)) else none) else (if 0 ≤ x1.toInt ∧ x1.toInt < 4096 then (f_X11_joins_147  x1 x2 (stI (stI σ 30 y1.toNatClampNeg y0) 28 x1.toNatClampNeg x2)) else none)) else none
def f_X11_joins_101 (x1 : Int32) (x2 : Int32) (x3 : Int32) (σ : ST) : Option (ST) := if 0 ≤ x3 then (if 0 ≤ x3.toInt ∧ x3.toInt < 4096 then (f_X11_joins_125  x1 x2 x3 (σ.1 30 x3.toNatClampNeg) x2 σ) else none) else (if 0 ≤ x1.toInt ∧ x1.toInt < 4096 then (f_X11_joins_125  x1 x2 x3 (σ.1 28 x1.toNatClampNeg) x2 σ) else none)
def f_X11_joins_65  : Nat → Int32 → Int32 → Int32 → Int32 → ST → Option (ST)
  | 0, _, _, _, _, _ => none
  | n + 1, x1, x2, x3, x4, σ => if x4 < 0 then (f_X11_joins_101  x1 x2 x3 σ) else (if 0 ≤ x4.toInt ∧ x4.toInt < 4096 then (if 0 ≤ x2.toInt ∧ x2.toInt < 4096 then (if (σ.1 25 x2.toNatClampNeg) ≤ (σ.1 25 x4.toNatClampNeg) then (f_X11_joins_101  x1 x2 x3 σ) else (f_X11_joins_65  n x1 x2 x4 (σ.1 30 x4.toNatClampNeg) σ)) else none) else none)
def f_X11_joins_51 (x1 : Int32) (x2 : Int32) (x3 : Int32) (y0 : Int32) (σ : ST) : Option (ST) := if 0 ≤ y0 then (f_X11_joins_65  FU x1 x2 x3 y0 σ) else (if 0 ≤ x1.toInt ∧ x1.toInt < 4096 then (f_X11_joins_65  FU x1 x2 (σ.1 29 x1.toNatClampNeg) y0 σ) else none)
def f_X11_joins_45 (x1 : Int32) (x2 : Int32) (x3 : Int32) (σ : ST) : Option (ST) := if 0 ≤ x1.toInt ∧ x1.toInt < 4096 then (f_X11_joins_51  x1 x2 x3 (σ.1 28 x1.toNatClampNeg) σ) else none
def f_X11_joins (p0 : Int32) (p1 : Int32) (σ : ST) : Option (ST) := if 0 ≤ p0.toInt ∧ p0.toInt < 4096 then (if ((stI σ 23 p0.toNatClampNeg ((σ.1 23 p0.toNatClampNeg) + 1)).1 29 p0.toNatClampNeg) < 0 then (f_X11_joins_45  p0 p1 (-1) (stI σ 23 p0.toNatClampNeg ((σ.1 23 p0.toNatClampNeg) + 1))) else (if 0 ≤ ((stI σ 23 p0.toNatClampNeg ((σ.1 23 p0.toNatClampNeg) + 1)).1 29 p0.toNatClampNeg).toInt ∧ ((stI σ 23 p0.toNatClampNeg ((σ.1 23 p0.toNatClampNeg) + 1)).1 29 p0.toNatClampNeg).toInt < 4096 then (if 0 ≤ p1.toInt ∧ p1.toInt < 4096 then (if ((stI σ 23 p0.toNatClampNeg ((σ.1 23 p0.toNatClampNeg) + 1)).1 25 p1.toNatClampNeg) ≤ ((stI σ 23 p0.toNatClampNeg ((σ.1 23 p0.toNatClampNeg) + 1)).1 25 ((stI σ 23 p0.toNatClampNeg ((σ.1 23 p0.toNatClampNeg) + 1)).1 29 p0.toNatClampNeg).toNatClampNeg) then (f_X11_joins_45  p0 p1 (-1) (stI σ 23 p0.toNatClampNeg ((σ.1 23 p0.toNatClampNeg) + 1))) else (f_X11_joins_51  p0 p1 (-1) (-1) (stI σ 23 p0.toNatClampNeg ((σ.1 23 p0.toNatClampNeg) + 1)))) else none) else none)) else none

set_option maxRecDepth 100000 in
set_option maxHeartbeats 4000000 in
theorem b_X11_joins_147 {p : Program} {l : Launch} {e : Env} {s : State} {m : MethodId} {args : Array Value} {below : List Frame} {meth : Method} {c : Code} {dC : Nat → ClassId} {dI : Nat → Nat → Nat} {a : Nat → Nat} {k : Nat → ClassId} {A : Nat → Prop} {q : ST} (hC : CxB p s m args meth c dC dI k A cX11_joins RX11 none 5)   {x1 : Int32} {x2 : Int32} {σ : ST} (h : f_X11_joins_147  x1 x2 σ = some q) : GoB p l e ({ frames := 0, cells := 0, slots := 0, locals := 0 } : Room) s m args below meth c (MQ below (qBv dC dI a k A q) args s 0 0 A) dC dI a k A 5 147 σ [(0, .ref (a 0)), (1, .int x1), (2, .int x2)] [] := by
  have hC0 := hC
  obtain ⟨hx, hb, hr, hml, hown, hts, hlocks, hA, hN, hK⟩ := hC0
  intro H locs ls hP hD hS hl
  have hD0 : ∀ σ1 : ST, va_D A (wB a k σ1) := fun σ1 => wB_D hD
  unfold f_X11_joins_147 at h
  refine lv_aload_n hx hb dX11_joins_147 rfl (lv_at hl 0 rfl) ?_
  refine va_get (D := (dC, dI)) (ci := 11) (C := RX11) (T := TX11) (N := 95) hx hb hts inlX11 hown hK hP 0 gB_0 rfl 45 (by decide) (hts (.fieldLink RX11 100 "ShapeReaderModel" "nodeNext" "[I") mw_27_26) (fun _ h9 => h9) rfl dX11_joins_148 ?_
  refine lv_iload_n hx hb dX11_joins_151 rfl (lv_at hl 2 rfl) ?_
  obtain ⟨hg1, h⟩ := ig h
  refine va_iald hx hb hK hP 30 29 gB_30 yB_30 (vp_in_iff.mpr hg1) dX11_joins_152 ?_
  refine lv_if_ge (tgt := 163) hx hb dX11_joins_153 (by decide) (fun hc => ?_) (fun hc => ?_)
  · replace h := ip hc h
    obtain rfl := Option.some.inj h
    exact W.vret hx hb hr (fun t ht hW => ⟨⟨(), rfl, trivial, ⟨by rw [ht]; exact hP, va_K.moved hW.alike hK, hD⟩⟩, hS.F ht⟩) hS.2.2 dX11_joins_163
  · replace h := iq hc h
    refine lv_aload_n hx hb dX11_joins_156 rfl (lv_at hl 0 rfl) ?_
    refine va_get (D := (dC, dI)) (ci := 11) (C := RX11) (T := TX11) (N := 95) hx hb hts inlX11 hown hK hP 0 gB_0 rfl 44 (by decide) (hts (.fieldLink RX11 97 "ShapeReaderModel" "nodeLast" "[I") mw_27_25) (fun _ h9 => h9) rfl dX11_joins_157 ?_
    refine lv_iload_n hx hb dX11_joins_160 rfl (lv_at hl 1 rfl) ?_
    refine lv_iload_n hx hb dX11_joins_161 rfl (lv_at hl 2 rfl) ?_
    obtain ⟨hg2, h⟩ := ig h
    refine va_iast hx hb hK hP hD hS 29 28 gB_29 yB_29 (vp_in_iff.mpr hg2) dX11_joins_162 (fun H locs hP hD hS => ?_)
    replace hP := uB_29 hP
    replace hD := hD0 ((stI σ 29 x1.toNatClampNeg x2))
    obtain rfl := Option.some.inj h
    exact W.vret hx hb hr (fun t ht hW => ⟨⟨(), rfl, trivial, ⟨by rw [ht]; exact hP, va_K.moved hW.alike hK, hD⟩⟩, hS.F ht⟩) hS.2.2 dX11_joins_163

set_option maxRecDepth 100000 in
set_option maxHeartbeats 4000000 in
theorem b_X11_joins_125 {p : Program} {l : Launch} {e : Env} {s : State} {m : MethodId} {args : Array Value} {below : List Frame} {meth : Method} {c : Code} {dC : Nat → ClassId} {dI : Nat → Nat → Nat} {a : Nat → Nat} {k : Nat → ClassId} {A : Nat → Prop} {q : ST} (hC : CxB p s m args meth c dC dI k A cX11_joins RX11 none 5)   {x1 : Int32} {x2 : Int32} {x3 : Int32} {y0 : Int32} {y1 : Int32} {σ : ST} (h : f_X11_joins_125  x1 x2 x3 y0 y1 σ = some q) : GoB p l e ({ frames := 0, cells := 0, slots := 0, locals := 0 } : Room) s m args below meth c (MQ below (qBv dC dI a k A q) args s 0 0 A) dC dI a k A 5 125 σ [(0, .ref (a 0)), (1, .int x1), (2, .int x2), (3, .int x3)] [.int y0, .int y1, .ref (a 30)] := by
  have hC0 := hC
  obtain ⟨hx, hb, hr, hml, hown, hts, hlocks, hA, hN, hK⟩ := hC0
  intro H locs ls hP hD hS hl
  have hD0 : ∀ σ1 : ST, va_D A (wB a k σ1) := fun σ1 => wB_D hD
  unfold f_X11_joins_125 at h
  obtain ⟨hg1, h⟩ := ig h
  refine va_iast hx hb hK hP hD hS 30 29 gB_30 yB_30 (vp_in_iff.mpr hg1) dX11_joins_125 (fun H locs hP hD hS => ?_)
  replace hP := uB_30 hP
  replace hD := hD0 ((stI σ 30 y1.toNatClampNeg y0))
  refine lv_iload_n hx hb dX11_joins_126 rfl (lv_at hl 3 rfl) ?_
  refine lv_if_ge (tgt := 140) hx hb dX11_joins_127 (by decide) (fun hc => ?_) (fun hc => ?_)
  · replace h := ip hc h
    refine lv_aload_n hx hb dX11_joins_140 rfl (lv_at hl 0 rfl) ?_
    refine va_get (D := (dC, dI)) (ci := 11) (C := RX11) (T := TX11) (N := 95) hx hb hts inlX11 hown hK hP 0 gB_0 rfl 45 (by decide) (hts (.fieldLink RX11 100 "ShapeReaderModel" "nodeNext" "[I") mw_27_26) (fun _ h9 => h9) rfl dX11_joins_141 ?_
    refine lv_iload_n hx hb dX11_joins_144 rfl (lv_at hl 3 rfl) ?_
    refine lv_iload_n hx hb dX11_joins_145 rfl (lv_at hl 2 rfl) ?_
    obtain ⟨hg2, h⟩ := ig h
    refine va_iast hx hb hK hP hD hS 30 29 gB_30 yB_30 (vp_in_iff.mpr hg2) dX11_joins_146 (fun H locs hP hD hS => ?_)
    replace hP := uB_30 hP
    replace hD := hD0 ((stI (stI σ 30 y1.toNatClampNeg y0) 30 x3.toNatClampNeg x2))
    exact b_X11_joins_147 hC h _ _ _ hP hD hS (lv_sub hl [0, 1, 2] rfl)
  · replace h := iq hc h
    refine lv_aload_n hx hb dX11_joins_130 rfl (lv_at hl 0 rfl) ?_
    refine va_get (D := (dC, dI)) (ci := 11) (C := RX11) (T := TX11) (N := 95) hx hb hts inlX11 hown hK hP 0 gB_0 rfl 43 (by decide) (hts (.fieldLink RX11 94 "ShapeReaderModel" "nodeFirst" "[I") mw_27_24) (fun _ h9 => h9) rfl dX11_joins_131 ?_
    refine lv_iload_n hx hb dX11_joins_134 rfl (lv_at hl 1 rfl) ?_
    refine lv_iload_n hx hb dX11_joins_135 rfl (lv_at hl 2 rfl) ?_
    obtain ⟨hg3, h⟩ := ig h
    refine va_iast hx hb hK hP hD hS 28 27 gB_28 yB_28 (vp_in_iff.mpr hg3) dX11_joins_136 (fun H locs hP hD hS => ?_)
    replace hP := uB_28 hP
    replace hD := hD0 ((stI (stI σ 30 y1.toNatClampNeg y0) 28 x1.toNatClampNeg x2))
    refine lv_goto (tgt := 147) hx hb dX11_joins_137 (by decide) ?_
    exact b_X11_joins_147 hC h _ _ _ hP hD hS (lv_sub hl [0, 1, 2] rfl)

set_option maxRecDepth 100000 in
set_option maxHeartbeats 4000000 in
theorem b_X11_joins_101 {p : Program} {l : Launch} {e : Env} {s : State} {m : MethodId} {args : Array Value} {below : List Frame} {meth : Method} {c : Code} {dC : Nat → ClassId} {dI : Nat → Nat → Nat} {a : Nat → Nat} {k : Nat → ClassId} {A : Nat → Prop} {q : ST} (hC : CxB p s m args meth c dC dI k A cX11_joins RX11 none 5)   {x1 : Int32} {x2 : Int32} {x3 : Int32} {σ : ST} (h : f_X11_joins_101  x1 x2 x3 σ = some q) : GoB p l e ({ frames := 0, cells := 0, slots := 0, locals := 0 } : Room) s m args below meth c (MQ below (qBv dC dI a k A q) args s 0 0 A) dC dI a k A 5 101 σ [(0, .ref (a 0)), (1, .int x1), (2, .int x2), (3, .int x3)] [] := by
  have hC0 := hC
  obtain ⟨hx, hb, hr, hml, hown, hts, hlocks, hA, hN, hK⟩ := hC0
  intro H locs ls hP hD hS hl
  have hD0 : ∀ σ1 : ST, va_D A (wB a k σ1) := fun σ1 => wB_D hD
  unfold f_X11_joins_101 at h
  refine lv_aload_n hx hb dX11_joins_101 rfl (lv_at hl 0 rfl) ?_
  refine va_get (D := (dC, dI)) (ci := 11) (C := RX11) (T := TX11) (N := 95) hx hb hts inlX11 hown hK hP 0 gB_0 rfl 45 (by decide) (hts (.fieldLink RX11 100 "ShapeReaderModel" "nodeNext" "[I") mw_27_26) (fun _ h9 => h9) rfl dX11_joins_102 ?_
  refine lv_iload_n hx hb dX11_joins_105 rfl (lv_at hl 2 rfl) ?_
  refine lv_iload_n hx hb dX11_joins_106 rfl (lv_at hl 3 rfl) ?_
  refine lv_if_ge (tgt := 119) hx hb dX11_joins_107 (by decide) (fun hc => ?_) (fun hc => ?_)
  · replace h := ip hc h
    refine lv_aload_n hx hb dX11_joins_119 rfl (lv_at hl 0 rfl) ?_
    refine va_get (D := (dC, dI)) (ci := 11) (C := RX11) (T := TX11) (N := 95) hx hb hts inlX11 hown hK hP 0 gB_0 rfl 45 (by decide) (hts (.fieldLink RX11 100 "ShapeReaderModel" "nodeNext" "[I") mw_27_26) (fun _ h9 => h9) rfl dX11_joins_120 ?_
    refine lv_iload_n hx hb dX11_joins_123 rfl (lv_at hl 3 rfl) ?_
    obtain ⟨hg1, h⟩ := ig h
    refine va_iald hx hb hK hP 30 29 gB_30 yB_30 (vp_in_iff.mpr hg1) dX11_joins_124 ?_
    exact b_X11_joins_125 hC h _ _ _ hP hD hS (lv_sub hl [0, 1, 2, 3] rfl)
  · replace h := iq hc h
    refine lv_aload_n hx hb dX11_joins_110 rfl (lv_at hl 0 rfl) ?_
    refine va_get (D := (dC, dI)) (ci := 11) (C := RX11) (T := TX11) (N := 95) hx hb hts inlX11 hown hK hP 0 gB_0 rfl 43 (by decide) (hts (.fieldLink RX11 94 "ShapeReaderModel" "nodeFirst" "[I") mw_27_24) (fun _ h9 => h9) rfl dX11_joins_111 ?_
    refine lv_iload_n hx hb dX11_joins_114 rfl (lv_at hl 1 rfl) ?_
    obtain ⟨hg2, h⟩ := ig h
    refine va_iald hx hb hK hP 28 27 gB_28 yB_28 (vp_in_iff.mpr hg2) dX11_joins_115 ?_
    refine lv_goto (tgt := 125) hx hb dX11_joins_116 (by decide) ?_
    exact b_X11_joins_125 hC h _ _ _ hP hD hS (lv_sub hl [0, 1, 2, 3] rfl)

set_option maxRecDepth 100000 in
set_option maxHeartbeats 4000000 in
theorem b_X11_joins_65 {p : Program} {l : Launch} {e : Env} {s : State} {m : MethodId} {args : Array Value} {below : List Frame} {meth : Method} {c : Code} {dC : Nat → ClassId} {dI : Nat → Nat → Nat} {a : Nat → Nat} {k : Nat → ClassId} {A : Nat → Prop} {q : ST} (hC : CxB p s m args meth c dC dI k A cX11_joins RX11 none 5)   : ∀ (n : Nat) (x1 : Int32) (x2 : Int32) (x3 : Int32) (x4 : Int32) (σ : ST), f_X11_joins_65  n x1 x2 x3 x4 σ = some q → GoB p l e ({ frames := 0, cells := 0, slots := 0, locals := 0 } : Room) s m args below meth c (MQ below (qBv dC dI a k A q) args s 0 0 A) dC dI a k A 5 65 σ [(0, .ref (a 0)), (1, .int x1), (2, .int x2), (3, .int x3), (4, .int x4)] [] := by
  intro n
  induction n with
  | zero =>
    intro x1 x2 x3 x4 σ h
    rw [f_X11_joins_65] at h
    cases h
  | succ n ih =>
    intro x1 x2 x3 x4 σ h
    have hC0 := hC
    obtain ⟨hx, hb, hr, hml, hown, hts, hlocks, hA, hN, hK⟩ := hC0
    intro H locs ls hP hD hS hl
    have hD0 : ∀ σ1 : ST, va_D A (wB a k σ1) := fun σ1 => wB_D hD
    rw [f_X11_joins_65] at h
    refine lv_iload hx hb dX11_joins_65 (lv_at hl 4 rfl) ?_
    refine lv_if_lt (tgt := 101) hx hb dX11_joins_67 (by decide) (fun hc => ?_) (fun hc => ?_)
    · replace h := ip hc h
      exact b_X11_joins_101 hC h _ _ _ hP hD hS (lv_sub hl [0, 1, 2, 3] rfl)
    · replace h := iq hc h
      refine lv_aload_n hx hb dX11_joins_70 rfl (lv_at hl 0 rfl) ?_
      refine va_get (D := (dC, dI)) (ci := 11) (C := RX11) (T := TX11) (N := 95) hx hb hts inlX11 hown hK hP 0 gB_0 rfl 40 (by decide) (hts (.fieldLink RX11 85 "ShapeReaderModel" "nodeIndex" "[I") mw_27_21) (fun _ h9 => h9) rfl dX11_joins_71 ?_
      refine lv_iload hx hb dX11_joins_74 (lv_at hl 4 rfl) ?_
      obtain ⟨hg1, h⟩ := ig h
      refine va_iald hx hb hK hP 25 24 gB_25 yB_25 (vp_in_iff.mpr hg1) dX11_joins_76 ?_
      refine lv_aload_n hx hb dX11_joins_77 rfl (lv_at hl 0 rfl) ?_
      refine va_get (D := (dC, dI)) (ci := 11) (C := RX11) (T := TX11) (N := 95) hx hb hts inlX11 hown hK hP 0 gB_0 rfl 40 (by decide) (hts (.fieldLink RX11 85 "ShapeReaderModel" "nodeIndex" "[I") mw_27_21) (fun _ h9 => h9) rfl dX11_joins_78 ?_
      refine lv_iload_n hx hb dX11_joins_81 rfl (lv_at hl 2 rfl) ?_
      obtain ⟨hg2, h⟩ := ig h
      refine va_iald hx hb hK hP 25 24 gB_25 yB_25 (vp_in_iff.mpr hg2) dX11_joins_82 ?_
      refine lv_icmp_ge (tgt := 101) hx hb dX11_joins_83 (by decide) (fun hc => ?_) (fun hc => ?_)
      · replace h := ip hc h
        exact b_X11_joins_101 hC h _ _ _ hP hD hS (lv_sub hl [0, 1, 2, 3] rfl)
      · replace h := iq hc h
        refine lv_iload hx hb dX11_joins_86 (lv_at hl 4 rfl) ?_
        refine lv_istore_n (lv' := [(3, .int x4), (0, .ref (a 0)), (1, .int x1), (2, .int x2), (4, .int x4)]) hx hb dX11_joins_88 rfl hl (by decide) rfl (fun ls hl => ?_)
        refine lv_aload_n hx hb dX11_joins_89 rfl (lv_at hl 1 rfl) ?_
        refine va_get (D := (dC, dI)) (ci := 11) (C := RX11) (T := TX11) (N := 95) hx hb hts inlX11 hown hK hP 0 gB_0 rfl 45 (by decide) (hts (.fieldLink RX11 100 "ShapeReaderModel" "nodeNext" "[I") mw_27_26) (fun _ h9 => h9) rfl dX11_joins_90 ?_
        refine lv_iload hx hb dX11_joins_93 (lv_at hl 4 rfl) ?_
        refine va_iald hx hb hK hP 30 29 gB_30 yB_30 (vp_in_iff.mpr hg1) dX11_joins_95 ?_
        refine lv_istore (lv' := [(4, .int (σ.1 30 x4.toNatClampNeg)), (3, .int x4), (0, .ref (a 0)), (1, .int x1), (2, .int x2)]) hx hb dX11_joins_96 hl (by decide) rfl (fun ls hl => ?_)
        refine lv_goto (tgt := 65) hx hb dX11_joins_98 (by decide) ?_
        exact ih _ _ _ _ _ h _ _ _ hP hD hS (lv_sub hl [2, 3, 4, 1, 0] rfl)

set_option maxRecDepth 100000 in
set_option maxHeartbeats 4000000 in
theorem b_X11_joins_51 {p : Program} {l : Launch} {e : Env} {s : State} {m : MethodId} {args : Array Value} {below : List Frame} {meth : Method} {c : Code} {dC : Nat → ClassId} {dI : Nat → Nat → Nat} {a : Nat → Nat} {k : Nat → ClassId} {A : Nat → Prop} {q : ST} (hC : CxB p s m args meth c dC dI k A cX11_joins RX11 none 5)   {x1 : Int32} {x2 : Int32} {x3 : Int32} {y0 : Int32} {σ : ST} (h : f_X11_joins_51  x1 x2 x3 y0 σ = some q) : GoB p l e ({ frames := 0, cells := 0, slots := 0, locals := 0 } : Room) s m args below meth c (MQ below (qBv dC dI a k A q) args s 0 0 A) dC dI a k A 5 51 σ [(0, .ref (a 0)), (1, .int x1), (2, .int x2), (3, .int x3)] [.int y0] := by
  have hC0 := hC
  obtain ⟨hx, hb, hr, hml, hown, hts, hlocks, hA, hN, hK⟩ := hC0
  intro H locs ls hP hD hS hl
  have hD0 : ∀ σ1 : ST, va_D A (wB a k σ1) := fun σ1 => wB_D hD
  unfold f_X11_joins_51 at h
  refine lv_istore (lv' := [(4, .int y0), (0, .ref (a 0)), (1, .int x1), (2, .int x2), (3, .int x3)]) hx hb dX11_joins_51 hl (by decide) rfl (fun ls hl => ?_)
  refine lv_iload hx hb dX11_joins_53 (lv_at hl 0 rfl) ?_
  refine lv_if_ge (tgt := 65) hx hb dX11_joins_55 (by decide) (fun hc => ?_) (fun hc => ?_)
  · replace h := ip hc h
    exact b_X11_joins_65 hC FU _ _ _ _ _ h _ _ _ hP hD hS (lv_sub hl [1, 2, 3, 4, 0] rfl)
  · replace h := iq hc h
    refine lv_aload_n hx hb dX11_joins_58 rfl (lv_at hl 1 rfl) ?_
    refine va_get (D := (dC, dI)) (ci := 11) (C := RX11) (T := TX11) (N := 95) hx hb hts inlX11 hown hK hP 0 gB_0 rfl 44 (by decide) (hts (.fieldLink RX11 97 "ShapeReaderModel" "nodeLast" "[I") mw_27_25) (fun _ h9 => h9) rfl dX11_joins_59 ?_
    refine lv_iload_n hx hb dX11_joins_62 rfl (lv_at hl 2 rfl) ?_
    obtain ⟨hg1, h⟩ := ig h
    refine va_iald hx hb hK hP 29 28 gB_29 yB_29 (vp_in_iff.mpr hg1) dX11_joins_63 ?_
    refine lv_istore_n (lv' := [(3, .int (σ.1 29 x1.toNatClampNeg)), (4, .int y0), (0, .ref (a 0)), (1, .int x1), (2, .int x2)]) hx hb dX11_joins_64 rfl hl (by decide) rfl (fun ls hl => ?_)
    exact b_X11_joins_65 hC FU _ _ _ _ _ h _ _ _ hP hD hS (lv_sub hl [2, 3, 4, 0, 1] rfl)

set_option maxRecDepth 100000 in
set_option maxHeartbeats 4000000 in
theorem b_X11_joins_45 {p : Program} {l : Launch} {e : Env} {s : State} {m : MethodId} {args : Array Value} {below : List Frame} {meth : Method} {c : Code} {dC : Nat → ClassId} {dI : Nat → Nat → Nat} {a : Nat → Nat} {k : Nat → ClassId} {A : Nat → Prop} {q : ST} (hC : CxB p s m args meth c dC dI k A cX11_joins RX11 none 5)   {x1 : Int32} {x2 : Int32} {x3 : Int32} {σ : ST} (h : f_X11_joins_45  x1 x2 x3 σ = some q) : GoB p l e ({ frames := 0, cells := 0, slots := 0, locals := 0 } : Room) s m args below meth c (MQ below (qBv dC dI a k A q) args s 0 0 A) dC dI a k A 5 45 σ [(0, .ref (a 0)), (1, .int x1), (2, .int x2), (3, .int x3)] [] := by
  have hC0 := hC
  obtain ⟨hx, hb, hr, hml, hown, hts, hlocks, hA, hN, hK⟩ := hC0
  intro H locs ls hP hD hS hl
  have hD0 : ∀ σ1 : ST, va_D A (wB a k σ1) := fun σ1 => wB_D hD
  unfold f_X11_joins_45 at h
  refine lv_aload_n hx hb dX11_joins_45 rfl (lv_at hl 0 rfl) ?_
  refine va_get (D := (dC, dI)) (ci := 11) (C := RX11) (T := TX11) (N := 95) hx hb hts inlX11 hown hK hP 0 gB_0 rfl 43 (by decide) (hts (.fieldLink RX11 94 "ShapeReaderModel" "nodeFirst" "[I") mw_27_24) (fun _ h9 => h9) rfl dX11_joins_46 ?_
  refine lv_iload_n hx hb dX11_joins_49 rfl (lv_at hl 1 rfl) ?_
  obtain ⟨hg1, h⟩ := ig h
  refine va_iald hx hb hK hP 28 27 gB_28 yB_28 (vp_in_iff.mpr hg1) dX11_joins_50 ?_
  exact b_X11_joins_51 hC h _ _ _ hP hD hS (lv_sub hl [0, 1, 2, 3] rfl)

set_option maxRecDepth 100000 in
set_option maxHeartbeats 4000000 in
theorem b_X11_joins_e {p : Program} {l : Launch} {e : Env} {s : State} {m : MethodId} {args : Array Value} {below : List Frame} {meth : Method} {c : Code} {dC : Nat → ClassId} {dI : Nat → Nat → Nat} {a : Nat → Nat} {k : Nat → ClassId} {A : Nat → Prop} {q : ST} (hC : CxB p s m args meth c dC dI k A cX11_joins RX11 none 5)   {p0 : Int32} {p1 : Int32} {σ : ST} (h : f_X11_joins  p0 p1 σ = some q) : GoB p l e ({ frames := 0, cells := 0, slots := 0, locals := 0 } : Room) s m args below meth c (MQ below (qBv dC dI a k A q) args s 0 0 A) dC dI a k A 5 0 σ (lv_args 0 [.ref (a 0), .int p0, .int p1]) [] := by
  have hC0 := hC
  obtain ⟨hx, hb, hr, hml, hown, hts, hlocks, hA, hN, hK⟩ := hC0
  intro H locs ls hP hD hS hl
  have hD0 : ∀ σ1 : ST, va_D A (wB a k σ1) := fun σ1 => wB_D hD
  replace hl : lv_has ls 5 [(0, .ref (a 0)), (1, .int p0), (2, .int p1)] := hl
  unfold f_X11_joins at h
  refine lv_aload_n hx hb dX11_joins_0 rfl (lv_at hl 0 rfl) ?_
  refine va_get (D := (dC, dI)) (ci := 11) (C := RX11) (T := TX11) (N := 95) hx hb hts inlX11 hown hK hP 0 gB_0 rfl 38 (by decide) (hts (.fieldLink RX11 79 "ShapeReaderModel" "nodeHas" "[I") mw_27_19) (fun _ h9 => h9) rfl dX11_joins_1 ?_
  refine lv_iload_n hx hb dX11_joins_4 rfl (lv_at hl 1 rfl) ?_
  refine lv_dup2_11 hx hb dX11_joins_5 rfl rfl ?_
  obtain ⟨hg1, h⟩ := ig h
  refine va_iald hx hb hK hP 23 22 gB_23 yB_23 (vp_in_iff.mpr hg1) dX11_joins_6 ?_
  refine lv_iconst (v := 1) hx hb dX11_joins_7 (by decide) ?_
  refine lv_iadd hx hb dX11_joins_8 ?_
  refine va_iast hx hb hK hP hD hS 23 22 gB_23 yB_23 (vp_in_iff.mpr hg1) dX11_joins_9 (fun H locs hP hD hS => ?_)
  replace hP := uB_23 hP
  replace hD := hD0 ((stI σ 23 p0.toNatClampNeg ((σ.1 23 p0.toNatClampNeg) + 1)))
  refine lv_iconst (v := (-1)) hx hb dX11_joins_10 (by decide) ?_
  refine lv_istore_n (lv' := [(3, .int (-1)), (0, .ref (a 0)), (1, .int p0), (2, .int p1)]) hx hb dX11_joins_11 rfl hl (by decide) rfl (fun ls hl => ?_)
  refine lv_aload_n hx hb dX11_joins_12 rfl (lv_at hl 1 rfl) ?_
  refine va_get (D := (dC, dI)) (ci := 11) (C := RX11) (T := TX11) (N := 95) hx hb hts inlX11 hown hK hP 0 gB_0 rfl 44 (by decide) (hts (.fieldLink RX11 97 "ShapeReaderModel" "nodeLast" "[I") mw_27_25) (fun _ h9 => h9) rfl dX11_joins_13 ?_
  refine lv_iload_n hx hb dX11_joins_16 rfl (lv_at hl 2 rfl) ?_
  refine va_iald hx hb hK hP 29 28 gB_29 yB_29 (vp_in_iff.mpr hg1) dX11_joins_17 ?_
  refine lv_if_lt (tgt := 45) hx hb dX11_joins_18 (by decide) (fun hc => ?_) (fun hc => ?_)
  · replace h := ip hc h
    exact b_X11_joins_45 hC h _ _ _ hP hD hS (lv_sub hl [1, 2, 3, 0] rfl)
  · replace h := iq hc h
    refine lv_aload_n hx hb dX11_joins_21 rfl (lv_at hl 1 rfl) ?_
    refine va_get (D := (dC, dI)) (ci := 11) (C := RX11) (T := TX11) (N := 95) hx hb hts inlX11 hown hK hP 0 gB_0 rfl 40 (by decide) (hts (.fieldLink RX11 85 "ShapeReaderModel" "nodeIndex" "[I") mw_27_21) (fun _ h9 => h9) rfl dX11_joins_22 ?_
    refine lv_aload_n hx hb dX11_joins_25 rfl (lv_at hl 1 rfl) ?_
    refine va_get (D := (dC, dI)) (ci := 11) (C := RX11) (T := TX11) (N := 95) hx hb hts inlX11 hown hK hP 0 gB_0 rfl 44 (by decide) (hts (.fieldLink RX11 97 "ShapeReaderModel" "nodeLast" "[I") mw_27_25) (fun _ h9 => h9) rfl dX11_joins_26 ?_
    refine lv_iload_n hx hb dX11_joins_29 rfl (lv_at hl 2 rfl) ?_
    refine va_iald hx hb hK hP 29 28 gB_29 yB_29 (vp_in_iff.mpr hg1) dX11_joins_30 ?_
    obtain ⟨hg2, h⟩ := ig h
    refine va_iald hx hb hK hP 25 24 gB_25 yB_25 (vp_in_iff.mpr hg2) dX11_joins_31 ?_
    refine lv_aload_n hx hb dX11_joins_32 rfl (lv_at hl 1 rfl) ?_
    refine va_get (D := (dC, dI)) (ci := 11) (C := RX11) (T := TX11) (N := 95) hx hb hts inlX11 hown hK hP 0 gB_0 rfl 40 (by decide) (hts (.fieldLink RX11 85 "ShapeReaderModel" "nodeIndex" "[I") mw_27_21) (fun _ h9 => h9) rfl dX11_joins_33 ?_
    refine lv_iload_n hx hb dX11_joins_36 rfl (lv_at hl 3 rfl) ?_
    obtain ⟨hg3, h⟩ := ig h
    refine va_iald hx hb hK hP 25 24 gB_25 yB_25 (vp_in_iff.mpr hg3) dX11_joins_37 ?_
    refine lv_icmp_ge (tgt := 45) hx hb dX11_joins_38 (by decide) (fun hc => ?_) (fun hc => ?_)
    · replace h := ip hc h
      exact b_X11_joins_45 hC h _ _ _ hP hD hS (lv_sub hl [1, 2, 3, 0] rfl)
    · replace h := iq hc h
      refine lv_iconst (v := (-1)) hx hb dX11_joins_41 (by decide) ?_
      refine lv_goto (tgt := 51) hx hb dX11_joins_42 (by decide) ?_
      exact b_X11_joins_51 hC h _ _ _ hP hD hS (lv_sub hl [1, 2, 3, 0] rfl)

theorem s_X11_joins {l : Launch} {dC : Nat → ClassId} {dI : Nat → Nat → Nat} {a : Nat → Nat} {k : Nat → ClassId} {sz : Nat} {p0 : Int32} {p1 : Int32} {σ : ST} {q : ST} (h : f_X11_joins  p0 p1 σ = some q) : Met l yX11_joins (.code yX11_joins cX11_joins 5 none :: pw) ({ frames := 0, cells := 0, slots := 0, locals := 0 } : Room) (va_Pc [.ref (a 0), .int p0, .int p1] (vPre dC dI (wB a k σ) (tB k) sz)) (qBv dC dI a k (va_A (wB a k σ) sz) q) 0 0 (va_A (wB a k σ) sz) := metB (fun A => qBv dC dI a k A q) (plainFor_of_name (by decide)) (Nat.le_of_ble_eq_true rfl) (fun _ _ _ _ _ _ _ _ hC => b_X11_joins_e hC h)

def f_X11_laysNode (p0 : Int32) (p1 : Int32) (p2 : Int32) (p3 : Int32) (σ : ST) : Option (Int32 × ST) := if 0 ≤ (σ.1 0 46).toInt ∧ (σ.1 0 46).toInt < 4096 then ((some (stL (stI (stI σ 0 46 ((σ.1 0 46) + 1)) 20 (σ.1 0 46).toNatClampNeg p0) 21 (σ.1 0 46).toNatClampNeg 0)).bind fun z2 => (some (stI (stI (stL z2 22 (σ.1 0 46).toNatClampNeg 0) 23 (σ.1 0 46).toNatClampNeg 0) 24 (σ.1 0 46).toNatClampNeg p1)).bind fun z3 => (some (stI (stI (stI z3 25 (σ.1 0 46).toNatClampNeg p2) 26 (σ.1 0 46).toNatClampNeg p3) 27 (σ.1 0 46).toNatClampNeg (vp_nar .boolean 0))).bind fun z4 => (some (stI (stI (stI z4 28 (σ.1 0 46).toNatClampNeg (-1)) 29 (σ.1 0 46).toNatClampNeg (-1)) 30 (σ.1 0 46).toNatClampNeg (-1))).bind fun z5 => if p1 < 0 then (some ((σ.1 0 46), z5)) else ((f_X11_joins  p1 (σ.1 0 46) z5).bind fun q6 => some ((σ.1 0 46), q6))) else none

set_option maxRecDepth 100000 in
set_option maxHeartbeats 4000000 in
theorem b_X11_laysNode_e {p : Program} {l : Launch} {e : Env} {s : State} {m : MethodId} {args : Array Value} {below : List Frame} {meth : Method} {c : Code} {dC : Nat → ClassId} {dI : Nat → Nat → Nat} {a : Nat → Nat} {k : Nat → ClassId} {A : Nat → Prop} {q : Int32 × ST} (hC : CxB p s m args meth c dC dI k A cX11_laysNode RX11 (some .int) 6)   {p0 : Int32} {p1 : Int32} {p2 : Int32} {p3 : Int32} {σ : ST} (h : f_X11_laysNode  p0 p1 p2 p3 σ = some q) : GoB p l e ({ frames := 1, cells := 0, slots := 0, locals := 24 } : Room) s m args below meth c (MQ below (qBi dC dI a k A q) args s 0 0 A) dC dI a k A 6 0 σ (lv_args 0 [.ref (a 0), .int p0, .int p1, .int p2, .int p3]) [] := by
  have hC0 := hC
  obtain ⟨hx, hb, hr, hml, hown, hts, hlocks, hA, hN, hK⟩ := hC0
  intro H locs ls hP hD hS hl
  have hD0 : ∀ σ1 : ST, va_D A (wB a k σ1) := fun σ1 => wB_D hD
  replace hl : lv_has ls 6 [(0, .ref (a 0)), (1, .int p0), (2, .int p1), (3, .int p2), (4, .int p3)] := hl
  unfold f_X11_laysNode at h
  refine lv_aload_n hx hb dX11_laysNode_0 rfl (lv_at hl 0 rfl) ?_
  refine va_get (D := (dC, dI)) (ci := 11) (C := RX11) (T := TX11) (N := 95) hx hb hts inlX11 hown hK hP 0 gB_0 rfl 46 (by decide) (hts (.fieldLink RX11 413 "ShapeReaderModel" "trees" "I") mw_33_28) (fun _ h9 => h9) rfl dX11_laysNode_1 ?_
  refine lv_istore (lv' := [(5, .int (σ.1 0 46)), (0, .ref (a 0)), (1, .int p0), (2, .int p1), (3, .int p2), (4, .int p3)]) hx hb dX11_laysNode_4 hl (by decide) rfl (fun ls hl => ?_)
  refine lv_aload_n hx hb dX11_laysNode_6 rfl (lv_at hl 1 rfl) ?_
  refine lv_dup hx hb dX11_laysNode_7 rfl ?_
  refine va_get (D := (dC, dI)) (ci := 11) (C := RX11) (T := TX11) (N := 95) hx hb hts inlX11 hown hK hP 0 gB_0 rfl 46 (by decide) (hts (.fieldLink RX11 413 "ShapeReaderModel" "trees" "I") mw_33_28) (fun _ h9 => h9) rfl dX11_laysNode_8 ?_
  refine lv_iconst (v := 1) hx hb dX11_laysNode_11 (by decide) ?_
  refine lv_iadd hx hb dX11_laysNode_12 ?_
  refine va_put (D := (dC, dI)) (ci := 11) (ty := .int) (C := RX11) (T := TX11) (N := 95) hx hb hts inlX11 tyX11 tyX11_ok nmX11 hown hK hP hD hS 0 gB_0 rfl 46 (by decide) (hts (.fieldLink RX11 413 "ShapeReaderModel" "trees" "I") mw_33_28) (fun _ h9 => h9) rfl (by decide +kernel) rfl rfl (Nat.le_of_ble_eq_true rfl) dX11_laysNode_13 (fun H locs hP hD hS => ?_)
  replace hP := uB_0_46 hP
  replace hD := hD0 ((stI σ 0 46 ((σ.1 0 46) + 1)))
  refine lv_aload_n hx hb dX11_laysNode_16 rfl (lv_at hl 1 rfl) ?_
  refine va_get (D := (dC, dI)) (ci := 11) (C := RX11) (T := TX11) (N := 95) hx hb hts inlX11 hown hK hP 0 gB_0 rfl 35 (by decide) (hts (.fieldLink RX11 70 "ShapeReaderModel" "nodeSort" "[I") mw_27_16) (fun _ h9 => h9) rfl dX11_laysNode_17 ?_
  refine lv_iload hx hb dX11_laysNode_20 (lv_at hl 0 rfl) ?_
  refine lv_iload_n hx hb dX11_laysNode_22 rfl (lv_at hl 2 rfl) ?_
  obtain ⟨hg1, h⟩ := ig h
  refine va_iast hx hb hK hP hD hS 20 19 gB_20 yB_20 (vp_in_iff.mpr hg1) dX11_laysNode_23 (fun H locs hP hD hS => ?_)
  replace hP := uB_20 hP
  replace hD := hD0 ((stI (stI σ 0 46 ((σ.1 0 46) + 1)) 20 (σ.1 0 46).toNatClampNeg p0))
  refine lv_aload_n hx hb dX11_laysNode_24 rfl (lv_at hl 1 rfl) ?_
  refine va_get (D := (dC, dI)) (ci := 11) (C := RX11) (T := TX11) (N := 95) hx hb hts inlX11 hown hK hP 0 gB_0 rfl 36 (by decide) (hts (.fieldLink RX11 73 "ShapeReaderModel" "nodeBits" "[J") mw_27_17) (fun _ h9 => h9) rfl dX11_laysNode_25 ?_
  refine lv_iload hx hb dX11_laysNode_28 (lv_at hl 0 rfl) ?_
  refine lv_lconst (v := 0) hx hb dX11_laysNode_30 (by decide) ?_
  refine va_last hx hb hK hP hD hS 21 20 gB_21 yB_21 (vp_in_iff.mpr hg1) dX11_laysNode_31 (fun H locs hP hD hS => ?_)
  replace hP := uB_21 hP
  replace hD := hD0 ((stL (stI (stI σ 0 46 ((σ.1 0 46) + 1)) 20 (σ.1 0 46).toNatClampNeg p0) 21 (σ.1 0 46).toNatClampNeg 0))
  obtain ⟨z2, hs, h⟩ := ib h
  replace hs := Option.some.inj hs
  replace hP : va_P (dC, dI) vwCl (wB a k z2) H := by rw [← hs]; exact hP
  replace hD := hD0 z2
  clear hs
  refine lv_aload_n hx hb dX11_laysNode_32 rfl (lv_at hl 1 rfl) ?_
  refine va_get (D := (dC, dI)) (ci := 11) (C := RX11) (T := TX11) (N := 95) hx hb hts inlX11 hown hK hP 0 gB_0 rfl 37 (by decide) (hts (.fieldLink RX11 76 "ShapeReaderModel" "nodeText" "[J") mw_27_18) (fun _ h9 => h9) rfl dX11_laysNode_33 ?_
  refine lv_iload hx hb dX11_laysNode_36 (lv_at hl 0 rfl) ?_
  refine lv_lconst (v := 0) hx hb dX11_laysNode_38 (by decide) ?_
  refine va_last hx hb hK hP hD hS 22 21 gB_22 yB_22 (vp_in_iff.mpr hg1) dX11_laysNode_39 (fun H locs hP hD hS => ?_)
  replace hP := uB_22 hP
  replace hD := hD0 ((stL z2 22 (σ.1 0 46).toNatClampNeg 0))
  refine lv_aload_n hx hb dX11_laysNode_40 rfl (lv_at hl 1 rfl) ?_
  refine va_get (D := (dC, dI)) (ci := 11) (C := RX11) (T := TX11) (N := 95) hx hb hts inlX11 hown hK hP 0 gB_0 rfl 38 (by decide) (hts (.fieldLink RX11 79 "ShapeReaderModel" "nodeHas" "[I") mw_27_19) (fun _ h9 => h9) rfl dX11_laysNode_41 ?_
  refine lv_iload hx hb dX11_laysNode_44 (lv_at hl 0 rfl) ?_
  refine lv_iconst (v := 0) hx hb dX11_laysNode_46 (by decide) ?_
  refine va_iast hx hb hK hP hD hS 23 22 gB_23 yB_23 (vp_in_iff.mpr hg1) dX11_laysNode_47 (fun H locs hP hD hS => ?_)
  replace hP := uB_23 hP
  replace hD := hD0 ((stI (stL z2 22 (σ.1 0 46).toNatClampNeg 0) 23 (σ.1 0 46).toNatClampNeg 0))
  refine lv_aload_n hx hb dX11_laysNode_48 rfl (lv_at hl 1 rfl) ?_
  refine va_get (D := (dC, dI)) (ci := 11) (C := RX11) (T := TX11) (N := 95) hx hb hts inlX11 hown hK hP 0 gB_0 rfl 39 (by decide) (hts (.fieldLink RX11 82 "ShapeReaderModel" "nodeParent" "[I") mw_27_20) (fun _ h9 => h9) rfl dX11_laysNode_49 ?_
  refine lv_iload hx hb dX11_laysNode_52 (lv_at hl 0 rfl) ?_
  refine lv_iload_n hx hb dX11_laysNode_54 rfl (lv_at hl 3 rfl) ?_
  refine va_iast hx hb hK hP hD hS 24 23 gB_24 yB_24 (vp_in_iff.mpr hg1) dX11_laysNode_55 (fun H locs hP hD hS => ?_)
  replace hP := uB_24 hP
  replace hD := hD0 ((stI (stI (stL z2 22 (σ.1 0 46).toNatClampNeg 0) 23 (σ.1 0 46).toNatClampNeg 0) 24 (σ.1 0 46).toNatClampNeg p1))
  obtain ⟨z3, hs, h⟩ := ib h
  replace hs := Option.some.inj hs
  replace hP : va_P (dC, dI) vwCl (wB a k z3) H := by rw [← hs]; exact hP
  replace hD := hD0 z3
  clear hs
  refine lv_aload_n hx hb dX11_laysNode_56 rfl (lv_at hl 1 rfl) ?_
  refine va_get (D := (dC, dI)) (ci := 11) (C := RX11) (T := TX11) (N := 95) hx hb hts inlX11 hown hK hP 0 gB_0 rfl 40 (by decide) (hts (.fieldLink RX11 85 "ShapeReaderModel" "nodeIndex" "[I") mw_27_21) (fun _ h9 => h9) rfl dX11_laysNode_57 ?_
  refine lv_iload hx hb dX11_laysNode_60 (lv_at hl 0 rfl) ?_
  refine lv_iload_n hx hb dX11_laysNode_62 rfl (lv_at hl 4 rfl) ?_
  refine va_iast hx hb hK hP hD hS 25 24 gB_25 yB_25 (vp_in_iff.mpr hg1) dX11_laysNode_63 (fun H locs hP hD hS => ?_)
  replace hP := uB_25 hP
  replace hD := hD0 ((stI z3 25 (σ.1 0 46).toNatClampNeg p2))
  refine lv_aload_n hx hb dX11_laysNode_64 rfl (lv_at hl 1 rfl) ?_
  refine va_get (D := (dC, dI)) (ci := 11) (C := RX11) (T := TX11) (N := 95) hx hb hts inlX11 hown hK hP 0 gB_0 rfl 41 (by decide) (hts (.fieldLink RX11 88 "ShapeReaderModel" "nodeBranch" "[I") mw_27_22) (fun _ h9 => h9) rfl dX11_laysNode_65 ?_
  refine lv_iload hx hb dX11_laysNode_68 (lv_at hl 0 rfl) ?_
  refine lv_iload hx hb dX11_laysNode_70 (lv_at hl 5 rfl) ?_
  refine va_iast hx hb hK hP hD hS 26 25 gB_26 yB_26 (vp_in_iff.mpr hg1) dX11_laysNode_72 (fun H locs hP hD hS => ?_)
  replace hP := uB_26 hP
  replace hD := hD0 ((stI (stI z3 25 (σ.1 0 46).toNatClampNeg p2) 26 (σ.1 0 46).toNatClampNeg p3))
  refine lv_aload_n hx hb dX11_laysNode_73 rfl (lv_at hl 1 rfl) ?_
  refine va_get (D := (dC, dI)) (ci := 11) (C := RX11) (T := TX11) (N := 95) hx hb hts inlX11 hown hK hP 0 gB_0 rfl 42 (by decide) (hts (.fieldLink RX11 91 "ShapeReaderModel" "nodeFilled" "[Z") mw_27_23) (fun _ h9 => h9) rfl dX11_laysNode_74 ?_
  refine lv_iload hx hb dX11_laysNode_77 (lv_at hl 0 rfl) ?_
  refine lv_iconst (v := 0) hx hb dX11_laysNode_79 (by decide) ?_
  refine va_zast hx hb hK hP hD hS 27 26 gB_27 yB_27 (vp_in_iff.mpr hg1) dX11_laysNode_80 (fun H locs hP hD hS => ?_)
  replace hP := uB_27 hP
  replace hD := hD0 ((stI (stI (stI z3 25 (σ.1 0 46).toNatClampNeg p2) 26 (σ.1 0 46).toNatClampNeg p3) 27 (σ.1 0 46).toNatClampNeg (vp_nar .boolean 0)))
  obtain ⟨z4, hs, h⟩ := ib h
  replace hs := Option.some.inj hs
  replace hP : va_P (dC, dI) vwCl (wB a k z4) H := by rw [← hs]; exact hP
  replace hD := hD0 z4
  clear hs
  refine lv_aload_n hx hb dX11_laysNode_81 rfl (lv_at hl 1 rfl) ?_
  refine va_get (D := (dC, dI)) (ci := 11) (C := RX11) (T := TX11) (N := 95) hx hb hts inlX11 hown hK hP 0 gB_0 rfl 43 (by decide) (hts (.fieldLink RX11 94 "ShapeReaderModel" "nodeFirst" "[I") mw_27_24) (fun _ h9 => h9) rfl dX11_laysNode_82 ?_
  refine lv_iload hx hb dX11_laysNode_85 (lv_at hl 0 rfl) ?_
  refine lv_iconst (v := (-1)) hx hb dX11_laysNode_87 (by decide) ?_
  refine va_iast hx hb hK hP hD hS 28 27 gB_28 yB_28 (vp_in_iff.mpr hg1) dX11_laysNode_88 (fun H locs hP hD hS => ?_)
  replace hP := uB_28 hP
  replace hD := hD0 ((stI z4 28 (σ.1 0 46).toNatClampNeg (-1)))
  refine lv_aload_n hx hb dX11_laysNode_89 rfl (lv_at hl 1 rfl) ?_
  refine va_get (D := (dC, dI)) (ci := 11) (C := RX11) (T := TX11) (N := 95) hx hb hts inlX11 hown hK hP 0 gB_0 rfl 44 (by decide) (hts (.fieldLink RX11 97 "ShapeReaderModel" "nodeLast" "[I") mw_27_25) (fun _ h9 => h9) rfl dX11_laysNode_90 ?_
  refine lv_iload hx hb dX11_laysNode_93 (lv_at hl 0 rfl) ?_
  refine lv_iconst (v := (-1)) hx hb dX11_laysNode_95 (by decide) ?_
  refine va_iast hx hb hK hP hD hS 29 28 gB_29 yB_29 (vp_in_iff.mpr hg1) dX11_laysNode_96 (fun H locs hP hD hS => ?_)
  replace hP := uB_29 hP
  replace hD := hD0 ((stI (stI z4 28 (σ.1 0 46).toNatClampNeg (-1)) 29 (σ.1 0 46).toNatClampNeg (-1)))
  refine lv_aload_n hx hb dX11_laysNode_97 rfl (lv_at hl 1 rfl) ?_
  refine va_get (D := (dC, dI)) (ci := 11) (C := RX11) (T := TX11) (N := 95) hx hb hts inlX11 hown hK hP 0 gB_0 rfl 45 (by decide) (hts (.fieldLink RX11 100 "ShapeReaderModel" "nodeNext" "[I") mw_27_26) (fun _ h9 => h9) rfl dX11_laysNode_98 ?_
  refine lv_iload hx hb dX11_laysNode_101 (lv_at hl 0 rfl) ?_
  refine lv_iconst (v := (-1)) hx hb dX11_laysNode_103 (by decide) ?_
  refine va_iast hx hb hK hP hD hS 30 29 gB_30 yB_30 (vp_in_iff.mpr hg1) dX11_laysNode_104 (fun H locs hP hD hS => ?_)
  replace hP := uB_30 hP
  replace hD := hD0 ((stI (stI (stI z4 28 (σ.1 0 46).toNatClampNeg (-1)) 29 (σ.1 0 46).toNatClampNeg (-1)) 30 (σ.1 0 46).toNatClampNeg (-1)))
  obtain ⟨z5, hs, h⟩ := ib h
  replace hs := Option.some.inj hs
  replace hP : va_P (dC, dI) vwCl (wB a k z5) H := by rw [← hs]; exact hP
  replace hD := hD0 z5
  clear hs
  refine lv_iload_n hx hb dX11_laysNode_105 rfl (lv_at hl 3 rfl) ?_
  refine lv_if_lt (tgt := 116) hx hb dX11_laysNode_106 (by decide) (fun hc => ?_) (fun hc => ?_)
  · replace h := ip hc h
    refine lv_iload hx hb dX11_laysNode_116 (lv_at hl 0 rfl) ?_
    obtain rfl := Option.some.inj h
    exact W.iret hx hb hr (fun t ht hW => ⟨⟨_, (), rfl, rfl, ⟨by rw [ht]; exact hP, va_K.moved hW.alike hK, hD⟩⟩, hS.F ht⟩) hS.2.2 dX11_laysNode_118
  · replace h := iq hc h
    refine lv_aload_n hx hb dX11_laysNode_109 rfl (lv_at hl 1 rfl) ?_
    refine lv_iload_n hx hb dX11_laysNode_110 rfl (lv_at hl 3 rfl) ?_
    refine lv_iload hx hb dX11_laysNode_111 (lv_at hl 0 rfl) ?_
    obtain ⟨q6, hc, h⟩ := ib h
    have hF := va_frees hD hS hA
    refine va_callv (va_runV (As := [.int p1, .int (σ.1 0 46)]) (rest := []) ⟨hx, hb, hml, hown, hts⟩ (s_X11_joins hc) (cwV 2 hts (gV mw_33_29 mw_34_0 mw_34_1 mw_0_15 mw_55_14) rfl rfl rfl (by decide +kernel) ⟨(Nat.le_of_ble_eq_true rfl), (Nat.le_of_ble_eq_true rfl)⟩) (vV (ci := 11) (q0 := 0) hK hP hD hN rfl gB_0) rfl rfl hl.1 rfl (lv_room (Nat.le_of_ble_eq_true rfl)) dX11_laysNode_113 ⟨(Nat.le_of_ble_eq_true rfl), (Nat.le_of_ble_eq_true rfl)⟩) hS (fun q _ h => hF q h) hF (fun u t H locs ht hvm hw hB _ _ hS => ?_)
    replace hP : va_P (dC, dI) vwCl (wB a k q6) H := by rw [← ht]; exact hB.1
    replace hD := hD0 (q6)
    clear hB hF
    refine lv_iload hx hb dX11_laysNode_116 (lv_at hl 0 rfl) ?_
    obtain rfl := Option.some.inj h
    exact W.iret hx hb hr (fun t ht hW => ⟨⟨_, (), rfl, rfl, ⟨by rw [ht]; exact hP, va_K.moved hW.alike hK, hD⟩⟩, hS.F ht⟩) hS.2.2 dX11_laysNode_118

theorem s_X11_laysNode {l : Launch} {dC : Nat → ClassId} {dI : Nat → Nat → Nat} {a : Nat → Nat} {k : Nat → ClassId} {sz : Nat} {p0 : Int32} {p1 : Int32} {p2 : Int32} {p3 : Int32} {σ : ST} {q : Int32 × ST} (h : f_X11_laysNode  p0 p1 p2 p3 σ = some q) : Met l yX11_laysNode (.code yX11_laysNode cX11_laysNode 6 (some .int) :: pw) ({ frames := 1, cells := 0, slots := 0, locals := 24 } : Room) (va_Pc [.ref (a 0), .int p0, .int p1, .int p2, .int p3] (vPre dC dI (wB a k σ) (tB k) sz)) (qBi dC dI a k (va_A (wB a k σ) sz) q) 0 0 (va_A (wB a k σ) sz) := metB (fun A => qBi dC dI a k A q) (plainFor_of_name (by decide)) (Nat.le_of_ble_eq_true rfl) (fun _ _ _ _ _ _ _ _ hC => b_X11_laysNode_e hC h)

def f_X11_nextByte (σ : ST) : Option (Int32 × ST) := if (σ.1 0 64) = (σ.1 0 65) then ((f_X11_fails  11 (σ.1 0 65) σ).bind fun q2 => some ((-1), q2.2)) else (if 0 ≤ ((((stI σ 0 64 ((σ.1 0 64) + 1)).1 0 63) + ((stI σ 0 64 ((σ.1 0 64) + 1)).1 0 64)) - 1).toInt ∧ ((((stI σ 0 64 ((σ.1 0 64) + 1)).1 0 63) + ((stI σ 0 64 ((σ.1 0 64) + 1)).1 0 64)) - 1).toInt < 1600 then (some ((((stI σ 0 64 ((σ.1 0 64) + 1)).1 34 ((((stI σ 0 64 ((σ.1 0 64) + 1)).1 0 63) + ((stI σ 0 64 ((σ.1 0 64) + 1)).1 0 64)) - 1).toNatClampNeg) &&& 255), (stI σ 0 64 ((σ.1 0 64) + 1)))) else none)

set_option maxRecDepth 100000 in
set_option maxHeartbeats 4000000 in
theorem b_X11_nextByte_e {p : Program} {l : Launch} {e : Env} {s : State} {m : MethodId} {args : Array Value} {below : List Frame} {meth : Method} {c : Code} {dC : Nat → ClassId} {dI : Nat → Nat → Nat} {a : Nat → Nat} {k : Nat → ClassId} {A : Nat → Prop} {q : Int32 × ST} (hC : CxB p s m args meth c dC dI k A cX11_nextByte RX11 (some .int) 2)    {σ : ST} (h : f_X11_nextByte   σ = some q) : GoB p l e ({ frames := 1, cells := 0, slots := 0, locals := 23 } : Room) s m args below meth c (MQ below (qBi dC dI a k A q) args s 0 0 A) dC dI a k A 2 0 σ (lv_args 0 [.ref (a 0)]) [] := by
  have hC0 := hC
  obtain ⟨hx, hb, hr, hml, hown, hts, hlocks, hA, hN, hK⟩ := hC0
  intro H locs ls hP hD hS hl
  have hD0 : ∀ σ1 : ST, va_D A (wB a k σ1) := fun σ1 => wB_D hD
  replace hl : lv_has ls 2 [(0, .ref (a 0))] := hl
  unfold f_X11_nextByte at h
  refine lv_aload_n hx hb dX11_nextByte_0 rfl (lv_at hl 0 rfl) ?_
  refine va_get (D := (dC, dI)) (ci := 11) (C := RX11) (T := TX11) (N := 95) hx hb hts inlX11 hown hK hP 0 gB_0 rfl 64 (by decide) (hts (.fieldLink RX11 548 "ShapeReaderModel" "pos" "I") mw_37_13) (fun _ h9 => h9) rfl dX11_nextByte_1 ?_
  refine lv_aload_n hx hb dX11_nextByte_4 rfl (lv_at hl 0 rfl) ?_
  refine va_get (D := (dC, dI)) (ci := 11) (C := RX11) (T := TX11) (N := 95) hx hb hts inlX11 hown hK hP 0 gB_0 rfl 65 (by decide) (hts (.fieldLink RX11 551 "ShapeReaderModel" "till" "I") mw_37_14) (fun _ h9 => h9) rfl dX11_nextByte_5 ?_
  refine lv_icmp_ne (tgt := 24) hx hb dX11_nextByte_8 (by decide) (fun hc => ?_) (fun hc => ?_)
  · replace h := iq hc h
    refine lv_aload_n hx hb dX11_nextByte_24 rfl (lv_at hl 0 rfl) ?_
    refine lv_dup hx hb dX11_nextByte_25 rfl ?_
    refine va_get (D := (dC, dI)) (ci := 11) (C := RX11) (T := TX11) (N := 95) hx hb hts inlX11 hown hK hP 0 gB_0 rfl 64 (by decide) (hts (.fieldLink RX11 548 "ShapeReaderModel" "pos" "I") mw_37_13) (fun _ h9 => h9) rfl dX11_nextByte_26 ?_
    refine lv_iconst (v := 1) hx hb dX11_nextByte_29 (by decide) ?_
    refine lv_iadd hx hb dX11_nextByte_30 ?_
    refine va_put (D := (dC, dI)) (ci := 11) (ty := .int) (C := RX11) (T := TX11) (N := 95) hx hb hts inlX11 tyX11 tyX11_ok nmX11 hown hK hP hD hS 0 gB_0 rfl 64 (by decide) (hts (.fieldLink RX11 548 "ShapeReaderModel" "pos" "I") mw_37_13) (fun _ h9 => h9) rfl (by decide +kernel) rfl rfl (Nat.le_of_ble_eq_true rfl) dX11_nextByte_31 (fun H locs hP hD hS => ?_)
    replace hP := uB_0_64 hP
    replace hD := hD0 ((stI σ 0 64 ((σ.1 0 64) + 1)))
    refine lv_aload_n hx hb dX11_nextByte_34 rfl (lv_at hl 0 rfl) ?_
    refine va_get (D := (dC, dI)) (ci := 11) (C := RX11) (T := TX11) (N := 95) hx hb hts inlX11 hown hK hP 0 gB_0 rfl 52 (by decide) (hts (.fieldLink RX11 112 "ShapeReaderModel" "bytes" "[B") mw_28_0) (fun _ h9 => h9) rfl dX11_nextByte_35 ?_
    refine lv_aload_n hx hb dX11_nextByte_38 rfl (lv_at hl 0 rfl) ?_
    refine va_get (D := (dC, dI)) (ci := 11) (C := RX11) (T := TX11) (N := 95) hx hb hts inlX11 hown hK hP 0 gB_0 rfl 63 (by decide) (hts (.fieldLink RX11 557 "ShapeReaderModel" "from" "I") mw_37_18) (fun _ h9 => h9) rfl dX11_nextByte_39 ?_
    refine lv_aload_n hx hb dX11_nextByte_42 rfl (lv_at hl 0 rfl) ?_
    refine va_get (D := (dC, dI)) (ci := 11) (C := RX11) (T := TX11) (N := 95) hx hb hts inlX11 hown hK hP 0 gB_0 rfl 64 (by decide) (hts (.fieldLink RX11 548 "ShapeReaderModel" "pos" "I") mw_37_13) (fun _ h9 => h9) rfl dX11_nextByte_43 ?_
    refine lv_iadd hx hb dX11_nextByte_46 ?_
    refine lv_iconst (v := 1) hx hb dX11_nextByte_47 (by decide) ?_
    refine lv_isub hx hb dX11_nextByte_48 ?_
    obtain ⟨hg1, h⟩ := ig h
    refine va_bald hx hb hK hP 34 33 gB_34 yB_34 (vp_in_iff.mpr hg1) dX11_nextByte_49 ?_
    refine lv_sipush (v := 255) hx hb dX11_nextByte_50 (by decide) ?_
    refine lv_iand hx hb dX11_nextByte_53 ?_
    obtain rfl := Option.some.inj h
    exact W.iret hx hb hr (fun t ht hW => ⟨⟨_, (), rfl, rfl, ⟨by rw [ht]; exact hP, va_K.moved hW.alike hK, hD⟩⟩, hS.F ht⟩) hS.2.2 dX11_nextByte_54
  · replace h := ip hc h
    refine lv_aload_n hx hb dX11_nextByte_11 rfl (lv_at hl 0 rfl) ?_
    refine lv_bipush (v := 11) hx hb dX11_nextByte_12 (by decide) ?_
    refine lv_aload_n hx hb dX11_nextByte_14 rfl (lv_at hl 0 rfl) ?_
    refine va_get (D := (dC, dI)) (ci := 11) (C := RX11) (T := TX11) (N := 95) hx hb hts inlX11 hown hK hP 0 gB_0 rfl 65 (by decide) (hts (.fieldLink RX11 551 "ShapeReaderModel" "till" "I") mw_37_14) (fun _ h9 => h9) rfl dX11_nextByte_15 ?_
    obtain ⟨q2, hc, h⟩ := ib h
    have hF := va_frees hD hS hA
    refine va_calli (va_runV (As := [.int 11, .int (σ.1 0 65)]) (rest := []) ⟨hx, hb, hml, hown, hts⟩ (s_X11_fails hc) (cwV 2 hts (gV mw_37_15 mw_37_16 mw_37_17 mw_0_15 mw_56_22) rfl rfl rfl (by decide +kernel) ⟨(Nat.le_of_ble_eq_true rfl), (Nat.le_of_ble_eq_true rfl)⟩) (vV (ci := 11) (q0 := 0) hK hP hD hN rfl gB_0) rfl rfl hl.1 rfl (lv_room (Nat.le_of_ble_eq_true rfl)) dX11_nextByte_18 ⟨(Nat.le_of_ble_eq_true rfl), (Nat.le_of_ble_eq_true rfl)⟩) hS (fun q _ h => hF q h) hF (fun r3 u t H locs ht hvm hw hB _ _ hS => ?_)
    obtain rfl : r3 = q2.1 := hw
    replace hP : va_P (dC, dI) vwCl (wB a k q2.2) H := by rw [← ht]; exact hB.1
    replace hD := hD0 (q2.2)
    clear hB hF
    refine lv_istore_n (lv' := [(1, .int q2.1), (0, .ref (a 0))]) hx hb dX11_nextByte_21 rfl hl (by decide) rfl (fun ls hl => ?_)
    refine lv_iconst (v := (-1)) hx hb dX11_nextByte_22 (by decide) ?_
    obtain rfl := Option.some.inj h
    exact W.iret hx hb hr (fun t ht hW => ⟨⟨_, (), rfl, rfl, ⟨by rw [ht]; exact hP, va_K.moved hW.alike hK, hD⟩⟩, hS.F ht⟩) hS.2.2 dX11_nextByte_23

theorem s_X11_nextByte {l : Launch} {dC : Nat → ClassId} {dI : Nat → Nat → Nat} {a : Nat → Nat} {k : Nat → ClassId} {sz : Nat}  {σ : ST} {q : Int32 × ST} (h : f_X11_nextByte   σ = some q) : Met l yX11_nextByte (.code yX11_nextByte cX11_nextByte 2 (some .int) :: pw) ({ frames := 1, cells := 0, slots := 0, locals := 23 } : Room) (va_Pc [.ref (a 0)] (vPre dC dI (wB a k σ) (tB k) sz)) (qBi dC dI a k (va_A (wB a k σ) sz) q) 0 0 (va_A (wB a k σ) sz) := metB (fun A => qBi dC dI a k A q) (plainFor_of_name (by decide)) (Nat.le_of_ble_eq_true rfl) (fun _ _ _ _ _ _ _ _ hC => b_X11_nextByte_e hC h)

def f_X11_readsNumber_46 (k5 : Int32 → Int64 → Int32 → ST → Option (Int32 × ST)) (x1 : Int32) (x2 : Int64) (x4 : Int32) (x5 : Int32) (σ : ST) : Option (Int32 × ST) := if 128 ≤ x5 then (k5 x1 (x2 ||| (((x5.toInt64) &&& 127) <<< ((7 * x4).toInt64 &&& 63))) (x4 + 1) σ) else ((some (stL σ 0 70 ((((x2 ||| (((x5.toInt64) &&& 127) <<< ((7 * x4).toInt64 &&& 63))).toUInt64 >>> ((1 : Int32).toInt64.toUInt64 &&& Int64.toUInt64 63)).toInt64) ^^^ (-((x2 ||| (((x5.toInt64) &&& 127) <<< ((7 * x4).toInt64 &&& 63))) &&& 1))))).bind fun z1 => some (1, z1))
def f_X11_readsNumber_5  : Nat → Int32 → Int64 → Int32 → ST → Option (Int32 × ST)
  | 0, _, _, _, _ => none
  | n + 1, x1, x2, x4, σ => if 10 ≤ x4 then (some (0, σ)) else ((f_X11_nextByte   σ).bind fun q1 => if 0 ≤ q1.1 then (if x4 = 9 then (if q1.1 ≤ 1 then (f_X11_readsNumber_46 (f_X11_readsNumber_5  n) x1 x2 x4 q1.1 q1.2) else ((f_X11_fails  12 x1 q1.2).bind fun q3 => if q3.1 = 0 ∨ q3.1 = 1 then some (q3.1, q3.2) else none)) else (f_X11_readsNumber_46 (f_X11_readsNumber_5  n) x1 x2 x4 q1.1 q1.2)) else (some (0, q1.2)))
def f_X11_readsNumber (p0 : Int32) (σ : ST) : Option (Int32 × ST) := f_X11_readsNumber_5  FU p0 0 0 σ

set_option maxRecDepth 100000 in
set_option maxHeartbeats 4000000 in
theorem b_X11_readsNumber_46 {p : Program} {l : Launch} {e : Env} {s : State} {m : MethodId} {args : Array Value} {below : List Frame} {meth : Method} {c : Code} {dC : Nat → ClassId} {dI : Nat → Nat → Nat} {a : Nat → Nat} {k : Nat → ClassId} {A : Nat → Prop} {q : Int32 × ST} (hC : CxB p s m args meth c dC dI k A cX11_readsNumber RX11 (some .boolean) 6)  {k5 : Int32 → Int64 → Int32 → ST → Option (Int32 × ST)} (hk5 : ∀ (x1 : Int32) (x2 : Int64) (x4 : Int32) (σ : ST), k5 x1 x2 x4 σ = some q → GoB p l e ({ frames := 2, cells := 0, slots := 0, locals := 44 } : Room) s m args below meth c (MQ below (qBi dC dI a k A q) args s 0 0 A) dC dI a k A 6 5 σ [(0, .ref (a 0)), (1, .int x1), (2, .long x2), (4, .int x4)] []) {x1 : Int32} {x2 : Int64} {x4 : Int32} {x5 : Int32} {σ : ST} (h : f_X11_readsNumber_46 k5 x1 x2 x4 x5 σ = some q) : GoB p l e ({ frames := 2, cells := 0, slots := 0, locals := 44 } : Room) s m args below meth c (MQ below (qBi dC dI a k A q) args s 0 0 A) dC dI a k A 6 46 σ [(0, .ref (a 0)), (1, .int x1), (2, .long x2), (4, .int x4), (5, .int x5)] [] := by
  have hC0 := hC
  obtain ⟨hx, hb, hr, hml, hown, hts, hlocks, hA, hN, hK⟩ := hC0
  intro H locs ls hP hD hS hl
  have hD0 : ∀ σ1 : ST, va_D A (wB a k σ1) := fun σ1 => wB_D hD
  unfold f_X11_readsNumber_46 at h
  refine lv_lload_n hx hb dX11_readsNumber_46 rfl (lv_at hl 2 rfl) ?_
  refine lv_iload hx hb dX11_readsNumber_47 (lv_at hl 4 rfl) ?_
  refine lv_i2l (v := x5.toInt64) hx hb dX11_readsNumber_49 rfl ?_
  refine lv_ldc2 (v := 127) hx hb hown (hts (.constantLong RX11 456 (127)) mw_34_29) dX11_readsNumber_50 ?_
  refine lv_land hx hb dX11_readsNumber_53 ?_
  refine lv_bipush (v := 7) hx hb dX11_readsNumber_54 (by decide) ?_
  refine lv_iload hx hb dX11_readsNumber_56 (lv_at hl 3 rfl) ?_
  refine lv_imul hx hb dX11_readsNumber_58 ?_
  refine lv_lshl (v := (((x5.toInt64) &&& 127) <<< ((7 * x4).toInt64 &&& 63))) hx hb dX11_readsNumber_59 rfl ?_
  refine lv_lor hx hb dX11_readsNumber_60 ?_
  refine lv_lstore_n (lv' := [(2, .long (x2 ||| (((x5.toInt64) &&& 127) <<< ((7 * x4).toInt64 &&& 63)))), (0, .ref (a 0)), (1, .int x1), (4, .int x4), (5, .int x5)]) hx hb dX11_readsNumber_61 rfl hl (by decide) rfl (fun ls hl => ?_)
  refine lv_iload hx hb dX11_readsNumber_62 (lv_at hl 4 rfl) ?_
  refine lv_sipush (v := 128) hx hb dX11_readsNumber_64 (by decide) ?_
  refine lv_icmp_ge (tgt := 84) hx hb dX11_readsNumber_67 (by decide) (fun hc => ?_) (fun hc => ?_)
  · replace h := ip hc h
    refine lv_iinc (v := (x4 + 1)) (lv' := [(4, .int (x4 + 1)), (2, .long (x2 ||| (((x5.toInt64) &&& 127) <<< ((7 * x4).toInt64 &&& 63)))), (0, .ref (a 0)), (1, .int x1), (5, .int x5)]) hx hb dX11_readsNumber_84 hl (k := 3) rfl rfl (by decide) rfl (fun ls hl => ?_)
    refine lv_goto (tgt := 5) hx hb dX11_readsNumber_87 (by decide) ?_
    exact hk5 _ _ _ _ h _ _ _ hP hD hS (lv_sub hl [2, 3, 1, 0] rfl)
  · replace h := iq hc h
    refine lv_aload_n hx hb dX11_readsNumber_70 rfl (lv_at hl 1 rfl) ?_
    refine lv_lload_n hx hb dX11_readsNumber_71 rfl (lv_at hl 0 rfl) ?_
    refine lv_iconst (v := 1) hx hb dX11_readsNumber_72 (by decide) ?_
    refine lv_lushr (v := (((x2 ||| (((x5.toInt64) &&& 127) <<< ((7 * x4).toInt64 &&& 63))).toUInt64 >>> ((1 : Int32).toInt64.toUInt64 &&& Int64.toUInt64 63)).toInt64)) hx hb dX11_readsNumber_73 rfl ?_
    refine lv_lload_n hx hb dX11_readsNumber_74 rfl (lv_at hl 0 rfl) ?_
    refine lv_lconst (v := 1) hx hb dX11_readsNumber_75 (by decide) ?_
    refine lv_land hx hb dX11_readsNumber_76 ?_
    refine lv_lneg hx hb dX11_readsNumber_77 ?_
    refine lv_lxor hx hb dX11_readsNumber_78 ?_
    refine va_put (D := (dC, dI)) (ci := 11) (ty := .long) (C := RX11) (T := TX11) (N := 95) hx hb hts inlX11 tyX11 tyX11_ok nmX11 hown hK hP hD hS 0 gB_0 rfl 70 (by decide) (hts (.fieldLink RX11 563 "ShapeReaderModel" "numberRead" "J") mw_37_22) (fun _ h9 => h9) rfl (by decide +kernel) rfl rfl (Nat.le_of_ble_eq_true rfl) dX11_readsNumber_79 (fun H locs hP hD hS => ?_)
    replace hP := uB_0_70 hP
    replace hD := hD0 ((stL σ 0 70 ((((x2 ||| (((x5.toInt64) &&& 127) <<< ((7 * x4).toInt64 &&& 63))).toUInt64 >>> ((1 : Int32).toInt64.toUInt64 &&& Int64.toUInt64 63)).toInt64) ^^^ (-((x2 ||| (((x5.toInt64) &&& 127) <<< ((7 * x4).toInt64 &&& 63))) &&& 1)))))
    obtain ⟨z1, hs, h⟩ := ib h
    replace hs := Option.some.inj hs
    replace hP : va_P (dC, dI) vwCl (wB a k z1) H := by rw [← hs]; exact hP
    replace hD := hD0 z1
    clear hs
    refine lv_iconst (v := 1) hx hb dX11_readsNumber_82 (by decide) ?_
    obtain rfl := Option.some.inj h
    exact W.zret hx hb hr rfl (fun t ht hW => ⟨⟨_, (), rfl, rfl, ⟨by rw [ht]; exact hP, va_K.moved hW.alike hK, hD⟩⟩, hS.F ht⟩) hS.2.2 dX11_readsNumber_83

set_option maxRecDepth 100000 in
set_option maxHeartbeats 4000000 in
theorem b_X11_readsNumber_5 {p : Program} {l : Launch} {e : Env} {s : State} {m : MethodId} {args : Array Value} {below : List Frame} {meth : Method} {c : Code} {dC : Nat → ClassId} {dI : Nat → Nat → Nat} {a : Nat → Nat} {k : Nat → ClassId} {A : Nat → Prop} {q : Int32 × ST} (hC : CxB p s m args meth c dC dI k A cX11_readsNumber RX11 (some .boolean) 6)   : ∀ (n : Nat) (x1 : Int32) (x2 : Int64) (x4 : Int32) (σ : ST), f_X11_readsNumber_5  n x1 x2 x4 σ = some q → GoB p l e ({ frames := 2, cells := 0, slots := 0, locals := 44 } : Room) s m args below meth c (MQ below (qBi dC dI a k A q) args s 0 0 A) dC dI a k A 6 5 σ [(0, .ref (a 0)), (1, .int x1), (2, .long x2), (4, .int x4)] [] := by
  intro n
  induction n with
  | zero =>
    intro x1 x2 x4 σ h
    rw [f_X11_readsNumber_5] at h
    cases h
  | succ n ih =>
    intro x1 x2 x4 σ h
    have hC0 := hC
    obtain ⟨hx, hb, hr, hml, hown, hts, hlocks, hA, hN, hK⟩ := hC0
    intro H locs ls hP hD hS hl
    have hD0 : ∀ σ1 : ST, va_D A (wB a k σ1) := fun σ1 => wB_D hD
    rw [f_X11_readsNumber_5] at h
    refine lv_iload hx hb dX11_readsNumber_5 (lv_at hl 3 rfl) ?_
    refine lv_bipush (v := 10) hx hb dX11_readsNumber_7 (by decide) ?_
    refine lv_icmp_ge (tgt := 90) hx hb dX11_readsNumber_9 (by decide) (fun hc => ?_) (fun hc => ?_)
    · replace h := ip hc h
      refine lv_iconst (v := 0) hx hb dX11_readsNumber_90 (by decide) ?_
      obtain rfl := Option.some.inj h
      exact W.zret hx hb hr rfl (fun t ht hW => ⟨⟨_, (), rfl, rfl, ⟨by rw [ht]; exact hP, va_K.moved hW.alike hK, hD⟩⟩, hS.F ht⟩) hS.2.2 dX11_readsNumber_91
    · replace h := iq hc h
      refine lv_aload_n hx hb dX11_readsNumber_12 rfl (lv_at hl 0 rfl) ?_
      obtain ⟨q1, hc, h⟩ := ib h
      have hF := va_frees hD hS hA
      refine va_calli (va_runV (As := []) (rest := []) ⟨hx, hb, hml, hown, hts⟩ (s_X11_nextByte hc) (cwV 0 hts (gV mw_37_19 mw_37_20 mw_37_21 mw_0_15 mw_56_23) rfl rfl rfl (by decide +kernel) ⟨(Nat.le_of_ble_eq_true rfl), (Nat.le_of_ble_eq_true rfl)⟩) (vV (ci := 11) (q0 := 0) hK hP hD hN rfl gB_0) rfl rfl hl.1 rfl (lv_room (Nat.le_of_ble_eq_true rfl)) dX11_readsNumber_13 ⟨(Nat.le_of_ble_eq_true rfl), (Nat.le_of_ble_eq_true rfl)⟩) hS (fun q _ h => hF q h) hF (fun r2 u t H locs ht hvm hw hB _ _ hS => ?_)
      obtain rfl : r2 = q1.1 := hw
      replace hP : va_P (dC, dI) vwCl (wB a k q1.2) H := by rw [← ht]; exact hB.1
      replace hD := hD0 (q1.2)
      clear hB hF
      refine lv_istore (lv' := [(5, .int q1.1), (0, .ref (a 0)), (1, .int x1), (2, .long x2), (4, .int x4)]) hx hb dX11_readsNumber_16 hl (by decide) rfl (fun ls hl => ?_)
      refine lv_iload hx hb dX11_readsNumber_18 (lv_at hl 0 rfl) ?_
      refine lv_if_ge (tgt := 25) hx hb dX11_readsNumber_20 (by decide) (fun hc => ?_) (fun hc => ?_)
      · replace h := ip hc h
        refine lv_iload hx hb dX11_readsNumber_25 (lv_at hl 4 rfl) ?_
        refine lv_bipush (v := 9) hx hb dX11_readsNumber_27 (by decide) ?_
        refine lv_icmp_ne (tgt := 46) hx hb dX11_readsNumber_29 (by decide) (fun hc => ?_) (fun hc => ?_)
        · replace h := iq hc h
          exact b_X11_readsNumber_46 hC ih h _ _ _ hP hD hS (lv_sub hl [1, 2, 3, 4, 0] rfl)
        · replace h := ip hc h
          refine lv_iload hx hb dX11_readsNumber_32 (lv_at hl 0 rfl) ?_
          refine lv_iconst (v := 1) hx hb dX11_readsNumber_34 (by decide) ?_
          refine lv_icmp_le (tgt := 46) hx hb dX11_readsNumber_35 (by decide) (fun hc => ?_) (fun hc => ?_)
          · replace h := ip hc h
            exact b_X11_readsNumber_46 hC ih h _ _ _ hP hD hS (lv_sub hl [1, 2, 3, 4, 0] rfl)
          · replace h := iq hc h
            refine lv_aload_n hx hb dX11_readsNumber_38 rfl (lv_at hl 1 rfl) ?_
            refine lv_bipush (v := 12) hx hb dX11_readsNumber_39 (by decide) ?_
            refine lv_iload_n hx hb dX11_readsNumber_41 rfl (lv_at hl 2 rfl) ?_
            obtain ⟨q3, hc, h⟩ := ib h
            have hF := va_frees hD hS hA
            refine va_calli (va_runV (As := [.int 12, .int x1]) (rest := []) ⟨hx, hb, hml, hown, hts⟩ (s_X11_fails hc) (cwV 2 hts (gV mw_37_15 mw_37_16 mw_37_17 mw_0_15 mw_56_22) rfl rfl rfl (by decide +kernel) ⟨(Nat.le_of_ble_eq_true rfl), (Nat.le_of_ble_eq_true rfl)⟩) (vV (ci := 11) (q0 := 0) hK hP hD hN rfl gB_0) rfl rfl hl.1 rfl (lv_room (Nat.le_of_ble_eq_true rfl)) dX11_readsNumber_42 ⟨(Nat.le_of_ble_eq_true rfl), (Nat.le_of_ble_eq_true rfl)⟩) hS (fun q _ h => hF q h) hF (fun r4 u t H locs ht hvm hw hB _ _ hS => ?_)
            obtain rfl : r4 = q3.1 := hw
            replace hP : va_P (dC, dI) vwCl (wB a k q3.2) H := by rw [← ht]; exact hB.1
            replace hD := hD0 (q3.2)
            clear hB hF
            obtain ⟨hg, h⟩ := ig h
            obtain rfl := Option.some.inj h
            exact W.zret hx hb hr (zn hg) (fun t ht hW => ⟨⟨_, (), rfl, rfl, ⟨by rw [ht]; exact hP, va_K.moved hW.alike hK, hD⟩⟩, hS.F ht⟩) hS.2.2 dX11_readsNumber_45
      · replace h := iq hc h
        refine lv_iconst (v := 0) hx hb dX11_readsNumber_23 (by decide) ?_
        obtain rfl := Option.some.inj h
        exact W.zret hx hb hr rfl (fun t ht hW => ⟨⟨_, (), rfl, rfl, ⟨by rw [ht]; exact hP, va_K.moved hW.alike hK, hD⟩⟩, hS.F ht⟩) hS.2.2 dX11_readsNumber_24

set_option maxRecDepth 100000 in
set_option maxHeartbeats 4000000 in
theorem b_X11_readsNumber_e {p : Program} {l : Launch} {e : Env} {s : State} {m : MethodId} {args : Array Value} {below : List Frame} {meth : Method} {c : Code} {dC : Nat → ClassId} {dI : Nat → Nat → Nat} {a : Nat → Nat} {k : Nat → ClassId} {A : Nat → Prop} {q : Int32 × ST} (hC : CxB p s m args meth c dC dI k A cX11_readsNumber RX11 (some .boolean) 6)   {p0 : Int32} {σ : ST} (h : f_X11_readsNumber  p0 σ = some q) : GoB p l e ({ frames := 2, cells := 0, slots := 0, locals := 44 } : Room) s m args below meth c (MQ below (qBi dC dI a k A q) args s 0 0 A) dC dI a k A 6 0 σ (lv_args 0 [.ref (a 0), .int p0]) [] := by
  have hC0 := hC
  obtain ⟨hx, hb, hr, hml, hown, hts, hlocks, hA, hN, hK⟩ := hC0
  intro H locs ls hP hD hS hl
  have hD0 : ∀ σ1 : ST, va_D A (wB a k σ1) := fun σ1 => wB_D hD
  replace hl : lv_has ls 6 [(0, .ref (a 0)), (1, .int p0)] := hl
  unfold f_X11_readsNumber at h
  refine lv_lconst (v := 0) hx hb dX11_readsNumber_0 (by decide) ?_
  refine lv_lstore_n (lv' := [(2, .long 0), (0, .ref (a 0)), (1, .int p0)]) hx hb dX11_readsNumber_1 rfl hl (by decide) rfl (fun ls hl => ?_)
  refine lv_iconst (v := 0) hx hb dX11_readsNumber_2 (by decide) ?_
  refine lv_istore (lv' := [(4, .int 0), (2, .long 0), (0, .ref (a 0)), (1, .int p0)]) hx hb dX11_readsNumber_3 hl (by decide) rfl (fun ls hl => ?_)
  exact b_X11_readsNumber_5 hC FU _ _ _ _ h _ _ _ hP hD hS (lv_sub hl [2, 3, 1, 0] rfl)

theorem s_X11_readsNumber {l : Launch} {dC : Nat → ClassId} {dI : Nat → Nat → Nat} {a : Nat → Nat} {k : Nat → ClassId} {sz : Nat} {p0 : Int32} {σ : ST} {q : Int32 × ST} (h : f_X11_readsNumber  p0 σ = some q) : Met l yX11_readsNumber (.code yX11_readsNumber cX11_readsNumber 6 (some .boolean) :: pw) ({ frames := 2, cells := 0, slots := 0, locals := 44 } : Room) (va_Pc [.ref (a 0), .int p0] (vPre dC dI (wB a k σ) (tB k) sz)) (qBi dC dI a k (va_A (wB a k σ) sz) q) 0 0 (va_A (wB a k σ) sz) := metB (fun A => qBi dC dI a k A q) (plainFor_of_name (by decide)) (Nat.le_of_ble_eq_true rfl) (fun _ _ _ _ _ _ _ _ hC => b_X11_readsNumber_e hC h)

def f_X11_readsInt_31 (σ : ST) : Option (Int32 × ST) := some (1, σ)
def f_X11_readsInt (p0 : Int32) (p1 : Int64) (p2 : Int64) (σ : ST) : Option (Int32 × ST) := (f_X11_readsNumber  p0 σ).bind fun q1 => if q1.1 = 0 then (some (0, q1.2)) else ((f_X11_within  (q1.2.2.1 0 70) p1 p2 q1.2).bind fun q3 => if q3.1 = 0 then ((f_X11_fails  12 p0 q3.2).bind fun q5 => if q5.1 = 0 then (some (0, q5.2)) else (f_X11_readsInt_31   q5.2)) else (f_X11_readsInt_31   q3.2))

set_option maxRecDepth 100000 in
set_option maxHeartbeats 4000000 in
theorem b_X11_readsInt_31 {p : Program} {l : Launch} {e : Env} {s : State} {m : MethodId} {args : Array Value} {below : List Frame} {meth : Method} {c : Code} {dC : Nat → ClassId} {dI : Nat → Nat → Nat} {a : Nat → Nat} {k : Nat → ClassId} {A : Nat → Prop} {q : Int32 × ST} (hC : CxB p s m args meth c dC dI k A cX11_readsInt RX11 (some .boolean) 6)    {σ : ST} (h : f_X11_readsInt_31   σ = some q) : GoB p l e ({ frames := 3, cells := 0, slots := 0, locals := 69 } : Room) s m args below meth c (MQ below (qBi dC dI a k A q) args s 0 0 A) dC dI a k A 6 31 σ [] [] := by
  have hC0 := hC
  obtain ⟨hx, hb, hr, hml, hown, hts, hlocks, hA, hN, hK⟩ := hC0
  intro H locs ls hP hD hS hl
  have hD0 : ∀ σ1 : ST, va_D A (wB a k σ1) := fun σ1 => wB_D hD
  unfold f_X11_readsInt_31 at h
  refine lv_iconst (v := 1) hx hb dX11_readsInt_31 (by decide) ?_
  refine lv_goto (tgt := 36) hx hb dX11_readsInt_32 (by decide) ?_
  obtain rfl := Option.some.inj h
  exact W.zret hx hb hr rfl (fun t ht hW => ⟨⟨_, (), rfl, rfl, ⟨by rw [ht]; exact hP, va_K.moved hW.alike hK, hD⟩⟩, hS.F ht⟩) hS.2.2 dX11_readsInt_36

set_option maxRecDepth 100000 in
set_option maxHeartbeats 4000000 in
theorem b_X11_readsInt_e {p : Program} {l : Launch} {e : Env} {s : State} {m : MethodId} {args : Array Value} {below : List Frame} {meth : Method} {c : Code} {dC : Nat → ClassId} {dI : Nat → Nat → Nat} {a : Nat → Nat} {k : Nat → ClassId} {A : Nat → Prop} {q : Int32 × ST} (hC : CxB p s m args meth c dC dI k A cX11_readsInt RX11 (some .boolean) 6)   {p0 : Int32} {p1 : Int64} {p2 : Int64} {σ : ST} (h : f_X11_readsInt  p0 p1 p2 σ = some q) : GoB p l e ({ frames := 3, cells := 0, slots := 0, locals := 69 } : Room) s m args below meth c (MQ below (qBi dC dI a k A q) args s 0 0 A) dC dI a k A 6 0 σ (lv_args 0 [.ref (a 0), .int p0, .long p1, .long p2]) [] := by
  have hC0 := hC
  obtain ⟨hx, hb, hr, hml, hown, hts, hlocks, hA, hN, hK⟩ := hC0
  intro H locs ls hP hD hS hl
  have hD0 : ∀ σ1 : ST, va_D A (wB a k σ1) := fun σ1 => wB_D hD
  replace hl : lv_has ls 6 [(0, .ref (a 0)), (1, .int p0), (2, .long p1), (4, .long p2)] := hl
  unfold f_X11_readsInt at h
  refine lv_aload_n hx hb dX11_readsInt_0 rfl (lv_at hl 0 rfl) ?_
  refine lv_iload_n hx hb dX11_readsInt_1 rfl (lv_at hl 1 rfl) ?_
  obtain ⟨q1, hc, h⟩ := ib h
  have hF := va_frees hD hS hA
  refine va_calli (va_runV (As := [.int p0]) (rest := []) ⟨hx, hb, hml, hown, hts⟩ (s_X11_readsNumber hc) (cwV 1 hts (gV mw_37_23 mw_37_24 mw_37_25 mw_0_15 mw_56_24) rfl rfl rfl (by decide +kernel) ⟨(Nat.le_of_ble_eq_true rfl), (Nat.le_of_ble_eq_true rfl)⟩) (vV (ci := 11) (q0 := 0) hK hP hD hN rfl gB_0) rfl rfl hl.1 rfl (lv_room (Nat.le_of_ble_eq_true rfl)) dX11_readsInt_2 ⟨(Nat.le_of_ble_eq_true rfl), (Nat.le_of_ble_eq_true rfl)⟩) hS (fun q _ h => hF q h) hF (fun r2 u t H locs ht hvm hw hB _ _ hS => ?_)
  obtain rfl : r2 = q1.1 := hw
  replace hP : va_P (dC, dI) vwCl (wB a k q1.2) H := by rw [← ht]; exact hB.1
  replace hD := hD0 (q1.2)
  clear hB hF
  refine lv_if_eq (tgt := 35) hx hb dX11_readsInt_5 (by decide) (fun hc => ?_) (fun hc => ?_)
  · replace h := ip hc h
    refine lv_iconst (v := 0) hx hb dX11_readsInt_35 (by decide) ?_
    obtain rfl := Option.some.inj h
    exact W.zret hx hb hr rfl (fun t ht hW => ⟨⟨_, (), rfl, rfl, ⟨by rw [ht]; exact hP, va_K.moved hW.alike hK, hD⟩⟩, hS.F ht⟩) hS.2.2 dX11_readsInt_36
  · replace h := iq hc h
    refine lv_aload_n hx hb dX11_readsInt_8 rfl (lv_at hl 0 rfl) ?_
    refine va_get (D := (dC, dI)) (ci := 11) (C := RX11) (T := TX11) (N := 95) hx hb hts inlX11 hown hK hP 0 gB_0 rfl 70 (by decide) (hts (.fieldLink RX11 563 "ShapeReaderModel" "numberRead" "J") mw_37_22) (fun _ h9 => h9) rfl dX11_readsInt_9 ?_
    refine lv_lload_n hx hb dX11_readsInt_12 rfl (lv_at hl 2 rfl) ?_
    refine lv_lload hx hb dX11_readsInt_13 (lv_at hl 3 rfl) ?_
    obtain ⟨q3, hc, h⟩ := ib h
    have hF := va_frees hD hS hA
    refine va_calli (va_runS (As := [.long (q1.2.2.1 0 70), .long p1, .long p2]) (rest := []) ⟨hx, hb, hml, hown, hts⟩ (s_X11_within hc) (va_cwS 3 hts (gS mw_29_0 mw_29_1 mw_0_15 mw_53_26) rfl rfl rfl (by decide +kernel) ⟨(Nat.le_of_ble_eq_true rfl), (Nat.le_of_ble_eq_true rfl)⟩) (vS hK hP hD hN) rfl rfl hl.1 rfl (lv_room (Nat.le_of_ble_eq_true rfl)) dX11_readsInt_15 ⟨(Nat.le_of_ble_eq_true rfl), (Nat.le_of_ble_eq_true rfl)⟩) hS (fun q _ h => hF q h) hF (fun r4 u t H locs ht hvm hw hB _ _ hS => ?_)
    obtain rfl : r4 = q3.1 := hw
    replace hP : va_P (dC, dI) vwCl (wB a k q3.2) H := by rw [← ht]; exact hB.1
    replace hD := hD0 (q3.2)
    clear hB hF
    refine lv_if_ne (tgt := 31) hx hb dX11_readsInt_18 (by decide) (fun hc => ?_) (fun hc => ?_)
    · replace h := iq hc h
      exact b_X11_readsInt_31 hC h _ _ _ hP hD hS (lv_sub hl [] rfl)
    · replace h := ip hc h
      refine lv_aload_n hx hb dX11_readsInt_21 rfl (lv_at hl 0 rfl) ?_
      refine lv_bipush (v := 12) hx hb dX11_readsInt_22 (by decide) ?_
      refine lv_iload_n hx hb dX11_readsInt_24 rfl (lv_at hl 1 rfl) ?_
      obtain ⟨q5, hc, h⟩ := ib h
      have hF := va_frees hD hS hA
      refine va_calli (va_runV (As := [.int 12, .int p0]) (rest := []) ⟨hx, hb, hml, hown, hts⟩ (s_X11_fails hc) (cwV 2 hts (gV mw_37_15 mw_37_16 mw_37_17 mw_0_15 mw_56_22) rfl rfl rfl (by decide +kernel) ⟨(Nat.le_of_ble_eq_true rfl), (Nat.le_of_ble_eq_true rfl)⟩) (vV (ci := 11) (q0 := 0) hK hP hD hN rfl gB_0) rfl rfl hl.1 rfl (lv_room (Nat.le_of_ble_eq_true rfl)) dX11_readsInt_25 ⟨(Nat.le_of_ble_eq_true rfl), (Nat.le_of_ble_eq_true rfl)⟩) hS (fun q _ h => hF q h) hF (fun r6 u t H locs ht hvm hw hB _ _ hS => ?_)
      obtain rfl : r6 = q5.1 := hw
      replace hP : va_P (dC, dI) vwCl (wB a k q5.2) H := by rw [← ht]; exact hB.1
      replace hD := hD0 (q5.2)
      clear hB hF
      refine lv_if_eq (tgt := 35) hx hb dX11_readsInt_28 (by decide) (fun hc => ?_) (fun hc => ?_)
      · replace h := ip hc h
        refine lv_iconst (v := 0) hx hb dX11_readsInt_35 (by decide) ?_
        obtain rfl := Option.some.inj h
        exact W.zret hx hb hr rfl (fun t ht hW => ⟨⟨_, (), rfl, rfl, ⟨by rw [ht]; exact hP, va_K.moved hW.alike hK, hD⟩⟩, hS.F ht⟩) hS.2.2 dX11_readsInt_36
      · replace h := iq hc h
        exact b_X11_readsInt_31 hC h _ _ _ hP hD hS (lv_sub hl [] rfl)

theorem s_X11_readsInt {l : Launch} {dC : Nat → ClassId} {dI : Nat → Nat → Nat} {a : Nat → Nat} {k : Nat → ClassId} {sz : Nat} {p0 : Int32} {p1 : Int64} {p2 : Int64} {σ : ST} {q : Int32 × ST} (h : f_X11_readsInt  p0 p1 p2 σ = some q) : Met l yX11_readsInt (.code yX11_readsInt cX11_readsInt 6 (some .boolean) :: pw) ({ frames := 3, cells := 0, slots := 0, locals := 69 } : Room) (va_Pc [.ref (a 0), .int p0, .long p1, .long p2] (vPre dC dI (wB a k σ) (tB k) sz)) (qBi dC dI a k (va_A (wB a k σ) sz) q) 0 0 (va_A (wB a k σ) sz) := metB (fun A => qBi dC dI a k A q) (plainFor_of_name (by decide)) (Nat.le_of_ble_eq_true rfl) (fun _ _ _ _ _ _ _ _ hC => b_X11_readsInt_e hC h)

def f_X11_readsFlag_30 (σ : ST) : Option (Int32 × ST) := some (1, σ)
def f_X11_readsFlag (p0 : Int32) (σ : ST) : Option (Int32 × ST) := (f_X11_nextByte   σ).bind fun q1 => if q1.1 < 0 then (some (0, (stL q1.2 0 70 (q1.1.toInt64)))) else (if q1.1 < 2 then (f_X11_readsFlag_30   (stL q1.2 0 70 (q1.1.toInt64))) else ((f_X11_fails  12 p0 (stL q1.2 0 70 (q1.1.toInt64))).bind fun q3 => if q3.1 = 0 then (some (0, q3.2)) else (f_X11_readsFlag_30   q3.2)))

set_option maxRecDepth 100000 in
set_option maxHeartbeats 4000000 in
theorem b_X11_readsFlag_30 {p : Program} {l : Launch} {e : Env} {s : State} {m : MethodId} {args : Array Value} {below : List Frame} {meth : Method} {c : Code} {dC : Nat → ClassId} {dI : Nat → Nat → Nat} {a : Nat → Nat} {k : Nat → ClassId} {A : Nat → Prop} {q : Int32 × ST} (hC : CxB p s m args meth c dC dI k A cX11_readsFlag RX11 (some .boolean) 3)    {σ : ST} (h : f_X11_readsFlag_30   σ = some q) : GoB p l e ({ frames := 2, cells := 0, slots := 0, locals := 44 } : Room) s m args below meth c (MQ below (qBi dC dI a k A q) args s 0 0 A) dC dI a k A 3 30 σ [] [] := by
  have hC0 := hC
  obtain ⟨hx, hb, hr, hml, hown, hts, hlocks, hA, hN, hK⟩ := hC0
  intro H locs ls hP hD hS hl
  have hD0 : ∀ σ1 : ST, va_D A (wB a k σ1) := fun σ1 => wB_D hD
  unfold f_X11_readsFlag_30 at h
  refine lv_iconst (v := 1) hx hb dX11_readsFlag_30 (by decide) ?_
  refine lv_goto (tgt := 35) hx hb dX11_readsFlag_31 (by decide) ?_
  obtain rfl := Option.some.inj h
  exact W.zret hx hb hr rfl (fun t ht hW => ⟨⟨_, (), rfl, rfl, ⟨by rw [ht]; exact hP, va_K.moved hW.alike hK, hD⟩⟩, hS.F ht⟩) hS.2.2 dX11_readsFlag_35

set_option maxRecDepth 100000 in
set_option maxHeartbeats 4000000 in
theorem b_X11_readsFlag_e {p : Program} {l : Launch} {e : Env} {s : State} {m : MethodId} {args : Array Value} {below : List Frame} {meth : Method} {c : Code} {dC : Nat → ClassId} {dI : Nat → Nat → Nat} {a : Nat → Nat} {k : Nat → ClassId} {A : Nat → Prop} {q : Int32 × ST} (hC : CxB p s m args meth c dC dI k A cX11_readsFlag RX11 (some .boolean) 3)   {p0 : Int32} {σ : ST} (h : f_X11_readsFlag  p0 σ = some q) : GoB p l e ({ frames := 2, cells := 0, slots := 0, locals := 44 } : Room) s m args below meth c (MQ below (qBi dC dI a k A q) args s 0 0 A) dC dI a k A 3 0 σ (lv_args 0 [.ref (a 0), .int p0]) [] := by
  have hC0 := hC
  obtain ⟨hx, hb, hr, hml, hown, hts, hlocks, hA, hN, hK⟩ := hC0
  intro H locs ls hP hD hS hl
  have hD0 : ∀ σ1 : ST, va_D A (wB a k σ1) := fun σ1 => wB_D hD
  replace hl : lv_has ls 3 [(0, .ref (a 0)), (1, .int p0)] := hl
  unfold f_X11_readsFlag at h
  refine lv_aload_n hx hb dX11_readsFlag_0 rfl (lv_at hl 0 rfl) ?_
  obtain ⟨q1, hc, h⟩ := ib h
  have hF := va_frees hD hS hA
  refine va_calli (va_runV (As := []) (rest := []) ⟨hx, hb, hml, hown, hts⟩ (s_X11_nextByte hc) (cwV 0 hts (gV mw_37_19 mw_37_20 mw_37_21 mw_0_15 mw_56_23) rfl rfl rfl (by decide +kernel) ⟨(Nat.le_of_ble_eq_true rfl), (Nat.le_of_ble_eq_true rfl)⟩) (vV (ci := 11) (q0 := 0) hK hP hD hN rfl gB_0) rfl rfl hl.1 rfl (lv_room (Nat.le_of_ble_eq_true rfl)) dX11_readsFlag_1 ⟨(Nat.le_of_ble_eq_true rfl), (Nat.le_of_ble_eq_true rfl)⟩) hS (fun q _ h => hF q h) hF (fun r2 u t H locs ht hvm hw hB _ _ hS => ?_)
  obtain rfl : r2 = q1.1 := hw
  replace hP : va_P (dC, dI) vwCl (wB a k q1.2) H := by rw [← ht]; exact hB.1
  replace hD := hD0 (q1.2)
  clear hB hF
  refine lv_istore_n (lv' := [(2, .int q1.1), (0, .ref (a 0)), (1, .int p0)]) hx hb dX11_readsFlag_4 rfl hl (by decide) rfl (fun ls hl => ?_)
  refine lv_aload_n hx hb dX11_readsFlag_5 rfl (lv_at hl 1 rfl) ?_
  refine lv_iload_n hx hb dX11_readsFlag_6 rfl (lv_at hl 0 rfl) ?_
  refine lv_i2l (v := q1.1.toInt64) hx hb dX11_readsFlag_7 rfl ?_
  refine va_put (D := (dC, dI)) (ci := 11) (ty := .long) (C := RX11) (T := TX11) (N := 95) hx hb hts inlX11 tyX11 tyX11_ok nmX11 hown hK hP hD hS 0 gB_0 rfl 70 (by decide) (hts (.fieldLink RX11 563 "ShapeReaderModel" "numberRead" "J") mw_37_22) (fun _ h9 => h9) rfl (by decide +kernel) rfl rfl (Nat.le_of_ble_eq_true rfl) dX11_readsFlag_8 (fun H locs hP hD hS => ?_)
  replace hP := uB_0_70 hP
  replace hD := hD0 ((stL q1.2 0 70 (q1.1.toInt64)))
  refine lv_iload_n hx hb dX11_readsFlag_11 rfl (lv_at hl 0 rfl) ?_
  refine lv_if_lt (tgt := 34) hx hb dX11_readsFlag_12 (by decide) (fun hc => ?_) (fun hc => ?_)
  · replace h := ip hc h
    refine lv_iconst (v := 0) hx hb dX11_readsFlag_34 (by decide) ?_
    obtain rfl := Option.some.inj h
    exact W.zret hx hb hr rfl (fun t ht hW => ⟨⟨_, (), rfl, rfl, ⟨by rw [ht]; exact hP, va_K.moved hW.alike hK, hD⟩⟩, hS.F ht⟩) hS.2.2 dX11_readsFlag_35
  · replace h := iq hc h
    refine lv_iload_n hx hb dX11_readsFlag_15 rfl (lv_at hl 0 rfl) ?_
    refine lv_iconst (v := 2) hx hb dX11_readsFlag_16 (by decide) ?_
    refine lv_icmp_lt (tgt := 30) hx hb dX11_readsFlag_17 (by decide) (fun hc => ?_) (fun hc => ?_)
    · replace h := ip hc h
      exact b_X11_readsFlag_30 hC h _ _ _ hP hD hS (lv_sub hl [] rfl)
    · replace h := iq hc h
      refine lv_aload_n hx hb dX11_readsFlag_20 rfl (lv_at hl 1 rfl) ?_
      refine lv_bipush (v := 12) hx hb dX11_readsFlag_21 (by decide) ?_
      refine lv_iload_n hx hb dX11_readsFlag_23 rfl (lv_at hl 2 rfl) ?_
      obtain ⟨q3, hc, h⟩ := ib h
      have hF := va_frees hD hS hA
      refine va_calli (va_runV (As := [.int 12, .int p0]) (rest := []) ⟨hx, hb, hml, hown, hts⟩ (s_X11_fails hc) (cwV 2 hts (gV mw_37_15 mw_37_16 mw_37_17 mw_0_15 mw_56_22) rfl rfl rfl (by decide +kernel) ⟨(Nat.le_of_ble_eq_true rfl), (Nat.le_of_ble_eq_true rfl)⟩) (vV (ci := 11) (q0 := 0) hK hP hD hN rfl gB_0) rfl rfl hl.1 rfl (lv_room (Nat.le_of_ble_eq_true rfl)) dX11_readsFlag_24 ⟨(Nat.le_of_ble_eq_true rfl), (Nat.le_of_ble_eq_true rfl)⟩) hS (fun q _ h => hF q h) hF (fun r4 u t H locs ht hvm hw hB _ _ hS => ?_)
      obtain rfl : r4 = q3.1 := hw
      replace hP : va_P (dC, dI) vwCl (wB a k q3.2) H := by rw [← ht]; exact hB.1
      replace hD := hD0 (q3.2)
      clear hB hF
      refine lv_if_eq (tgt := 34) hx hb dX11_readsFlag_27 (by decide) (fun hc => ?_) (fun hc => ?_)
      · replace h := ip hc h
        refine lv_iconst (v := 0) hx hb dX11_readsFlag_34 (by decide) ?_
        obtain rfl := Option.some.inj h
        exact W.zret hx hb hr rfl (fun t ht hW => ⟨⟨_, (), rfl, rfl, ⟨by rw [ht]; exact hP, va_K.moved hW.alike hK, hD⟩⟩, hS.F ht⟩) hS.2.2 dX11_readsFlag_35
      · replace h := iq hc h
        exact b_X11_readsFlag_30 hC h _ _ _ hP hD hS (lv_sub hl [] rfl)

theorem s_X11_readsFlag {l : Launch} {dC : Nat → ClassId} {dI : Nat → Nat → Nat} {a : Nat → Nat} {k : Nat → ClassId} {sz : Nat} {p0 : Int32} {σ : ST} {q : Int32 × ST} (h : f_X11_readsFlag  p0 σ = some q) : Met l yX11_readsFlag (.code yX11_readsFlag cX11_readsFlag 3 (some .boolean) :: pw) ({ frames := 2, cells := 0, slots := 0, locals := 44 } : Room) (va_Pc [.ref (a 0), .int p0] (vPre dC dI (wB a k σ) (tB k) sz)) (qBi dC dI a k (va_A (wB a k σ) sz) q) 0 0 (va_A (wB a k σ) sz) := metB (fun A => qBi dC dI a k A q) (plainFor_of_name (by decide)) (Nat.le_of_ble_eq_true rfl) (fun _ _ _ _ _ _ _ _ hC => b_X11_readsFlag_e hC h)

def f_X11_readsReal_7  : Nat → Int32 → ST → Option (Int32 × ST)
  | 0, _, _ => none
  | n + 1, x1, σ => if 8 ≤ x1 then (some (1, σ)) else ((f_X11_nextByte   σ).bind fun q1 => if 0 ≤ q1.1 then (f_X11_readsReal_7  n (x1 + 1) (stL q1.2 0 70 (((q1.2.2.1 0 70) <<< ((8 : Int32).toInt64 &&& 63)) ||| (q1.1.toInt64)))) else (some (0, q1.2)))
def f_X11_readsReal (σ : ST) : Option (Int32 × ST) := f_X11_readsReal_7  FU 0 (stL σ 0 70 0)

set_option maxRecDepth 100000 in
set_option maxHeartbeats 4000000 in
theorem b_X11_readsReal_7 {p : Program} {l : Launch} {e : Env} {s : State} {m : MethodId} {args : Array Value} {below : List Frame} {meth : Method} {c : Code} {dC : Nat → ClassId} {dI : Nat → Nat → Nat} {a : Nat → Nat} {k : Nat → ClassId} {A : Nat → Prop} {q : Int32 × ST} (hC : CxB p s m args meth c dC dI k A cX11_readsReal RX11 (some .boolean) 3)   : ∀ (n : Nat) (x1 : Int32) (σ : ST), f_X11_readsReal_7  n x1 σ = some q → GoB p l e ({ frames := 2, cells := 0, slots := 0, locals := 44 } : Room) s m args below meth c (MQ below (qBi dC dI a k A q) args s 0 0 A) dC dI a k A 3 7 σ [(0, .ref (a 0)), (1, .int x1)] [] := by
  intro n
  induction n with
  | zero =>
    intro x1 σ h
    rw [f_X11_readsReal_7] at h
    cases h
  | succ n ih =>
    intro x1 σ h
    have hC0 := hC
    obtain ⟨hx, hb, hr, hml, hown, hts, hlocks, hA, hN, hK⟩ := hC0
    intro H locs ls hP hD hS hl
    have hD0 : ∀ σ1 : ST, va_D A (wB a k σ1) := fun σ1 => wB_D hD
    rw [f_X11_readsReal_7] at h
    refine lv_iload_n hx hb dX11_readsReal_7 rfl (lv_at hl 1 rfl) ?_
    refine lv_bipush (v := 8) hx hb dX11_readsReal_8 (by decide) ?_
    refine lv_icmp_ge (tgt := 44) hx hb dX11_readsReal_10 (by decide) (fun hc => ?_) (fun hc => ?_)
    · replace h := ip hc h
      refine lv_iconst (v := 1) hx hb dX11_readsReal_44 (by decide) ?_
      obtain rfl := Option.some.inj h
      exact W.zret hx hb hr rfl (fun t ht hW => ⟨⟨_, (), rfl, rfl, ⟨by rw [ht]; exact hP, va_K.moved hW.alike hK, hD⟩⟩, hS.F ht⟩) hS.2.2 dX11_readsReal_45
    · replace h := iq hc h
      refine lv_aload_n hx hb dX11_readsReal_13 rfl (lv_at hl 0 rfl) ?_
      obtain ⟨q1, hc, h⟩ := ib h
      have hF := va_frees hD hS hA
      refine va_calli (va_runV (As := []) (rest := []) ⟨hx, hb, hml, hown, hts⟩ (s_X11_nextByte hc) (cwV 0 hts (gV mw_37_19 mw_37_20 mw_37_21 mw_0_15 mw_56_23) rfl rfl rfl (by decide +kernel) ⟨(Nat.le_of_ble_eq_true rfl), (Nat.le_of_ble_eq_true rfl)⟩) (vV (ci := 11) (q0 := 0) hK hP hD hN rfl gB_0) rfl rfl hl.1 rfl (lv_room (Nat.le_of_ble_eq_true rfl)) dX11_readsReal_14 ⟨(Nat.le_of_ble_eq_true rfl), (Nat.le_of_ble_eq_true rfl)⟩) hS (fun q _ h => hF q h) hF (fun r2 u t H locs ht hvm hw hB _ _ hS => ?_)
      obtain rfl : r2 = q1.1 := hw
      replace hP : va_P (dC, dI) vwCl (wB a k q1.2) H := by rw [← ht]; exact hB.1
      replace hD := hD0 (q1.2)
      clear hB hF
      refine lv_istore_n (lv' := [(2, .int q1.1), (0, .ref (a 0)), (1, .int x1)]) hx hb dX11_readsReal_17 rfl hl (by decide) rfl (fun ls hl => ?_)
      refine lv_iload_n hx hb dX11_readsReal_18 rfl (lv_at hl 0 rfl) ?_
      refine lv_if_ge (tgt := 24) hx hb dX11_readsReal_19 (by decide) (fun hc => ?_) (fun hc => ?_)
      · replace h := ip hc h
        refine lv_aload_n hx hb dX11_readsReal_24 rfl (lv_at hl 1 rfl) ?_
        refine lv_aload_n hx hb dX11_readsReal_25 rfl (lv_at hl 1 rfl) ?_
        refine va_get (D := (dC, dI)) (ci := 11) (C := RX11) (T := TX11) (N := 95) hx hb hts inlX11 hown hK hP 0 gB_0 rfl 70 (by decide) (hts (.fieldLink RX11 563 "ShapeReaderModel" "numberRead" "J") mw_37_22) (fun _ h9 => h9) rfl dX11_readsReal_26 ?_
        refine lv_bipush (v := 8) hx hb dX11_readsReal_29 (by decide) ?_
        refine lv_lshl (v := ((q1.2.2.1 0 70) <<< ((8 : Int32).toInt64 &&& 63))) hx hb dX11_readsReal_31 rfl ?_
        refine lv_iload_n hx hb dX11_readsReal_32 rfl (lv_at hl 0 rfl) ?_
        refine lv_i2l (v := q1.1.toInt64) hx hb dX11_readsReal_33 rfl ?_
        refine lv_lor hx hb dX11_readsReal_34 ?_
        refine va_put (D := (dC, dI)) (ci := 11) (ty := .long) (C := RX11) (T := TX11) (N := 95) hx hb hts inlX11 tyX11 tyX11_ok nmX11 hown hK hP hD hS 0 gB_0 rfl 70 (by decide) (hts (.fieldLink RX11 563 "ShapeReaderModel" "numberRead" "J") mw_37_22) (fun _ h9 => h9) rfl (by decide +kernel) rfl rfl (Nat.le_of_ble_eq_true rfl) dX11_readsReal_35 (fun H locs hP hD hS => ?_)
        replace hP := uB_0_70 hP
        replace hD := hD0 ((stL q1.2 0 70 (((q1.2.2.1 0 70) <<< ((8 : Int32).toInt64 &&& 63)) ||| (q1.1.toInt64))))
        refine lv_iinc (v := (x1 + 1)) (lv' := [(1, .int (x1 + 1)), (2, .int q1.1), (0, .ref (a 0))]) hx hb dX11_readsReal_38 hl (k := 2) rfl rfl (by decide) rfl (fun ls hl => ?_)
        refine lv_goto (tgt := 7) hx hb dX11_readsReal_41 (by decide) ?_
        exact ih _ _ h _ _ _ hP hD hS (lv_sub hl [2, 0] rfl)
      · replace h := iq hc h
        refine lv_iconst (v := 0) hx hb dX11_readsReal_22 (by decide) ?_
        obtain rfl := Option.some.inj h
        exact W.zret hx hb hr rfl (fun t ht hW => ⟨⟨_, (), rfl, rfl, ⟨by rw [ht]; exact hP, va_K.moved hW.alike hK, hD⟩⟩, hS.F ht⟩) hS.2.2 dX11_readsReal_23

set_option maxRecDepth 100000 in
set_option maxHeartbeats 4000000 in
theorem b_X11_readsReal_e {p : Program} {l : Launch} {e : Env} {s : State} {m : MethodId} {args : Array Value} {below : List Frame} {meth : Method} {c : Code} {dC : Nat → ClassId} {dI : Nat → Nat → Nat} {a : Nat → Nat} {k : Nat → ClassId} {A : Nat → Prop} {q : Int32 × ST} (hC : CxB p s m args meth c dC dI k A cX11_readsReal RX11 (some .boolean) 3)    {σ : ST} (h : f_X11_readsReal   σ = some q) : GoB p l e ({ frames := 2, cells := 0, slots := 0, locals := 44 } : Room) s m args below meth c (MQ below (qBi dC dI a k A q) args s 0 0 A) dC dI a k A 3 0 σ (lv_args 0 [.ref (a 0)]) [] := by
  have hC0 := hC
  obtain ⟨hx, hb, hr, hml, hown, hts, hlocks, hA, hN, hK⟩ := hC0
  intro H locs ls hP hD hS hl
  have hD0 : ∀ σ1 : ST, va_D A (wB a k σ1) := fun σ1 => wB_D hD
  replace hl : lv_has ls 3 [(0, .ref (a 0))] := hl
  unfold f_X11_readsReal at h
  refine lv_aload_n hx hb dX11_readsReal_0 rfl (lv_at hl 0 rfl) ?_
  refine lv_lconst (v := 0) hx hb dX11_readsReal_1 (by decide) ?_
  refine va_put (D := (dC, dI)) (ci := 11) (ty := .long) (C := RX11) (T := TX11) (N := 95) hx hb hts inlX11 tyX11 tyX11_ok nmX11 hown hK hP hD hS 0 gB_0 rfl 70 (by decide) (hts (.fieldLink RX11 563 "ShapeReaderModel" "numberRead" "J") mw_37_22) (fun _ h9 => h9) rfl (by decide +kernel) rfl rfl (Nat.le_of_ble_eq_true rfl) dX11_readsReal_2 (fun H locs hP hD hS => ?_)
  replace hP := uB_0_70 hP
  replace hD := hD0 ((stL σ 0 70 0))
  refine lv_iconst (v := 0) hx hb dX11_readsReal_5 (by decide) ?_
  refine lv_istore_n (lv' := [(1, .int 0), (0, .ref (a 0))]) hx hb dX11_readsReal_6 rfl hl (by decide) rfl (fun ls hl => ?_)
  exact b_X11_readsReal_7 hC FU _ _ h _ _ _ hP hD hS (lv_sub hl [1, 0] rfl)

theorem s_X11_readsReal {l : Launch} {dC : Nat → ClassId} {dI : Nat → Nat → Nat} {a : Nat → Nat} {k : Nat → ClassId} {sz : Nat}  {σ : ST} {q : Int32 × ST} (h : f_X11_readsReal   σ = some q) : Met l yX11_readsReal (.code yX11_readsReal cX11_readsReal 3 (some .boolean) :: pw) ({ frames := 2, cells := 0, slots := 0, locals := 44 } : Room) (va_Pc [.ref (a 0)] (vPre dC dI (wB a k σ) (tB k) sz)) (qBi dC dI a k (va_A (wB a k σ) sz) q) 0 0 (va_A (wB a k σ) sz) := metB (fun A => qBi dC dI a k A q) (plainFor_of_name (by decide)) (Nat.le_of_ble_eq_true rfl) (fun _ _ _ _ _ _ _ _ hC => b_X11_readsReal_e hC h)

def f_X11_isLetter (p0 : Int32) (σ : ST) : Option (Int32 × ST) := (f_X11_within  (p0.toInt64) 97 122 σ).bind fun q1 => if q1.1 = 0 ∨ q1.1 = 1 then some (q1.1, q1.2) else none

set_option maxRecDepth 100000 in
set_option maxHeartbeats 4000000 in
theorem b_X11_isLetter_e {p : Program} {l : Launch} {e : Env} {s : State} {m : MethodId} {args : Array Value} {below : List Frame} {meth : Method} {c : Code} {dC : Nat → ClassId} {dI : Nat → Nat → Nat} {a : Nat → Nat} {k : Nat → ClassId} {A : Nat → Prop} {q : Int32 × ST} (hC : CxB p s m args meth c dC dI k A cX11_isLetter RX11 (some .boolean) 1)   {p0 : Int32} {σ : ST} (h : f_X11_isLetter  p0 σ = some q) : GoB p l e ({ frames := 1, cells := 0, slots := 0, locals := 25 } : Room) s m args below meth c (MQ below (qBi dC dI a k A q) args s 0 0 A) dC dI a k A 1 0 σ (lv_args 0 [.int p0]) [] := by
  have hC0 := hC
  obtain ⟨hx, hb, hr, hml, hown, hts, hlocks, hA, hN, hK⟩ := hC0
  intro H locs ls hP hD hS hl
  have hD0 : ∀ σ1 : ST, va_D A (wB a k σ1) := fun σ1 => wB_D hD
  replace hl : lv_has ls 1 [(0, .int p0)] := hl
  unfold f_X11_isLetter at h
  refine lv_iload_n hx hb dX11_isLetter_0 rfl (lv_at hl 0 rfl) ?_
  refine lv_i2l (v := p0.toInt64) hx hb dX11_isLetter_1 rfl ?_
  refine lv_ldc2 (v := 97) hx hb hown (hts (.constantLong RX11 192 (97)) mw_28_28) dX11_isLetter_2 ?_
  refine lv_ldc2 (v := 122) hx hb hown (hts (.constantLong RX11 194 (122)) mw_28_29) dX11_isLetter_5 ?_
  obtain ⟨q1, hc, h⟩ := ib h
  have hF := va_frees hD hS hA
  refine va_calli (va_runS (As := [.long (p0.toInt64), .long 97, .long 122]) (rest := []) ⟨hx, hb, hml, hown, hts⟩ (s_X11_within hc) (va_cwS 3 hts (gS mw_29_0 mw_29_1 mw_0_15 mw_53_26) rfl rfl rfl (by decide +kernel) ⟨(Nat.le_of_ble_eq_true rfl), (Nat.le_of_ble_eq_true rfl)⟩) (vS hK hP hD hN) rfl rfl hl.1 rfl (lv_room (Nat.le_of_ble_eq_true rfl)) dX11_isLetter_8 ⟨(Nat.le_of_ble_eq_true rfl), (Nat.le_of_ble_eq_true rfl)⟩) hS (fun q _ h => hF q h) hF (fun r2 u t H locs ht hvm hw hB _ _ hS => ?_)
  obtain rfl : r2 = q1.1 := hw
  replace hP : va_P (dC, dI) vwCl (wB a k q1.2) H := by rw [← ht]; exact hB.1
  replace hD := hD0 (q1.2)
  clear hB hF
  obtain ⟨hg, h⟩ := ig h
  obtain rfl := Option.some.inj h
  exact W.zret hx hb hr (zn hg) (fun t ht hW => ⟨⟨_, (), rfl, rfl, ⟨by rw [ht]; exact hP, va_K.moved hW.alike hK, hD⟩⟩, hS.F ht⟩) hS.2.2 dX11_isLetter_11

theorem s_X11_isLetter {l : Launch} {dC : Nat → ClassId} {dI : Nat → Nat → Nat} {a : Nat → Nat} {k : Nat → ClassId} {sz : Nat} {p0 : Int32} {σ : ST} {q : Int32 × ST} (h : f_X11_isLetter  p0 σ = some q) : Met l yX11_isLetter (.code yX11_isLetter cX11_isLetter 1 (some .boolean) :: pw) ({ frames := 1, cells := 0, slots := 0, locals := 25 } : Room) (va_Pc [.int p0] (vPre dC dI (wB a k σ) (tB k) sz)) (qBi dC dI a k (va_A (wB a k σ) sz) q) 0 0 (va_A (wB a k σ) sz) := metB (fun A => qBi dC dI a k A q) (plainFor_of_name (by decide)) (Nat.le_of_ble_eq_true rfl) (fun _ _ _ _ _ _ _ _ hC => b_X11_isLetter_e hC h)

def f_X11_readsText_32  : Nat → Int32 → Int32 → Int32 → ST → Option (Int32 × ST)
  | 0, _, _, _, _ => none
  | n + 1, x1, x2, x3, σ => if x2 ≤ x3 then (some (1, σ)) else ((f_X11_nextByte   σ).bind fun q1 => if 0 ≤ q1.1 then ((f_X11_isLetter  q1.1 q1.2).bind fun q3 => if q3.1 = 0 then ((f_X11_fails  12 x1 q3.2).bind fun q5 => if q5.1 = 0 ∨ q5.1 = 1 then some (q5.1, q5.2) else none) else (f_X11_readsText_32  n x1 x2 (x3 + 1) (stL q3.2 0 71 (((27 * (q3.2.2.1 0 71)) + (q1.1.toInt64)) - 96)))) else (some (0, q1.2)))
def f_X11_readsText (p0 : Int32) (σ : ST) : Option (Int32 × ST) := (f_X11_readsInt  p0 0 12 σ).bind fun q1 => if q1.1 = 0 then (some (0, q1.2)) else (f_X11_readsText_32  FU p0 ((q1.2.2.1 0 70).toInt32) 0 (stI (stL q1.2 0 71 0) 0 72 ((q1.2.2.1 0 70).toInt32)))

set_option maxRecDepth 100000 in
set_option maxHeartbeats 4000000 in
theorem b_X11_readsText_32 {p : Program} {l : Launch} {e : Env} {s : State} {m : MethodId} {args : Array Value} {below : List Frame} {meth : Method} {c : Code} {dC : Nat → ClassId} {dI : Nat → Nat → Nat} {a : Nat → Nat} {k : Nat → ClassId} {A : Nat → Prop} {q : Int32 × ST} (hC : CxB p s m args meth c dC dI k A cX11_readsText RX11 (some .boolean) 5)   : ∀ (n : Nat) (x1 : Int32) (x2 : Int32) (x3 : Int32) (σ : ST), f_X11_readsText_32  n x1 x2 x3 σ = some q → GoB p l e ({ frames := 4, cells := 0, slots := 0, locals := 94 } : Room) s m args below meth c (MQ below (qBi dC dI a k A q) args s 0 0 A) dC dI a k A 5 32 σ [(0, .ref (a 0)), (1, .int x1), (2, .int x2), (3, .int x3)] [] := by
  intro n
  induction n with
  | zero =>
    intro x1 x2 x3 σ h
    rw [f_X11_readsText_32] at h
    cases h
  | succ n ih =>
    intro x1 x2 x3 σ h
    have hC0 := hC
    obtain ⟨hx, hb, hr, hml, hown, hts, hlocks, hA, hN, hK⟩ := hC0
    intro H locs ls hP hD hS hl
    have hD0 : ∀ σ1 : ST, va_D A (wB a k σ1) := fun σ1 => wB_D hD
    rw [f_X11_readsText_32] at h
    refine lv_iload_n hx hb dX11_readsText_32 rfl (lv_at hl 3 rfl) ?_
    refine lv_iload_n hx hb dX11_readsText_33 rfl (lv_at hl 2 rfl) ?_
    refine lv_icmp_ge (tgt := 92) hx hb dX11_readsText_34 (by decide) (fun hc => ?_) (fun hc => ?_)
    · replace h := ip hc h
      refine lv_iconst (v := 1) hx hb dX11_readsText_92 (by decide) ?_
      obtain rfl := Option.some.inj h
      exact W.zret hx hb hr rfl (fun t ht hW => ⟨⟨_, (), rfl, rfl, ⟨by rw [ht]; exact hP, va_K.moved hW.alike hK, hD⟩⟩, hS.F ht⟩) hS.2.2 dX11_readsText_93
    · replace h := iq hc h
      refine lv_aload_n hx hb dX11_readsText_37 rfl (lv_at hl 0 rfl) ?_
      obtain ⟨q1, hc, h⟩ := ib h
      have hF := va_frees hD hS hA
      refine va_calli (va_runV (As := []) (rest := []) ⟨hx, hb, hml, hown, hts⟩ (s_X11_nextByte hc) (cwV 0 hts (gV mw_37_19 mw_37_20 mw_37_21 mw_0_15 mw_56_23) rfl rfl rfl (by decide +kernel) ⟨(Nat.le_of_ble_eq_true rfl), (Nat.le_of_ble_eq_true rfl)⟩) (vV (ci := 11) (q0 := 0) hK hP hD hN rfl gB_0) rfl rfl hl.1 rfl (lv_room (Nat.le_of_ble_eq_true rfl)) dX11_readsText_38 ⟨(Nat.le_of_ble_eq_true rfl), (Nat.le_of_ble_eq_true rfl)⟩) hS (fun q _ h => hF q h) hF (fun r2 u t H locs ht hvm hw hB _ _ hS => ?_)
      obtain rfl : r2 = q1.1 := hw
      replace hP : va_P (dC, dI) vwCl (wB a k q1.2) H := by rw [← ht]; exact hB.1
      replace hD := hD0 (q1.2)
      clear hB hF
      refine lv_istore (lv' := [(4, .int q1.1), (0, .ref (a 0)), (1, .int x1), (2, .int x2), (3, .int x3)]) hx hb dX11_readsText_41 hl (by decide) rfl (fun ls hl => ?_)
      refine lv_iload hx hb dX11_readsText_43 (lv_at hl 0 rfl) ?_
      refine lv_if_ge (tgt := 50) hx hb dX11_readsText_45 (by decide) (fun hc => ?_) (fun hc => ?_)
      · replace h := ip hc h
        refine lv_iload hx hb dX11_readsText_50 (lv_at hl 0 rfl) ?_
        obtain ⟨q3, hc, h⟩ := ib h
        have hF := va_frees hD hS hA
        refine va_calli (va_runS (As := [.int q1.1]) (rest := []) ⟨hx, hb, hml, hown, hts⟩ (s_X11_isLetter hc) (va_cwS 1 hts (gS mw_29_10 mw_29_11 mw_0_15 mw_54_0) rfl rfl rfl (by decide +kernel) ⟨(Nat.le_of_ble_eq_true rfl), (Nat.le_of_ble_eq_true rfl)⟩) (vS hK hP hD hN) rfl rfl hl.1 rfl (lv_room (Nat.le_of_ble_eq_true rfl)) dX11_readsText_52 ⟨(Nat.le_of_ble_eq_true rfl), (Nat.le_of_ble_eq_true rfl)⟩) hS (fun q _ h => hF q h) hF (fun r4 u t H locs ht hvm hw hB _ _ hS => ?_)
        obtain rfl : r4 = q3.1 := hw
        replace hP : va_P (dC, dI) vwCl (wB a k q3.2) H := by rw [← ht]; exact hB.1
        replace hD := hD0 (q3.2)
        clear hB hF
        refine lv_if_ne (tgt := 66) hx hb dX11_readsText_55 (by decide) (fun hc => ?_) (fun hc => ?_)
        · replace h := iq hc h
          refine lv_aload_n hx hb dX11_readsText_66 rfl (lv_at hl 1 rfl) ?_
          refine lv_ldc2 (v := 27) hx hb hown (hts (.constantLong RX11 222 (27)) mw_29_12) dX11_readsText_67 ?_
          refine lv_aload_n hx hb dX11_readsText_70 rfl (lv_at hl 1 rfl) ?_
          refine va_get (D := (dC, dI)) (ci := 11) (C := RX11) (T := TX11) (N := 95) hx hb hts inlX11 hown hK hP 0 gB_0 rfl 71 (by decide) (hts (.fieldLink RX11 575 "ShapeReaderModel" "textRead" "J") mw_38_0) (fun _ h9 => h9) rfl dX11_readsText_71 ?_
          refine lv_lmul hx hb dX11_readsText_74 ?_
          refine lv_iload hx hb dX11_readsText_75 (lv_at hl 0 rfl) ?_
          refine lv_i2l (v := q1.1.toInt64) hx hb dX11_readsText_77 rfl ?_
          refine lv_ladd hx hb dX11_readsText_78 ?_
          refine lv_ldc2 (v := 96) hx hb hown (hts (.constantLong RX11 224 (96)) mw_29_13) dX11_readsText_79 ?_
          refine lv_lsub hx hb dX11_readsText_82 ?_
          refine va_put (D := (dC, dI)) (ci := 11) (ty := .long) (C := RX11) (T := TX11) (N := 95) hx hb hts inlX11 tyX11 tyX11_ok nmX11 hown hK hP hD hS 0 gB_0 rfl 71 (by decide) (hts (.fieldLink RX11 575 "ShapeReaderModel" "textRead" "J") mw_38_0) (fun _ h9 => h9) rfl (by decide +kernel) rfl rfl (Nat.le_of_ble_eq_true rfl) dX11_readsText_83 (fun H locs hP hD hS => ?_)
          replace hP := uB_0_71 hP
          replace hD := hD0 ((stL q3.2 0 71 (((27 * (q3.2.2.1 0 71)) + (q1.1.toInt64)) - 96)))
          refine lv_iinc (v := (x3 + 1)) (lv' := [(3, .int (x3 + 1)), (4, .int q1.1), (0, .ref (a 0)), (1, .int x1), (2, .int x2)]) hx hb dX11_readsText_86 hl (k := 4) rfl rfl (by decide) rfl (fun ls hl => ?_)
          refine lv_goto (tgt := 32) hx hb dX11_readsText_89 (by decide) ?_
          exact ih _ _ _ _ h _ _ _ hP hD hS (lv_sub hl [2, 3, 4, 0] rfl)
        · replace h := ip hc h
          refine lv_aload_n hx hb dX11_readsText_58 rfl (lv_at hl 1 rfl) ?_
          refine lv_bipush (v := 12) hx hb dX11_readsText_59 (by decide) ?_
          refine lv_iload_n hx hb dX11_readsText_61 rfl (lv_at hl 2 rfl) ?_
          obtain ⟨q5, hc, h⟩ := ib h
          have hF := va_frees hD hS hA
          refine va_calli (va_runV (As := [.int 12, .int x1]) (rest := []) ⟨hx, hb, hml, hown, hts⟩ (s_X11_fails hc) (cwV 2 hts (gV mw_37_15 mw_37_16 mw_37_17 mw_0_15 mw_56_22) rfl rfl rfl (by decide +kernel) ⟨(Nat.le_of_ble_eq_true rfl), (Nat.le_of_ble_eq_true rfl)⟩) (vV (ci := 11) (q0 := 0) hK hP hD hN rfl gB_0) rfl rfl hl.1 rfl (lv_room (Nat.le_of_ble_eq_true rfl)) dX11_readsText_62 ⟨(Nat.le_of_ble_eq_true rfl), (Nat.le_of_ble_eq_true rfl)⟩) hS (fun q _ h => hF q h) hF (fun r6 u t H locs ht hvm hw hB _ _ hS => ?_)
          obtain rfl : r6 = q5.1 := hw
          replace hP : va_P (dC, dI) vwCl (wB a k q5.2) H := by rw [← ht]; exact hB.1
          replace hD := hD0 (q5.2)
          clear hB hF
          obtain ⟨hg, h⟩ := ig h
          obtain rfl := Option.some.inj h
          exact W.zret hx hb hr (zn hg) (fun t ht hW => ⟨⟨_, (), rfl, rfl, ⟨by rw [ht]; exact hP, va_K.moved hW.alike hK, hD⟩⟩, hS.F ht⟩) hS.2.2 dX11_readsText_65
      · replace h := iq hc h
        refine lv_iconst (v := 0) hx hb dX11_readsText_48 (by decide) ?_
        obtain rfl := Option.some.inj h
        exact W.zret hx hb hr rfl (fun t ht hW => ⟨⟨_, (), rfl, rfl, ⟨by rw [ht]; exact hP, va_K.moved hW.alike hK, hD⟩⟩, hS.F ht⟩) hS.2.2 dX11_readsText_49

set_option maxRecDepth 100000 in
set_option maxHeartbeats 4000000 in
theorem b_X11_readsText_e {p : Program} {l : Launch} {e : Env} {s : State} {m : MethodId} {args : Array Value} {below : List Frame} {meth : Method} {c : Code} {dC : Nat → ClassId} {dI : Nat → Nat → Nat} {a : Nat → Nat} {k : Nat → ClassId} {A : Nat → Prop} {q : Int32 × ST} (hC : CxB p s m args meth c dC dI k A cX11_readsText RX11 (some .boolean) 5)   {p0 : Int32} {σ : ST} (h : f_X11_readsText  p0 σ = some q) : GoB p l e ({ frames := 4, cells := 0, slots := 0, locals := 94 } : Room) s m args below meth c (MQ below (qBi dC dI a k A q) args s 0 0 A) dC dI a k A 5 0 σ (lv_args 0 [.ref (a 0), .int p0]) [] := by
  have hC0 := hC
  obtain ⟨hx, hb, hr, hml, hown, hts, hlocks, hA, hN, hK⟩ := hC0
  intro H locs ls hP hD hS hl
  have hD0 : ∀ σ1 : ST, va_D A (wB a k σ1) := fun σ1 => wB_D hD
  replace hl : lv_has ls 5 [(0, .ref (a 0)), (1, .int p0)] := hl
  unfold f_X11_readsText at h
  refine lv_aload_n hx hb dX11_readsText_0 rfl (lv_at hl 0 rfl) ?_
  refine lv_iload_n hx hb dX11_readsText_1 rfl (lv_at hl 1 rfl) ?_
  refine lv_lconst (v := 0) hx hb dX11_readsText_2 (by decide) ?_
  refine lv_ldc2 (v := 12) hx hb hown (hts (.constantLong RX11 569 (12)) mw_37_26) dX11_readsText_3 ?_
  obtain ⟨q1, hc, h⟩ := ib h
  have hF := va_frees hD hS hA
  refine va_calli (va_runV (As := [.int p0, .long 0, .long 12]) (rest := []) ⟨hx, hb, hml, hown, hts⟩ (s_X11_readsInt hc) (cwV 3 hts (gV mw_37_27 mw_37_28 mw_37_29 mw_0_15 mw_56_25) rfl rfl rfl (by decide +kernel) ⟨(Nat.le_of_ble_eq_true rfl), (Nat.le_of_ble_eq_true rfl)⟩) (vV (ci := 11) (q0 := 0) hK hP hD hN rfl gB_0) rfl rfl hl.1 rfl (lv_room (Nat.le_of_ble_eq_true rfl)) dX11_readsText_6 ⟨(Nat.le_of_ble_eq_true rfl), (Nat.le_of_ble_eq_true rfl)⟩) hS (fun q _ h => hF q h) hF (fun r2 u t H locs ht hvm hw hB _ _ hS => ?_)
  obtain rfl : r2 = q1.1 := hw
  replace hP : va_P (dC, dI) vwCl (wB a k q1.2) H := by rw [← ht]; exact hB.1
  replace hD := hD0 (q1.2)
  clear hB hF
  refine lv_if_ne (tgt := 14) hx hb dX11_readsText_9 (by decide) (fun hc => ?_) (fun hc => ?_)
  · replace h := iq hc h
    refine lv_aload_n hx hb dX11_readsText_14 rfl (lv_at hl 0 rfl) ?_
    refine va_get (D := (dC, dI)) (ci := 11) (C := RX11) (T := TX11) (N := 95) hx hb hts inlX11 hown hK hP 0 gB_0 rfl 70 (by decide) (hts (.fieldLink RX11 563 "ShapeReaderModel" "numberRead" "J") mw_37_22) (fun _ h9 => h9) rfl dX11_readsText_15 ?_
    refine lv_l2i (v := (q1.2.2.1 0 70).toInt32) hx hb dX11_readsText_18 rfl ?_
    refine lv_istore_n (lv' := [(2, .int ((q1.2.2.1 0 70).toInt32)), (0, .ref (a 0)), (1, .int p0)]) hx hb dX11_readsText_19 rfl hl (by decide) rfl (fun ls hl => ?_)
    refine lv_aload_n hx hb dX11_readsText_20 rfl (lv_at hl 1 rfl) ?_
    refine lv_lconst (v := 0) hx hb dX11_readsText_21 (by decide) ?_
    refine va_put (D := (dC, dI)) (ci := 11) (ty := .long) (C := RX11) (T := TX11) (N := 95) hx hb hts inlX11 tyX11 tyX11_ok nmX11 hown hK hP hD hS 0 gB_0 rfl 71 (by decide) (hts (.fieldLink RX11 575 "ShapeReaderModel" "textRead" "J") mw_38_0) (fun _ h9 => h9) rfl (by decide +kernel) rfl rfl (Nat.le_of_ble_eq_true rfl) dX11_readsText_22 (fun H locs hP hD hS => ?_)
    replace hP := uB_0_71 hP
    replace hD := hD0 ((stL q1.2 0 71 0))
    refine lv_aload_n hx hb dX11_readsText_25 rfl (lv_at hl 1 rfl) ?_
    refine lv_iload_n hx hb dX11_readsText_26 rfl (lv_at hl 0 rfl) ?_
    refine va_put (D := (dC, dI)) (ci := 11) (ty := .int) (C := RX11) (T := TX11) (N := 95) hx hb hts inlX11 tyX11 tyX11_ok nmX11 hown hK hP hD hS 0 gB_0 rfl 72 (by decide) (hts (.fieldLink RX11 578 "ShapeReaderModel" "textMany" "I") mw_38_1) (fun _ h9 => h9) rfl (by decide +kernel) rfl rfl (Nat.le_of_ble_eq_true rfl) dX11_readsText_27 (fun H locs hP hD hS => ?_)
    replace hP := uB_0_72 hP
    replace hD := hD0 ((stI (stL q1.2 0 71 0) 0 72 ((q1.2.2.1 0 70).toInt32)))
    refine lv_iconst (v := 0) hx hb dX11_readsText_30 (by decide) ?_
    refine lv_istore_n (lv' := [(3, .int 0), (2, .int ((q1.2.2.1 0 70).toInt32)), (0, .ref (a 0)), (1, .int p0)]) hx hb dX11_readsText_31 rfl hl (by decide) rfl (fun ls hl => ?_)
    exact b_X11_readsText_32 hC FU _ _ _ _ h _ _ _ hP hD hS (lv_sub hl [2, 3, 1, 0] rfl)
  · replace h := ip hc h
    refine lv_iconst (v := 0) hx hb dX11_readsText_12 (by decide) ?_
    obtain rfl := Option.some.inj h
    exact W.zret hx hb hr rfl (fun t ht hW => ⟨⟨_, (), rfl, rfl, ⟨by rw [ht]; exact hP, va_K.moved hW.alike hK, hD⟩⟩, hS.F ht⟩) hS.2.2 dX11_readsText_13

theorem s_X11_readsText {l : Launch} {dC : Nat → ClassId} {dI : Nat → Nat → Nat} {a : Nat → Nat} {k : Nat → ClassId} {sz : Nat} {p0 : Int32} {σ : ST} {q : Int32 × ST} (h : f_X11_readsText  p0 σ = some q) : Met l yX11_readsText (.code yX11_readsText cX11_readsText 5 (some .boolean) :: pw) ({ frames := 4, cells := 0, slots := 0, locals := 94 } : Room) (va_Pc [.ref (a 0), .int p0] (vPre dC dI (wB a k σ) (tB k) sz)) (qBi dC dI a k (va_A (wB a k σ) sz) q) 0 0 (va_A (wB a k σ) sz) := metB (fun A => qBi dC dI a k A q) (plainFor_of_name (by decide)) (Nat.le_of_ble_eq_true rfl) (fun _ _ _ _ _ _ _ _ hC => b_X11_readsText_e hC h)

def f_X11_firstOf (p0 : Int32) (σ : ST) : Option (Int32 × ST) := if 0 ≤ p0.toInt ∧ p0.toInt < 800 then (if (σ.1 2 p0.toNatClampNeg) = 8 then (if 0 ≤ (4 * p0).toInt ∧ (4 * p0).toInt < 3200 then (some ((σ.1 5 (4 * p0).toNatClampNeg), σ)) else none) else (some (p0, σ))) else none

set_option maxRecDepth 100000 in
set_option maxHeartbeats 4000000 in
theorem b_X11_firstOf_e {p : Program} {l : Launch} {e : Env} {s : State} {m : MethodId} {args : Array Value} {below : List Frame} {meth : Method} {c : Code} {dC : Nat → ClassId} {dI : Nat → Nat → Nat} {a : Nat → Nat} {k : Nat → ClassId} {A : Nat → Prop} {q : Int32 × ST} (hC : CxB p s m args meth c dC dI k A cX11_firstOf RX11 (some .int) 3)   {p0 : Int32} {σ : ST} (h : f_X11_firstOf  p0 σ = some q) : GoB p l e ({ frames := 0, cells := 0, slots := 0, locals := 0 } : Room) s m args below meth c (MQ below (qBi dC dI a k A q) args s 0 0 A) dC dI a k A 3 0 σ (lv_args 0 [.int p0, .ref (a 2), .ref (a 5)]) [] := by
  have hC0 := hC
  obtain ⟨hx, hb, hr, hml, hown, hts, hlocks, hA, hN, hK⟩ := hC0
  intro H locs ls hP hD hS hl
  have hD0 : ∀ σ1 : ST, va_D A (wB a k σ1) := fun σ1 => wB_D hD
  replace hl : lv_has ls 3 [(0, .int p0), (1, .ref (a 2)), (2, .ref (a 5))] := hl
  unfold f_X11_firstOf at h
  refine lv_aload_n hx hb dX11_firstOf_0 rfl (lv_at hl 1 rfl) ?_
  refine lv_iload_n hx hb dX11_firstOf_1 rfl (lv_at hl 0 rfl) ?_
  obtain ⟨hg1, h⟩ := ig h
  refine va_iald hx hb hK hP 2 1 gB_2 yB_2 (vp_in_iff.mpr hg1) dX11_firstOf_2 ?_
  refine lv_bipush (v := 8) hx hb dX11_firstOf_3 (by decide) ?_
  refine lv_icmp_ne (tgt := 16) hx hb dX11_firstOf_5 (by decide) (fun hc => ?_) (fun hc => ?_)
  · replace h := iq hc h
    refine lv_iload_n hx hb dX11_firstOf_16 rfl (lv_at hl 0 rfl) ?_
    obtain rfl := Option.some.inj h
    exact W.iret hx hb hr (fun t ht hW => ⟨⟨_, (), rfl, rfl, ⟨by rw [ht]; exact hP, va_K.moved hW.alike hK, hD⟩⟩, hS.F ht⟩) hS.2.2 dX11_firstOf_17
  · replace h := ip hc h
    refine lv_aload_n hx hb dX11_firstOf_8 rfl (lv_at hl 2 rfl) ?_
    refine lv_iconst (v := 4) hx hb dX11_firstOf_9 (by decide) ?_
    refine lv_iload_n hx hb dX11_firstOf_10 rfl (lv_at hl 0 rfl) ?_
    refine lv_imul hx hb dX11_firstOf_11 ?_
    obtain ⟨hg2, h⟩ := ig h
    refine va_iald hx hb hK hP 5 4 gB_5 yB_5 (vp_in_iff.mpr hg2) dX11_firstOf_12 ?_
    refine lv_goto (tgt := 17) hx hb dX11_firstOf_13 (by decide) ?_
    obtain rfl := Option.some.inj h
    exact W.iret hx hb hr (fun t ht hW => ⟨⟨_, (), rfl, rfl, ⟨by rw [ht]; exact hP, va_K.moved hW.alike hK, hD⟩⟩, hS.F ht⟩) hS.2.2 dX11_firstOf_17

theorem s_X11_firstOf {l : Launch} {dC : Nat → ClassId} {dI : Nat → Nat → Nat} {a : Nat → Nat} {k : Nat → ClassId} {sz : Nat} {p0 : Int32} {σ : ST} {q : Int32 × ST} (h : f_X11_firstOf  p0 σ = some q) : Met l yX11_firstOf (.code yX11_firstOf cX11_firstOf 3 (some .int) :: pw) ({ frames := 0, cells := 0, slots := 0, locals := 0 } : Room) (va_Pc [.int p0, .ref (a 2), .ref (a 5)] (vPre dC dI (wB a k σ) (tB k) sz)) (qBi dC dI a k (va_A (wB a k σ) sz) q) 0 0 (va_A (wB a k σ) sz) := metB (fun A => qBi dC dI a k A q) (plainFor_of_name (by decide)) (Nat.le_of_ble_eq_true rfl) (fun _ _ _ _ _ _ _ _ hC => b_X11_firstOf_e hC h)
