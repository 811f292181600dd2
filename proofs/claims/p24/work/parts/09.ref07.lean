theorem dX11_feed_0 : decode cX11_feed 0 = .ok (.aload_n 0, 1) := by decide +kernel
theorem dX11_feed_1 : decode cX11_feed 1 = .ok (.iconst 0, 1) := by decide +kernel
theorem dX11_feed_2 : decode cX11_feed 2 = .ok (.putfield 178, 3) := by decide +kernel
theorem dX11_feed_5 : decode cX11_feed 5 = .ok (.aload_n 0, 1) := by decide +kernel
theorem dX11_feed_6 : decode cX11_feed 6 = .ok (.getfield 182, 3) := by decide +kernel
theorem dX11_feed_9 : decode cX11_feed 9 = .ok (.bipush 20, 2) := by decide +kernel
theorem dX11_feed_11 : decode cX11_feed 11 = .ok (.iadd, 1) := by decide +kernel
theorem dX11_feed_12 : decode cX11_feed 12 = .ok (.sipush 1000, 3) := by decide +kernel
theorem dX11_feed_15 : decode cX11_feed 15 = .ok (.if_icmp .le 5, 3) := by decide +kernel
theorem dX11_feed_18 : decode cX11_feed 18 = .ok (.iconst (-1), 1) := by decide +kernel
theorem dX11_feed_19 : decode cX11_feed 19 = .ok (.ireturn, 1) := by decide +kernel
theorem dX11_feed_20 : decode cX11_feed 20 = .ok (.aload_n 0, 1) := by decide +kernel
theorem dX11_feed_21 : decode cX11_feed 21 = .ok (.iload_n 1, 1) := by decide +kernel
theorem dX11_feed_22 : decode cX11_feed 22 = .ok (.invokevirtual 185, 3) := by decide +kernel
theorem dX11_feed_25 : decode cX11_feed 25 = .ok (.aload_n 0, 1) := by decide +kernel
theorem dX11_feed_26 : decode cX11_feed 26 = .ok (.iload_n 2, 1) := by decide +kernel
theorem dX11_feed_27 : decode cX11_feed 27 = .ok (.invokevirtual 185, 3) := by decide +kernel
theorem dX11_feed_30 : decode cX11_feed 30 = .ok (.aload_n 0, 1) := by decide +kernel
theorem dX11_feed_31 : decode cX11_feed 31 = .ok (.iload_n 3, 1) := by decide +kernel
theorem dX11_feed_32 : decode cX11_feed 32 = .ok (.invokevirtual 185, 3) := by decide +kernel
theorem dX11_feed_35 : decode cX11_feed 35 = .ok (.aload_n 0, 1) := by decide +kernel
theorem dX11_feed_36 : decode cX11_feed 36 = .ok (.iload 4, 2) := by decide +kernel
theorem dX11_feed_38 : decode cX11_feed 38 = .ok (.invokevirtual 185, 3) := by decide +kernel
theorem dX11_feed_41 : decode cX11_feed 41 = .ok (.aload_n 0, 1) := by decide +kernel
theorem dX11_feed_42 : decode cX11_feed 42 = .ok (.iload 5, 2) := by decide +kernel
theorem dX11_feed_44 : decode cX11_feed 44 = .ok (.invokevirtual 185, 3) := by decide +kernel
theorem dX11_feed_47 : decode cX11_feed 47 = .ok (.aload_n 0, 1) := by decide +kernel
theorem dX11_feed_48 : decode cX11_feed 48 = .ok (.getfield 182, 3) := by decide +kernel
theorem dX11_feed_51 : decode cX11_feed 51 = .ok (.ireturn, 1) := by decide +kernel
theorem dX11_field_0 : decode cX11_field 0 = .ok (.aload_n 0, 1) := by decide +kernel
theorem dX11_field_1 : decode cX11_field 1 = .ok (.invokevirtual 312, 3) := by decide +kernel
theorem dX11_field_4 : decode cX11_field 4 = .ok (.ifCond .ne 9, 3) := by decide +kernel
theorem dX11_field_7 : decode cX11_field 7 = .ok (.aload_n 0, 1) := by decide +kernel
theorem dX11_field_8 : decode cX11_field 8 = .ok (.iconst 1, 1) := by decide +kernel
theorem dX11_field_9 : decode cX11_field 9 = .ok (.invokevirtual 272, 3) := by decide +kernel
theorem dX11_field_12 : decode cX11_field 12 = .ok (.ireturn, 1) := by decide +kernel
theorem dX11_field_13 : decode cX11_field 13 = .ok (.aload_n 0, 1) := by decide +kernel
theorem dX11_field_14 : decode cX11_field 14 = .ok (.iload_n 1, 1) := by decide +kernel
theorem dX11_field_15 : decode cX11_field 15 = .ok (.aload_n 0, 1) := by decide +kernel
theorem dX11_field_16 : decode cX11_field 16 = .ok (.getfield 204, 3) := by decide +kernel
theorem dX11_field_19 : decode cX11_field 19 = .ok (.invokevirtual 355, 3) := by decide +kernel
theorem dX11_field_22 : decode cX11_field 22 = .ok (.ifCond .lt 9, 3) := by decide +kernel
theorem dX11_field_25 : decode cX11_field 25 = .ok (.aload_n 0, 1) := by decide +kernel
theorem dX11_field_26 : decode cX11_field 26 = .ok (.iconst 3, 1) := by decide +kernel
theorem dX11_field_27 : decode cX11_field 27 = .ok (.invokevirtual 272, 3) := by decide +kernel
theorem dX11_field_30 : decode cX11_field 30 = .ok (.ireturn, 1) := by decide +kernel
theorem dX11_field_31 : decode cX11_field 31 = .ok (.aload_n 0, 1) := by decide +kernel
theorem dX11_field_32 : decode cX11_field 32 = .ok (.getfield 42, 3) := by decide +kernel
theorem dX11_field_35 : decode cX11_field 35 = .ok (.iload_n 1, 1) := by decide +kernel
theorem dX11_field_36 : decode cX11_field 36 = .ok (.iaload, 1) := by decide +kernel
theorem dX11_field_37 : decode cX11_field 37 = .ok (.bipush 8, 2) := by decide +kernel
theorem dX11_field_39 : decode cX11_field 39 = .ok (.if_icmp .ne 9, 3) := by decide +kernel
theorem dX11_field_42 : decode cX11_field 42 = .ok (.aload_n 0, 1) := by decide +kernel
theorem dX11_field_43 : decode cX11_field 43 = .ok (.iconst 4, 1) := by decide +kernel
theorem dX11_field_44 : decode cX11_field 44 = .ok (.invokevirtual 272, 3) := by decide +kernel
theorem dX11_field_47 : decode cX11_field 47 = .ok (.ireturn, 1) := by decide +kernel
theorem dX11_field_48 : decode cX11_field 48 = .ok (.bipush 8, 2) := by decide +kernel
theorem dX11_field_50 : decode cX11_field 50 = .ok (.iload_n 1, 1) := by decide +kernel
theorem dX11_field_51 : decode cX11_field 51 = .ok (.imul, 1) := by decide +kernel
theorem dX11_field_52 : decode cX11_field 52 = .ok (.aload_n 0, 1) := by decide +kernel
theorem dX11_field_53 : decode cX11_field 53 = .ok (.getfield 42, 3) := by decide +kernel
theorem dX11_field_56 : decode cX11_field 56 = .ok (.iload_n 1, 1) := by decide +kernel
theorem dX11_field_57 : decode cX11_field 57 = .ok (.iaload, 1) := by decide +kernel
theorem dX11_field_58 : decode cX11_field 58 = .ok (.iadd, 1) := by decide +kernel
theorem dX11_field_59 : decode cX11_field 59 = .ok (.istore_n 2, 1) := by decide +kernel
theorem dX11_field_60 : decode cX11_field 60 = .ok (.aload_n 0, 1) := by decide +kernel
theorem dX11_field_61 : decode cX11_field 61 = .ok (.getfield 204, 3) := by decide +kernel
theorem dX11_field_64 : decode cX11_field 64 = .ok (.lstore_n 3, 1) := by decide +kernel
theorem dX11_field_65 : decode cX11_field 65 = .ok (.aload_n 0, 1) := by decide +kernel
theorem dX11_field_66 : decode cX11_field 66 = .ok (.getfield 48, 3) := by decide +kernel
theorem dX11_field_69 : decode cX11_field 69 = .ok (.iload_n 2, 1) := by decide +kernel
theorem dX11_field_70 : decode cX11_field 70 = .ok (.aload_n 0, 1) := by decide +kernel
theorem dX11_field_71 : decode cX11_field 71 = .ok (.getfield 208, 3) := by decide +kernel
theorem dX11_field_74 : decode cX11_field 74 = .ok (.iastore, 1) := by decide +kernel
theorem dX11_field_75 : decode cX11_field 75 = .ok (.aload_n 0, 1) := by decide +kernel
theorem dX11_field_76 : decode cX11_field 76 = .ok (.getfield 51, 3) := by decide +kernel
theorem dX11_field_79 : decode cX11_field 79 = .ok (.iload_n 2, 1) := by decide +kernel
theorem dX11_field_80 : decode cX11_field 80 = .ok (.lconst 0, 1) := by decide +kernel
theorem dX11_field_81 : decode cX11_field 81 = .ok (.lastore, 1) := by decide +kernel
theorem dX11_field_82 : decode cX11_field 82 = .ok (.aload_n 0, 1) := by decide +kernel
theorem dX11_field_83 : decode cX11_field 83 = .ok (.getfield 57, 3) := by decide +kernel
theorem dX11_field_86 : decode cX11_field 86 = .ok (.iload_n 2, 1) := by decide +kernel
theorem dX11_field_87 : decode cX11_field 87 = .ok (.iconst 0, 1) := by decide +kernel
theorem dX11_field_88 : decode cX11_field 88 = .ok (.bastore, 1) := by decide +kernel
theorem dX11_field_89 : decode cX11_field 89 = .ok (.aload_n 0, 1) := by decide +kernel
theorem dX11_field_90 : decode cX11_field 90 = .ok (.invokevirtual 275, 3) := by decide +kernel
theorem dX11_field_93 : decode cX11_field 93 = .ok (.aload_n 0, 1) := by decide +kernel
theorem dX11_field_94 : decode cX11_field 94 = .ok (.getfield 54, 3) := by decide +kernel
theorem dX11_field_97 : decode cX11_field 97 = .ok (.iload_n 2, 1) := by decide +kernel
theorem dX11_field_98 : decode cX11_field 98 = .ok (.aload_n 0, 1) := by decide +kernel
theorem dX11_field_99 : decode cX11_field 99 = .ok (.iconst 0, 1) := by decide +kernel
theorem dX11_field_100 : decode cX11_field 100 = .ok (.iconst (-1), 1) := by decide +kernel
theorem dX11_field_101 : decode cX11_field 101 = .ok (.invokevirtual 321, 3) := by decide +kernel
theorem dX11_field_104 : decode cX11_field 104 = .ok (.iastore, 1) := by decide +kernel
theorem dX11_field_105 : decode cX11_field 105 = .ok (.aload_n 0, 1) := by decide +kernel
theorem dX11_field_106 : decode cX11_field 106 = .ok (.getfield 54, 3) := by decide +kernel
theorem dX11_field_109 : decode cX11_field 109 = .ok (.iload_n 2, 1) := by decide +kernel
theorem dX11_field_110 : decode cX11_field 110 = .ok (.iaload, 1) := by decide +kernel
theorem dX11_field_111 : decode cX11_field 111 = .ok (.ifCond .ge 5, 3) := by decide +kernel
theorem dX11_field_114 : decode cX11_field 114 = .ok (.iconst 0, 1) := by decide +kernel
theorem dX11_field_115 : decode cX11_field 115 = .ok (.ireturn, 1) := by decide +kernel
theorem dX11_field_116 : decode cX11_field 116 = .ok (.aload_n 0, 1) := by decide +kernel
theorem dX11_field_117 : decode cX11_field 117 = .ok (.invokevirtual 297, 3) := by decide +kernel
theorem dX11_field_120 : decode cX11_field 120 = .ok (.ifCond .eq 49, 3) := by decide +kernel
theorem dX11_field_123 : decode cX11_field 123 = .ok (.aload_n 0, 1) := by decide +kernel
theorem dX11_field_124 : decode cX11_field 124 = .ok (.invokevirtual 275, 3) := by decide +kernel
theorem dX11_field_127 : decode cX11_field 127 = .ok (.aload_n 0, 1) := by decide +kernel
theorem dX11_field_128 : decode cX11_field 128 = .ok (.invokevirtual 312, 3) := by decide +kernel
theorem dX11_field_131 : decode cX11_field 131 = .ok (.ifCond .ne 9, 3) := by decide +kernel
theorem dX11_field_134 : decode cX11_field 134 = .ok (.aload_n 0, 1) := by decide +kernel
theorem dX11_field_135 : decode cX11_field 135 = .ok (.iconst 1, 1) := by decide +kernel
theorem dX11_field_136 : decode cX11_field 136 = .ok (.invokevirtual 272, 3) := by decide +kernel
theorem dX11_field_139 : decode cX11_field 139 = .ok (.ireturn, 1) := by decide +kernel
theorem dX11_field_140 : decode cX11_field 140 = .ok (.aload_n 0, 1) := by decide +kernel
theorem dX11_field_141 : decode cX11_field 141 = .ok (.getfield 204, 3) := by decide +kernel
theorem dX11_field_144 : decode cX11_field 144 = .ok (.lload_n 3, 1) := by decide +kernel
theorem dX11_field_145 : decode cX11_field 145 = .ok (.lcmp, 1) := by decide +kernel
theorem dX11_field_146 : decode cX11_field 146 = .ok (.ifCond .ne 9, 3) := by decide +kernel
theorem dX11_field_149 : decode cX11_field 149 = .ok (.aload_n 0, 1) := by decide +kernel
theorem dX11_field_150 : decode cX11_field 150 = .ok (.iconst 3, 1) := by decide +kernel
theorem dX11_field_151 : decode cX11_field 151 = .ok (.invokevirtual 272, 3) := by decide +kernel
theorem dX11_field_154 : decode cX11_field 154 = .ok (.ireturn, 1) := by decide +kernel
theorem dX11_field_155 : decode cX11_field 155 = .ok (.aload_n 0, 1) := by decide +kernel
theorem dX11_field_156 : decode cX11_field 156 = .ok (.getfield 51, 3) := by decide +kernel
theorem dX11_field_159 : decode cX11_field 159 = .ok (.iload_n 2, 1) := by decide +kernel
theorem dX11_field_160 : decode cX11_field 160 = .ok (.aload_n 0, 1) := by decide +kernel
theorem dX11_field_161 : decode cX11_field 161 = .ok (.getfield 204, 3) := by decide +kernel
theorem dX11_field_164 : decode cX11_field 164 = .ok (.lastore, 1) := by decide +kernel
theorem dX11_field_165 : decode cX11_field 165 = .ok (.aload_n 0, 1) := by decide +kernel
theorem dX11_field_166 : decode cX11_field 166 = .ok (.invokevirtual 275, 3) := by decide +kernel
theorem dX11_field_169 : decode cX11_field 169 = .ok (.aload_n 0, 1) := by decide +kernel
theorem dX11_field_170 : decode cX11_field 170 = .ok (.invokevirtual 300, 3) := by decide +kernel
theorem dX11_field_173 : decode cX11_field 173 = .ok (.ifCond .eq 17, 3) := by decide +kernel
theorem dX11_field_176 : decode cX11_field 176 = .ok (.aload_n 0, 1) := by decide +kernel
theorem dX11_field_177 : decode cX11_field 177 = .ok (.invokevirtual 275, 3) := by decide +kernel
theorem dX11_field_180 : decode cX11_field 180 = .ok (.aload_n 0, 1) := by decide +kernel
theorem dX11_field_181 : decode cX11_field 181 = .ok (.iload_n 2, 1) := by decide +kernel
theorem dX11_field_182 : decode cX11_field 182 = .ok (.invokevirtual 359, 3) := by decide +kernel
theorem dX11_field_185 : decode cX11_field 185 = .ok (.ifCond .ne 5, 3) := by decide +kernel
theorem dX11_field_188 : decode cX11_field 188 = .ok (.iconst 0, 1) := by decide +kernel
theorem dX11_field_189 : decode cX11_field 189 = .ok (.ireturn, 1) := by decide +kernel
theorem dX11_field_190 : decode cX11_field 190 = .ok (.aload_n 0, 1) := by decide +kernel
theorem dX11_field_191 : decode cX11_field 191 = .ok (.getfield 45, 3) := by decide +kernel
theorem dX11_field_194 : decode cX11_field 194 = .ok (.iload_n 2, 1) := by decide +kernel
theorem dX11_field_195 : decode cX11_field 195 = .ok (.lload_n 3, 1) := by decide +kernel
theorem dX11_field_196 : decode cX11_field 196 = .ok (.lastore, 1) := by decide +kernel
theorem dX11_field_197 : decode cX11_field 197 = .ok (.aload_n 0, 1) := by decide +kernel
theorem dX11_field_198 : decode cX11_field 198 = .ok (.getfield 42, 3) := by decide +kernel
theorem dX11_field_201 : decode cX11_field 201 = .ok (.iload_n 1, 1) := by decide +kernel
theorem dX11_field_202 : decode cX11_field 202 = .ok (.dup2, 1) := by decide +kernel
theorem dX11_field_203 : decode cX11_field 203 = .ok (.iaload, 1) := by decide +kernel
theorem dX11_field_204 : decode cX11_field 204 = .ok (.iconst 1, 1) := by decide +kernel
theorem dX11_field_205 : decode cX11_field 205 = .ok (.iadd, 1) := by decide +kernel
theorem dX11_field_206 : decode cX11_field 206 = .ok (.iastore, 1) := by decide +kernel
theorem dX11_field_207 : decode cX11_field 207 = .ok (.iconst 1, 1) := by decide +kernel
theorem dX11_field_208 : decode cX11_field 208 = .ok (.ireturn, 1) := by decide +kernel
theorem dX11_field__0 : decode cX11_field_ 0 = .ok (.aload_n 0, 1) := by decide +kernel
theorem dX11_field__1 : decode cX11_field_ 1 = .ok (.iconst 0, 1) := by decide +kernel
theorem dX11_field__2 : decode cX11_field_ 2 = .ok (.putfield 178, 3) := by decide +kernel
theorem dX11_field__5 : decode cX11_field_ 5 = .ok (.aload_n 0, 1) := by decide +kernel
theorem dX11_field__6 : decode cX11_field_ 6 = .ok (.iload_n 1, 1) := by decide +kernel
theorem dX11_field__7 : decode cX11_field_ 7 = .ok (.invokevirtual 407, 3) := by decide +kernel
theorem dX11_field__10 : decode cX11_field_ 10 = .ok (.ifCond .eq 25, 3) := by decide +kernel
theorem dX11_field__13 : decode cX11_field_ 13 = .ok (.iload_n 2, 1) := by decide +kernel
theorem dX11_field__14 : decode cX11_field_ 14 = .ok (.i2l, 1) := by decide +kernel
theorem dX11_field__15 : decode cX11_field_ 15 = .ok (.lconst 0, 1) := by decide +kernel
theorem dX11_field__16 : decode cX11_field_ 16 = .ok (.aload_n 0, 1) := by decide +kernel
theorem dX11_field__17 : decode cX11_field_ 17 = .ok (.getfield 33, 3) := by decide +kernel
theorem dX11_field__20 : decode cX11_field_ 20 = .ok (.iload_n 1, 1) := by decide +kernel
theorem dX11_field__21 : decode cX11_field_ 21 = .ok (.iaload, 1) := by decide +kernel
theorem dX11_field__22 : decode cX11_field_ 22 = .ok (.iconst 1, 1) := by decide +kernel
theorem dX11_field__23 : decode cX11_field_ 23 = .ok (.isub, 1) := by decide +kernel
theorem dX11_field__24 : decode cX11_field_ 24 = .ok (.i2l, 1) := by decide +kernel
theorem dX11_field__25 : decode cX11_field_ 25 = .ok (.invokestatic 196, 3) := by decide +kernel
theorem dX11_field__28 : decode cX11_field_ 28 = .ok (.ifCond .eq 7, 3) := by decide +kernel
theorem dX11_field__31 : decode cX11_field_ 31 = .ok (.iconst 1, 1) := by decide +kernel
theorem dX11_field__32 : decode cX11_field_ 32 = .ok (.goto 4, 3) := by decide +kernel
theorem dX11_field__35 : decode cX11_field_ 35 = .ok (.iconst 0, 1) := by decide +kernel
theorem dX11_field__36 : decode cX11_field_ 36 = .ok (.istore 5, 2) := by decide +kernel
theorem dX11_field__38 : decode cX11_field_ 38 = .ok (.iload 5, 2) := by decide +kernel
theorem dX11_field__40 : decode cX11_field_ 40 = .ok (.ifCond .eq 12, 3) := by decide +kernel
theorem dX11_field__43 : decode cX11_field_ 43 = .ok (.bipush 6, 2) := by decide +kernel
theorem dX11_field__45 : decode cX11_field_ 45 = .ok (.iload_n 1, 1) := by decide +kernel
theorem dX11_field__46 : decode cX11_field_ 46 = .ok (.imul, 1) := by decide +kernel
theorem dX11_field__47 : decode cX11_field_ 47 = .ok (.iload_n 2, 1) := by decide +kernel
theorem dX11_field__48 : decode cX11_field_ 48 = .ok (.iadd, 1) := by decide +kernel
theorem dX11_field__49 : decode cX11_field_ 49 = .ok (.goto 4, 3) := by decide +kernel
theorem dX11_field__52 : decode cX11_field_ 52 = .ok (.iconst 0, 1) := by decide +kernel
theorem dX11_field__53 : decode cX11_field_ 53 = .ok (.istore 6, 2) := by decide +kernel
theorem dX11_field__55 : decode cX11_field_ 55 = .ok (.iload 5, 2) := by decide +kernel
theorem dX11_field__57 : decode cX11_field_ 57 = .ok (.ifCond .eq 22, 3) := by decide +kernel
theorem dX11_field__60 : decode cX11_field_ 60 = .ok (.iload_n 3, 1) := by decide +kernel
theorem dX11_field__61 : decode cX11_field_ 61 = .ok (.i2l, 1) := by decide +kernel
theorem dX11_field__62 : decode cX11_field_ 62 = .ok (.lconst 0, 1) := by decide +kernel
theorem dX11_field__63 : decode cX11_field_ 63 = .ok (.aload_n 0, 1) := by decide +kernel
theorem dX11_field__64 : decode cX11_field_ 64 = .ok (.getfield 42, 3) := by decide +kernel
theorem dX11_field__67 : decode cX11_field_ 67 = .ok (.iload 6, 2) := by decide +kernel
theorem dX11_field__69 : decode cX11_field_ 69 = .ok (.iaload, 1) := by decide +kernel
theorem dX11_field__70 : decode cX11_field_ 70 = .ok (.iconst 1, 1) := by decide +kernel
theorem dX11_field__71 : decode cX11_field_ 71 = .ok (.isub, 1) := by decide +kernel
theorem dX11_field__72 : decode cX11_field_ 72 = .ok (.i2l, 1) := by decide +kernel
theorem dX11_field__73 : decode cX11_field_ 73 = .ok (.invokestatic 196, 3) := by decide +kernel
theorem dX11_field__76 : decode cX11_field_ 76 = .ok (.ifCond .ne 5, 3) := by decide +kernel
theorem dX11_field__79 : decode cX11_field_ 79 = .ok (.iconst (-1), 1) := by decide +kernel
theorem dX11_field__80 : decode cX11_field_ 80 = .ok (.ireturn, 1) := by decide +kernel
theorem dX11_field__81 : decode cX11_field_ 81 = .ok (.bipush 8, 2) := by decide +kernel
theorem dX11_field__83 : decode cX11_field_ 83 = .ok (.iload 6, 2) := by decide +kernel
theorem dX11_field__85 : decode cX11_field_ 85 = .ok (.imul, 1) := by decide +kernel
theorem dX11_field__86 : decode cX11_field_ 86 = .ok (.iload_n 3, 1) := by decide +kernel
theorem dX11_field__87 : decode cX11_field_ 87 = .ok (.iadd, 1) := by decide +kernel
theorem dX11_field__88 : decode cX11_field_ 88 = .ok (.istore 7, 2) := by decide +kernel
theorem dX11_field__90 : decode cX11_field_ 90 = .ok (.iload 4, 2) := by decide +kernel
theorem dX11_field__92 : decode cX11_field_ 92 = .ok (.tableswitch 120 0 5 #[40, 53, 69, 87, 95, 108], 40) := by decide +kernel
theorem dX11_field__132 : decode cX11_field_ 132 = .ok (.aload_n 0, 1) := by decide +kernel
theorem dX11_field__133 : decode cX11_field_ 133 = .ok (.getfield 13, 3) := by decide +kernel
theorem dX11_field__136 : decode cX11_field_ 136 = .ok (.aload_n 0, 1) := by decide +kernel
theorem dX11_field__137 : decode cX11_field_ 137 = .ok (.getfield 54, 3) := by decide +kernel
theorem dX11_field__140 : decode cX11_field_ 140 = .ok (.iload 7, 2) := by decide +kernel
theorem dX11_field__142 : decode cX11_field_ 142 = .ok (.iaload, 1) := by decide +kernel
theorem dX11_field__143 : decode cX11_field_ 143 = .ok (.iaload, 1) := by decide +kernel
theorem dX11_field__144 : decode cX11_field_ 144 = .ok (.ireturn, 1) := by decide +kernel
theorem dX11_field__145 : decode cX11_field_ 145 = .ok (.aload_n 0, 1) := by decide +kernel
theorem dX11_field__146 : decode cX11_field_ 146 = .ok (.getfield 57, 3) := by decide +kernel
theorem dX11_field__149 : decode cX11_field_ 149 = .ok (.iload 7, 2) := by decide +kernel
theorem dX11_field__151 : decode cX11_field_ 151 = .ok (.baload, 1) := by decide +kernel
theorem dX11_field__152 : decode cX11_field_ 152 = .ok (.ifCond .eq 7, 3) := by decide +kernel
theorem dX11_field__155 : decode cX11_field_ 155 = .ok (.iconst 1, 1) := by decide +kernel
theorem dX11_field__156 : decode cX11_field_ 156 = .ok (.goto 4, 3) := by decide +kernel
theorem dX11_field__159 : decode cX11_field_ 159 = .ok (.iconst 0, 1) := by decide +kernel
theorem dX11_field__160 : decode cX11_field_ 160 = .ok (.ireturn, 1) := by decide +kernel
theorem dX11_field__161 : decode cX11_field_ 161 = .ok (.aload_n 0, 1) := by decide +kernel
theorem dX11_field__162 : decode cX11_field_ 162 = .ok (.getfield 51, 3) := by decide +kernel
theorem dX11_field__165 : decode cX11_field_ 165 = .ok (.iload 7, 2) := by decide +kernel
theorem dX11_field__167 : decode cX11_field_ 167 = .ok (.laload, 1) := by decide +kernel
theorem dX11_field__168 : decode cX11_field_ 168 = .ok (.lconst 0, 1) := by decide +kernel
theorem dX11_field__169 : decode cX11_field_ 169 = .ok (.lcmp, 1) := by decide +kernel
theorem dX11_field__170 : decode cX11_field_ 170 = .ok (.ifCond .le 7, 3) := by decide +kernel
theorem dX11_field__173 : decode cX11_field_ 173 = .ok (.iconst 1, 1) := by decide +kernel
theorem dX11_field__174 : decode cX11_field_ 174 = .ok (.goto 4, 3) := by decide +kernel
theorem dX11_field__177 : decode cX11_field_ 177 = .ok (.iconst 0, 1) := by decide +kernel
theorem dX11_field__178 : decode cX11_field_ 178 = .ok (.ireturn, 1) := by decide +kernel
theorem dX11_field__179 : decode cX11_field_ 179 = .ok (.aload_n 0, 1) := by decide +kernel
theorem dX11_field__180 : decode cX11_field_ 180 = .ok (.getfield 48, 3) := by decide +kernel
theorem dX11_field__183 : decode cX11_field_ 183 = .ok (.iload 7, 2) := by decide +kernel
theorem dX11_field__185 : decode cX11_field_ 185 = .ok (.iaload, 1) := by decide +kernel
theorem dX11_field__186 : decode cX11_field_ 186 = .ok (.ireturn, 1) := by decide +kernel
theorem dX11_field__187 : decode cX11_field_ 187 = .ok (.aload_n 0, 1) := by decide +kernel
theorem dX11_field__188 : decode cX11_field_ 188 = .ok (.getfield 20, 3) := by decide +kernel
theorem dX11_field__191 : decode cX11_field_ 191 = .ok (.aload_n 0, 1) := by decide +kernel
theorem dX11_field__192 : decode cX11_field_ 192 = .ok (.getfield 54, 3) := by decide +kernel
theorem dX11_field__195 : decode cX11_field_ 195 = .ok (.iload 7, 2) := by decide +kernel
theorem dX11_field__197 : decode cX11_field_ 197 = .ok (.iaload, 1) := by decide +kernel
theorem dX11_field__198 : decode cX11_field_ 198 = .ok (.iaload, 1) := by decide +kernel
theorem dX11_field__199 : decode cX11_field_ 199 = .ok (.ireturn, 1) := by decide +kernel
theorem dX11_field__200 : decode cX11_field_ 200 = .ok (.aload_n 0, 1) := by decide +kernel
theorem dX11_field__201 : decode cX11_field_ 201 = .ok (.aload_n 0, 1) := by decide +kernel
theorem dX11_field__202 : decode cX11_field_ 202 = .ok (.getfield 54, 3) := by decide +kernel
theorem dX11_field__205 : decode cX11_field_ 205 = .ok (.iload 7, 2) := by decide +kernel
theorem dX11_field__207 : decode cX11_field_ 207 = .ok (.iaload, 1) := by decide +kernel
theorem dX11_field__208 : decode cX11_field_ 208 = .ok (.invokevirtual 410, 3) := by decide +kernel
theorem dX11_field__211 : decode cX11_field_ 211 = .ok (.ireturn, 1) := by decide +kernel
theorem dX11_field__212 : decode cX11_field_ 212 = .ok (.iconst (-1), 1) := by decide +kernel
theorem dX11_field__213 : decode cX11_field_ 213 = .ok (.ireturn, 1) := by decide +kernel
theorem dX11_hasChild_0 : decode cX11_hasChild 0 = .ok (.iconst 0, 1) := by decide +kernel
theorem dX11_hasChild_1 : decode cX11_hasChild 1 = .ok (.istore_n 3, 1) := by decide +kernel
theorem dX11_hasChild_2 : decode cX11_hasChild 2 = .ok (.aload_n 0, 1) := by decide +kernel
theorem dX11_hasChild_3 : decode cX11_hasChild 3 = .ok (.getfield 94, 3) := by decide +kernel
theorem dX11_hasChild_6 : decode cX11_hasChild 6 = .ok (.iload_n 1, 1) := by decide +kernel
theorem dX11_hasChild_7 : decode cX11_hasChild 7 = .ok (.iaload, 1) := by decide +kernel
theorem dX11_hasChild_8 : decode cX11_hasChild 8 = .ok (.istore 4, 2) := by decide +kernel
theorem dX11_hasChild_10 : decode cX11_hasChild 10 = .ok (.iload 4, 2) := by decide +kernel
theorem dX11_hasChild_12 : decode cX11_hasChild 12 = .ok (.ifCond .lt 36, 3) := by decide +kernel
theorem dX11_hasChild_15 : decode cX11_hasChild 15 = .ok (.iload_n 3, 1) := by decide +kernel
theorem dX11_hasChild_16 : decode cX11_hasChild 16 = .ok (.ifCond .ne 14, 3) := by decide +kernel
theorem dX11_hasChild_19 : decode cX11_hasChild 19 = .ok (.aload_n 0, 1) := by decide +kernel
theorem dX11_hasChild_20 : decode cX11_hasChild 20 = .ok (.getfield 85, 3) := by decide +kernel
theorem dX11_hasChild_23 : decode cX11_hasChild 23 = .ok (.iload 4, 2) := by decide +kernel
theorem dX11_hasChild_25 : decode cX11_hasChild 25 = .ok (.iaload, 1) := by decide +kernel
theorem dX11_hasChild_26 : decode cX11_hasChild 26 = .ok (.iload_n 2, 1) := by decide +kernel
theorem dX11_hasChild_27 : decode cX11_hasChild 27 = .ok (.if_icmp .ne 7, 3) := by decide +kernel
theorem dX11_hasChild_30 : decode cX11_hasChild 30 = .ok (.iconst 1, 1) := by decide +kernel
theorem dX11_hasChild_31 : decode cX11_hasChild 31 = .ok (.goto 4, 3) := by decide +kernel
theorem dX11_hasChild_34 : decode cX11_hasChild 34 = .ok (.iconst 0, 1) := by decide +kernel
theorem dX11_hasChild_35 : decode cX11_hasChild 35 = .ok (.istore_n 3, 1) := by decide +kernel
theorem dX11_hasChild_36 : decode cX11_hasChild 36 = .ok (.aload_n 0, 1) := by decide +kernel
theorem dX11_hasChild_37 : decode cX11_hasChild 37 = .ok (.getfield 100, 3) := by decide +kernel
theorem dX11_hasChild_40 : decode cX11_hasChild 40 = .ok (.iload 4, 2) := by decide +kernel
theorem dX11_hasChild_42 : decode cX11_hasChild 42 = .ok (.iaload, 1) := by decide +kernel
theorem dX11_hasChild_43 : decode cX11_hasChild 43 = .ok (.istore 4, 2) := by decide +kernel
theorem dX11_hasChild_45 : decode cX11_hasChild 45 = .ok (.goto (-35), 3) := by decide +kernel
theorem dX11_hasChild_48 : decode cX11_hasChild 48 = .ok (.iload_n 3, 1) := by decide +kernel
theorem dX11_hasChild_49 : decode cX11_hasChild 49 = .ok (.ireturn, 1) := by decide +kernel
theorem dX11_isValue_0 : decode cX11_isValue 0 = .ok (.aload_n 0, 1) := by decide +kernel
theorem dX11_isValue_1 : decode cX11_isValue 1 = .ok (.invokevirtual 338, 3) := by decide +kernel
theorem dX11_isValue_4 : decode cX11_isValue 4 = .ok (.ifCond .ne 12, 3) := by decide +kernel
theorem dX11_isValue_7 : decode cX11_isValue 7 = .ok (.aload_n 0, 1) := by decide +kernel
theorem dX11_isValue_8 : decode cX11_isValue 8 = .ok (.getfield 253, 3) := by decide +kernel
theorem dX11_isValue_11 : decode cX11_isValue 11 = .ok (.bipush 123, 2) := by decide +kernel
theorem dX11_isValue_13 : decode cX11_isValue 13 = .ok (.if_icmp .ne 7, 3) := by decide +kernel
theorem dX11_isValue_16 : decode cX11_isValue 16 = .ok (.iconst 1, 1) := by decide +kernel
theorem dX11_isValue_17 : decode cX11_isValue 17 = .ok (.goto 4, 3) := by decide +kernel
theorem dX11_isValue_20 : decode cX11_isValue 20 = .ok (.iconst 0, 1) := by decide +kernel
theorem dX11_isValue_21 : decode cX11_isValue 21 = .ok (.ireturn, 1) := by decide +kernel
theorem dX11_items_0 : decode cX11_items 0 = .ok (.aload_n 0, 1) := by decide +kernel
theorem dX11_items_1 : decode cX11_items 1 = .ok (.invokevirtual 275, 3) := by decide +kernel
theorem dX11_items_4 : decode cX11_items 4 = .ok (.aload_n 0, 1) := by decide +kernel
theorem dX11_items_5 : decode cX11_items 5 = .ok (.getfield 253, 3) := by decide +kernel
theorem dX11_items_8 : decode cX11_items 8 = .ok (.bipush 93, 2) := by decide +kernel
theorem dX11_items_10 : decode cX11_items 10 = .ok (.if_icmp .ne 9, 3) := by decide +kernel
theorem dX11_items_13 : decode cX11_items 13 = .ok (.aload_n 0, 1) := by decide +kernel
theorem dX11_items_14 : decode cX11_items 14 = .ok (.invokevirtual 275, 3) := by decide +kernel
theorem dX11_items_17 : decode cX11_items 17 = .ok (.iconst 1, 1) := by decide +kernel
theorem dX11_items_18 : decode cX11_items 18 = .ok (.ireturn, 1) := by decide +kernel
theorem dX11_items_19 : decode cX11_items 19 = .ok (.iconst 0, 1) := by decide +kernel
theorem dX11_items_20 : decode cX11_items 20 = .ok (.istore 5, 2) := by decide +kernel
theorem dX11_items_22 : decode cX11_items 22 = .ok (.iconst 1, 1) := by decide +kernel
theorem dX11_items_23 : decode cX11_items 23 = .ok (.istore 6, 2) := by decide +kernel
theorem dX11_items_25 : decode cX11_items 25 = .ok (.iload 6, 2) := by decide +kernel
theorem dX11_items_27 : decode cX11_items 27 = .ok (.ifCond .eq 57, 3) := by decide +kernel
theorem dX11_items_30 : decode cX11_items 30 = .ok (.aload_n 0, 1) := by decide +kernel
theorem dX11_items_31 : decode cX11_items 31 = .ok (.iload_n 1, 1) := by decide +kernel
theorem dX11_items_32 : decode cX11_items 32 = .ok (.aload_n 0, 1) := by decide +kernel
theorem dX11_items_33 : decode cX11_items 33 = .ok (.getfield 17, 3) := by decide +kernel
theorem dX11_items_36 : decode cX11_items 36 = .ok (.iload_n 2, 1) := by decide +kernel
theorem dX11_items_37 : decode cX11_items 37 = .ok (.iaload, 1) := by decide +kernel
theorem dX11_items_38 : decode cX11_items 38 = .ok (.iload_n 3, 1) := by decide +kernel
theorem dX11_items_39 : decode cX11_items 39 = .ok (.iconst 1, 1) := by decide +kernel
theorem dX11_items_40 : decode cX11_items 40 = .ok (.iadd, 1) := by decide +kernel
theorem dX11_items_41 : decode cX11_items 41 = .ok (.iload 4, 2) := by decide +kernel
theorem dX11_items_43 : decode cX11_items 43 = .ok (.iload 5, 2) := by decide +kernel
theorem dX11_items_45 : decode cX11_items 45 = .ok (.invokevirtual 437, 3) := by decide +kernel
theorem dX11_items_48 : decode cX11_items 48 = .ok (.ifCond .ne 5, 3) := by decide +kernel
theorem dX11_items_51 : decode cX11_items 51 = .ok (.iconst 0, 1) := by decide +kernel
theorem dX11_items_52 : decode cX11_items 52 = .ok (.ireturn, 1) := by decide +kernel
theorem dX11_items_53 : decode cX11_items 53 = .ok (.iinc 5 1, 3) := by decide +kernel
theorem dX11_items_56 : decode cX11_items 56 = .ok (.aload_n 0, 1) := by decide +kernel
theorem dX11_items_57 : decode cX11_items 57 = .ok (.getfield 253, 3) := by decide +kernel
theorem dX11_items_60 : decode cX11_items 60 = .ok (.bipush 44, 2) := by decide +kernel
theorem dX11_items_62 : decode cX11_items 62 = .ok (.if_icmp .ne 7, 3) := by decide +kernel
theorem dX11_items_65 : decode cX11_items 65 = .ok (.iconst 1, 1) := by decide +kernel
theorem dX11_items_66 : decode cX11_items 66 = .ok (.goto 4, 3) := by decide +kernel
theorem dX11_items_69 : decode cX11_items 69 = .ok (.iconst 0, 1) := by decide +kernel
theorem dX11_items_70 : decode cX11_items 70 = .ok (.istore 6, 2) := by decide +kernel
theorem dX11_items_72 : decode cX11_items 72 = .ok (.iload 6, 2) := by decide +kernel
theorem dX11_items_74 : decode cX11_items 74 = .ok (.ifCond .eq (-49), 3) := by decide +kernel
theorem dX11_items_77 : decode cX11_items 77 = .ok (.aload_n 0, 1) := by decide +kernel
theorem dX11_items_78 : decode cX11_items 78 = .ok (.invokevirtual 275, 3) := by decide +kernel
theorem dX11_items_81 : decode cX11_items 81 = .ok (.goto (-56), 3) := by decide +kernel
theorem dX11_items_84 : decode cX11_items 84 = .ok (.aload_n 0, 1) := by decide +kernel
theorem dX11_items_85 : decode cX11_items 85 = .ok (.bipush 93, 2) := by decide +kernel
theorem dX11_items_87 : decode cX11_items 87 = .ok (.invokevirtual 352, 3) := by decide +kernel
theorem dX11_items_90 : decode cX11_items 90 = .ok (.ireturn, 1) := by decide +kernel
theorem dX11_parts_0 : decode cX11_parts 0 = .ok (.bipush 6, 2) := by decide +kernel
theorem dX11_parts_2 : decode cX11_parts 2 = .ok (.iload_n 1, 1) := by decide +kernel
theorem dX11_parts_3 : decode cX11_parts 3 = .ok (.imul, 1) := by decide +kernel
theorem dX11_parts_4 : decode cX11_parts 4 = .ok (.aload_n 0, 1) := by decide +kernel
theorem dX11_parts_5 : decode cX11_parts 5 = .ok (.getfield 17, 3) := by decide +kernel
theorem dX11_parts_8 : decode cX11_parts 8 = .ok (.iload_n 2, 1) := by decide +kernel
theorem dX11_parts_9 : decode cX11_parts 9 = .ok (.iaload, 1) := by decide +kernel
theorem dX11_parts_10 : decode cX11_parts 10 = .ok (.iadd, 1) := by decide +kernel
theorem dX11_parts_11 : decode cX11_parts 11 = .ok (.istore 5, 2) := by decide +kernel
theorem dX11_parts_13 : decode cX11_parts 13 = .ok (.aload_n 0, 1) := by decide +kernel
theorem dX11_parts_14 : decode cX11_parts 14 = .ok (.invokevirtual 275, 3) := by decide +kernel
theorem dX11_parts_17 : decode cX11_parts 17 = .ok (.aload_n 0, 1) := by decide +kernel
theorem dX11_parts_18 : decode cX11_parts 18 = .ok (.getfield 253, 3) := by decide +kernel
theorem dX11_parts_21 : decode cX11_parts 21 = .ok (.bipush 125, 2) := by decide +kernel
theorem dX11_parts_23 : decode cX11_parts 23 = .ok (.if_icmp .eq 7, 3) := by decide +kernel
theorem dX11_parts_26 : decode cX11_parts 26 = .ok (.iconst 1, 1) := by decide +kernel
theorem dX11_parts_27 : decode cX11_parts 27 = .ok (.goto 4, 3) := by decide +kernel
theorem dX11_parts_30 : decode cX11_parts 30 = .ok (.iconst 0, 1) := by decide +kernel
theorem dX11_parts_31 : decode cX11_parts 31 = .ok (.istore 6, 2) := by decide +kernel
theorem dX11_parts_33 : decode cX11_parts 33 = .ok (.iload 6, 2) := by decide +kernel
theorem dX11_parts_35 : decode cX11_parts 35 = .ok (.ifCond .eq 118, 3) := by decide +kernel
theorem dX11_parts_38 : decode cX11_parts 38 = .ok (.aload_n 0, 1) := by decide +kernel
theorem dX11_parts_39 : decode cX11_parts 39 = .ok (.invokevirtual 312, 3) := by decide +kernel
theorem dX11_parts_42 : decode cX11_parts 42 = .ok (.ifCond .ne 9, 3) := by decide +kernel
theorem dX11_parts_45 : decode cX11_parts 45 = .ok (.aload_n 0, 1) := by decide +kernel
theorem dX11_parts_46 : decode cX11_parts 46 = .ok (.iconst 1, 1) := by decide +kernel
theorem dX11_parts_47 : decode cX11_parts 47 = .ok (.invokevirtual 272, 3) := by decide +kernel
theorem dX11_parts_50 : decode cX11_parts 50 = .ok (.ireturn, 1) := by decide +kernel
theorem dX11_parts_51 : decode cX11_parts 51 = .ok (.aload_n 0, 1) := by decide +kernel
theorem dX11_parts_52 : decode cX11_parts 52 = .ok (.iload 5, 2) := by decide +kernel
theorem dX11_parts_54 : decode cX11_parts 54 = .ok (.aload_n 0, 1) := by decide +kernel
theorem dX11_parts_55 : decode cX11_parts 55 = .ok (.getfield 204, 3) := by decide +kernel
theorem dX11_parts_58 : decode cX11_parts 58 = .ok (.invokevirtual 355, 3) := by decide +kernel
theorem dX11_parts_61 : decode cX11_parts 61 = .ok (.istore 7, 2) := by decide +kernel
theorem dX11_parts_63 : decode cX11_parts 63 = .ok (.iload 7, 2) := by decide +kernel
theorem dX11_parts_65 : decode cX11_parts 65 = .ok (.ifCond .lt 20, 3) := by decide +kernel
theorem dX11_parts_68 : decode cX11_parts 68 = .ok (.aload_n 0, 1) := by decide +kernel
theorem dX11_parts_69 : decode cX11_parts 69 = .ok (.iload 4, 2) := by decide +kernel
theorem dX11_parts_71 : decode cX11_parts 71 = .ok (.iload 7, 2) := by decide +kernel
theorem dX11_parts_73 : decode cX11_parts 73 = .ok (.bipush 8, 2) := by decide +kernel
theorem dX11_parts_75 : decode cX11_parts 75 = .ok (.iload 5, 2) := by decide +kernel
theorem dX11_parts_77 : decode cX11_parts 77 = .ok (.imul, 1) := by decide +kernel
theorem dX11_parts_78 : decode cX11_parts 78 = .ok (.isub, 1) := by decide +kernel
theorem dX11_parts_79 : decode cX11_parts 79 = .ok (.invokevirtual 441, 3) := by decide +kernel
theorem dX11_parts_82 : decode cX11_parts 82 = .ok (.ifCond .eq 9, 3) := by decide +kernel
theorem dX11_parts_85 : decode cX11_parts 85 = .ok (.aload_n 0, 1) := by decide +kernel
theorem dX11_parts_86 : decode cX11_parts 86 = .ok (.iconst 3, 1) := by decide +kernel
theorem dX11_parts_87 : decode cX11_parts 87 = .ok (.invokevirtual 272, 3) := by decide +kernel
theorem dX11_parts_90 : decode cX11_parts 90 = .ok (.ireturn, 1) := by decide +kernel
theorem dX11_parts_91 : decode cX11_parts 91 = .ok (.aload_n 0, 1) := by decide +kernel
theorem dX11_parts_92 : decode cX11_parts 92 = .ok (.invokevirtual 275, 3) := by decide +kernel
theorem dX11_parts_95 : decode cX11_parts 95 = .ok (.aload_n 0, 1) := by decide +kernel
theorem dX11_parts_96 : decode cX11_parts 96 = .ok (.iload_n 1, 1) := by decide +kernel
theorem dX11_parts_97 : decode cX11_parts 97 = .ok (.aload_n 0, 1) := by decide +kernel
theorem dX11_parts_98 : decode cX11_parts 98 = .ok (.getfield 54, 3) := by decide +kernel
theorem dX11_parts_101 : decode cX11_parts 101 = .ok (.iload 7, 2) := by decide +kernel
theorem dX11_parts_103 : decode cX11_parts 103 = .ok (.iaload, 1) := by decide +kernel
theorem dX11_parts_104 : decode cX11_parts 104 = .ok (.iload_n 3, 1) := by decide +kernel
theorem dX11_parts_105 : decode cX11_parts 105 = .ok (.iconst 1, 1) := by decide +kernel
theorem dX11_parts_106 : decode cX11_parts 106 = .ok (.iadd, 1) := by decide +kernel
theorem dX11_parts_107 : decode cX11_parts 107 = .ok (.iload 4, 2) := by decide +kernel
theorem dX11_parts_109 : decode cX11_parts 109 = .ok (.iload 7, 2) := by decide +kernel
theorem dX11_parts_111 : decode cX11_parts 111 = .ok (.bipush 8, 2) := by decide +kernel
theorem dX11_parts_113 : decode cX11_parts 113 = .ok (.iload 5, 2) := by decide +kernel
theorem dX11_parts_115 : decode cX11_parts 115 = .ok (.imul, 1) := by decide +kernel
theorem dX11_parts_116 : decode cX11_parts 116 = .ok (.isub, 1) := by decide +kernel
theorem dX11_parts_117 : decode cX11_parts 117 = .ok (.invokevirtual 437, 3) := by decide +kernel
theorem dX11_parts_120 : decode cX11_parts 120 = .ok (.ifCond .ne 5, 3) := by decide +kernel
theorem dX11_parts_123 : decode cX11_parts 123 = .ok (.iconst 0, 1) := by decide +kernel
theorem dX11_parts_124 : decode cX11_parts 124 = .ok (.ireturn, 1) := by decide +kernel
theorem dX11_parts_125 : decode cX11_parts 125 = .ok (.aload_n 0, 1) := by decide +kernel
theorem dX11_parts_126 : decode cX11_parts 126 = .ok (.getfield 253, 3) := by decide +kernel
theorem dX11_parts_129 : decode cX11_parts 129 = .ok (.bipush 44, 2) := by decide +kernel
theorem dX11_parts_131 : decode cX11_parts 131 = .ok (.if_icmp .ne 7, 3) := by decide +kernel
theorem dX11_parts_134 : decode cX11_parts 134 = .ok (.iconst 1, 1) := by decide +kernel
theorem dX11_parts_135 : decode cX11_parts 135 = .ok (.goto 4, 3) := by decide +kernel
theorem dX11_parts_138 : decode cX11_parts 138 = .ok (.iconst 0, 1) := by decide +kernel
theorem dX11_parts_139 : decode cX11_parts 139 = .ok (.istore 6, 2) := by decide +kernel
theorem dX11_parts_141 : decode cX11_parts 141 = .ok (.iload 6, 2) := by decide +kernel
theorem dX11_parts_143 : decode cX11_parts 143 = .ok (.ifCond .eq 7, 3) := by decide +kernel
theorem dX11_parts_146 : decode cX11_parts 146 = .ok (.aload_n 0, 1) := by decide +kernel
theorem dX11_parts_147 : decode cX11_parts 147 = .ok (.invokevirtual 275, 3) := by decide +kernel
theorem dX11_parts_150 : decode cX11_parts 150 = .ok (.goto (-117), 3) := by decide +kernel
theorem dX11_parts_153 : decode cX11_parts 153 = .ok (.aload_n 0, 1) := by decide +kernel
theorem dX11_parts_154 : decode cX11_parts 154 = .ok (.getfield 253, 3) := by decide +kernel
theorem dX11_parts_157 : decode cX11_parts 157 = .ok (.bipush 125, 2) := by decide +kernel
theorem dX11_parts_159 : decode cX11_parts 159 = .ok (.if_icmp .eq 9, 3) := by decide +kernel
theorem dX11_parts_162 : decode cX11_parts 162 = .ok (.aload_n 0, 1) := by decide +kernel
theorem dX11_parts_163 : decode cX11_parts 163 = .ok (.iconst 1, 1) := by decide +kernel
theorem dX11_parts_164 : decode cX11_parts 164 = .ok (.invokevirtual 272, 3) := by decide +kernel
theorem dX11_parts_167 : decode cX11_parts 167 = .ok (.ireturn, 1) := by decide +kernel
theorem dX11_parts_168 : decode cX11_parts 168 = .ok (.iconst 0, 1) := by decide +kernel
theorem dX11_parts_169 : decode cX11_parts 169 = .ok (.istore 7, 2) := by decide +kernel
theorem dX11_parts_171 : decode cX11_parts 171 = .ok (.iload 7, 2) := by decide +kernel
theorem dX11_parts_173 : decode cX11_parts 173 = .ok (.aload_n 0, 1) := by decide +kernel
theorem dX11_parts_174 : decode cX11_parts 174 = .ok (.getfield 42, 3) := by decide +kernel
theorem dX11_parts_177 : decode cX11_parts 177 = .ok (.iload 5, 2) := by decide +kernel
theorem dX11_parts_179 : decode cX11_parts 179 = .ok (.iaload, 1) := by decide +kernel
theorem dX11_parts_180 : decode cX11_parts 180 = .ok (.if_icmp .ge 59, 3) := by decide +kernel
theorem dX11_parts_183 : decode cX11_parts 183 = .ok (.aload_n 0, 1) := by decide +kernel
theorem dX11_parts_184 : decode cX11_parts 184 = .ok (.iload 4, 2) := by decide +kernel
theorem dX11_parts_186 : decode cX11_parts 186 = .ok (.iload 7, 2) := by decide +kernel
theorem dX11_parts_188 : decode cX11_parts 188 = .ok (.invokevirtual 441, 3) := by decide +kernel
theorem dX11_parts_191 : decode cX11_parts 191 = .ok (.ifCond .ne 42, 3) := by decide +kernel
theorem dX11_parts_194 : decode cX11_parts 194 = .ok (.aload_n 0, 1) := by decide +kernel
theorem dX11_parts_195 : decode cX11_parts 195 = .ok (.getfield 57, 3) := by decide +kernel
theorem dX11_parts_198 : decode cX11_parts 198 = .ok (.bipush 8, 2) := by decide +kernel
theorem dX11_parts_200 : decode cX11_parts 200 = .ok (.iload 5, 2) := by decide +kernel
theorem dX11_parts_202 : decode cX11_parts 202 = .ok (.imul, 1) := by decide +kernel
theorem dX11_parts_203 : decode cX11_parts 203 = .ok (.iload 7, 2) := by decide +kernel
theorem dX11_parts_205 : decode cX11_parts 205 = .ok (.iadd, 1) := by decide +kernel
theorem dX11_parts_206 : decode cX11_parts 206 = .ok (.baload, 1) := by decide +kernel
theorem dX11_parts_207 : decode cX11_parts 207 = .ok (.ifCond .ne 10, 3) := by decide +kernel
theorem dX11_parts_210 : decode cX11_parts 210 = .ok (.aload_n 0, 1) := by decide +kernel
theorem dX11_parts_211 : decode cX11_parts 211 = .ok (.bipush 6, 2) := by decide +kernel
theorem dX11_parts_213 : decode cX11_parts 213 = .ok (.invokevirtual 272, 3) := by decide +kernel
theorem dX11_parts_216 : decode cX11_parts 216 = .ok (.ireturn, 1) := by decide +kernel
theorem dX11_parts_217 : decode cX11_parts 217 = .ok (.aload_n 0, 1) := by decide +kernel
theorem dX11_parts_218 : decode cX11_parts 218 = .ok (.bipush 8, 2) := by decide +kernel
theorem dX11_parts_220 : decode cX11_parts 220 = .ok (.iload 5, 2) := by decide +kernel
theorem dX11_parts_222 : decode cX11_parts 222 = .ok (.imul, 1) := by decide +kernel
theorem dX11_parts_223 : decode cX11_parts 223 = .ok (.iload 7, 2) := by decide +kernel
theorem dX11_parts_225 : decode cX11_parts 225 = .ok (.iadd, 1) := by decide +kernel
theorem dX11_parts_226 : decode cX11_parts 226 = .ok (.iload 4, 2) := by decide +kernel
theorem dX11_parts_228 : decode cX11_parts 228 = .ok (.iload 7, 2) := by decide +kernel
theorem dX11_parts_230 : decode cX11_parts 230 = .ok (.invokevirtual 444, 3) := by decide +kernel
theorem dX11_parts_233 : decode cX11_parts 233 = .ok (.iinc 7 1, 3) := by decide +kernel
theorem dX11_parts_236 : decode cX11_parts 236 = .ok (.goto (-65), 3) := by decide +kernel
theorem dX11_parts_239 : decode cX11_parts 239 = .ok (.aload_n 0, 1) := by decide +kernel
theorem dX11_parts_240 : decode cX11_parts 240 = .ok (.invokevirtual 275, 3) := by decide +kernel
theorem dX11_parts_243 : decode cX11_parts 243 = .ok (.iconst 1, 1) := by decide +kernel
theorem dX11_parts_244 : decode cX11_parts 244 = .ok (.ireturn, 1) := by decide +kernel
theorem dX11_puts_0 : decode cX11_puts 0 = .ok (.bipush 24, 2) := by decide +kernel
theorem dX11_puts_2 : decode cX11_puts 2 = .ok (.istore_n 2, 1) := by decide +kernel
theorem dX11_puts_3 : decode cX11_puts 3 = .ok (.iload_n 2, 1) := by decide +kernel
theorem dX11_puts_4 : decode cX11_puts 4 = .ok (.ifCond .lt 32, 3) := by decide +kernel
theorem dX11_puts_7 : decode cX11_puts 7 = .ok (.aload_n 0, 1) := by decide +kernel
theorem dX11_puts_8 : decode cX11_puts 8 = .ok (.getfield 7, 3) := by decide +kernel
theorem dX11_puts_11 : decode cX11_puts 11 = .ok (.aload_n 0, 1) := by decide +kernel
theorem dX11_puts_12 : decode cX11_puts 12 = .ok (.getfield 182, 3) := by decide +kernel
theorem dX11_puts_15 : decode cX11_puts 15 = .ok (.iload_n 1, 1) := by decide +kernel
theorem dX11_puts_16 : decode cX11_puts 16 = .ok (.iload_n 2, 1) := by decide +kernel
theorem dX11_puts_17 : decode cX11_puts 17 = .ok (.ishr, 1) := by decide +kernel
theorem dX11_puts_18 : decode cX11_puts 18 = .ok (.i2b, 1) := by decide +kernel
theorem dX11_puts_19 : decode cX11_puts 19 = .ok (.bastore, 1) := by decide +kernel
theorem dX11_puts_20 : decode cX11_puts 20 = .ok (.aload_n 0, 1) := by decide +kernel
theorem dX11_puts_21 : decode cX11_puts 21 = .ok (.dup, 1) := by decide +kernel
theorem dX11_puts_22 : decode cX11_puts 22 = .ok (.getfield 182, 3) := by decide +kernel
theorem dX11_puts_25 : decode cX11_puts 25 = .ok (.iconst 1, 1) := by decide +kernel
theorem dX11_puts_26 : decode cX11_puts 26 = .ok (.iadd, 1) := by decide +kernel
theorem dX11_puts_27 : decode cX11_puts 27 = .ok (.putfield 182, 3) := by decide +kernel
theorem dX11_puts_30 : decode cX11_puts 30 = .ok (.iinc 2 (-8), 3) := by decide +kernel
theorem dX11_puts_33 : decode cX11_puts 33 = .ok (.goto (-30), 3) := by decide +kernel
theorem dX11_puts_36 : decode cX11_puts 36 = .ok (.return_, 1) := by decide +kernel
theorem dX11_recordIn_0 : decode cX11_recordIn 0 = .ok (.iload_n 1, 1) := by decide +kernel
theorem dX11_recordIn_1 : decode cX11_recordIn 1 = .ok (.istore_n 2, 1) := by decide +kernel
theorem dX11_recordIn_2 : decode cX11_recordIn 2 = .ok (.aload_n 0, 1) := by decide +kernel
theorem dX11_recordIn_3 : decode cX11_recordIn 3 = .ok (.getfield 13, 3) := by decide +kernel
theorem dX11_recordIn_6 : decode cX11_recordIn 6 = .ok (.iload_n 2, 1) := by decide +kernel
theorem dX11_recordIn_7 : decode cX11_recordIn 7 = .ok (.iaload, 1) := by decide +kernel
theorem dX11_recordIn_8 : decode cX11_recordIn 8 = .ok (.bipush 6, 2) := by decide +kernel
theorem dX11_recordIn_10 : decode cX11_recordIn 10 = .ok (.if_icmp .ne 13, 3) := by decide +kernel
theorem dX11_recordIn_13 : decode cX11_recordIn 13 = .ok (.aload_n 0, 1) := by decide +kernel
theorem dX11_recordIn_14 : decode cX11_recordIn 14 = .ok (.getfield 17, 3) := by decide +kernel
theorem dX11_recordIn_17 : decode cX11_recordIn 17 = .ok (.iload_n 2, 1) := by decide +kernel
theorem dX11_recordIn_18 : decode cX11_recordIn 18 = .ok (.iaload, 1) := by decide +kernel
theorem dX11_recordIn_19 : decode cX11_recordIn 19 = .ok (.istore_n 2, 1) := by decide +kernel
theorem dX11_recordIn_20 : decode cX11_recordIn 20 = .ok (.goto (-18), 3) := by decide +kernel
theorem dX11_recordIn_23 : decode cX11_recordIn 23 = .ok (.aload_n 0, 1) := by decide +kernel
theorem dX11_recordIn_24 : decode cX11_recordIn 24 = .ok (.getfield 13, 3) := by decide +kernel
theorem dX11_recordIn_27 : decode cX11_recordIn 27 = .ok (.iload_n 2, 1) := by decide +kernel
theorem dX11_recordIn_28 : decode cX11_recordIn 28 = .ok (.iaload, 1) := by decide +kernel
theorem dX11_recordIn_29 : decode cX11_recordIn 29 = .ok (.bipush 7, 2) := by decide +kernel
theorem dX11_recordIn_31 : decode cX11_recordIn 31 = .ok (.if_icmp .ne 12, 3) := by decide +kernel
theorem dX11_recordIn_34 : decode cX11_recordIn 34 = .ok (.aload_n 0, 1) := by decide +kernel
theorem dX11_recordIn_35 : decode cX11_recordIn 35 = .ok (.getfield 17, 3) := by decide +kernel
theorem dX11_recordIn_38 : decode cX11_recordIn 38 = .ok (.iload_n 2, 1) := by decide +kernel
theorem dX11_recordIn_39 : decode cX11_recordIn 39 = .ok (.iaload, 1) := by decide +kernel
theorem dX11_recordIn_40 : decode cX11_recordIn 40 = .ok (.goto 4, 3) := by decide +kernel
theorem dX11_recordIn_43 : decode cX11_recordIn 43 = .ok (.iconst (-1), 1) := by decide +kernel
theorem dX11_recordIn_44 : decode cX11_recordIn 44 = .ok (.ireturn, 1) := by decide +kernel
theorem dX11_value_0 : decode cX11_value 0 = .ok (.aload_n 0, 1) := by decide +kernel
theorem dX11_value_1 : decode cX11_value 1 = .ok (.getfield 13, 3) := by decide +kernel
theorem dX11_value_4 : decode cX11_value 4 = .ok (.iload_n 2, 1) := by decide +kernel
theorem dX11_value_5 : decode cX11_value 5 = .ok (.iaload, 1) := by decide +kernel
theorem dX11_value_6 : decode cX11_value 6 = .ok (.bipush 8, 2) := by decide +kernel
theorem dX11_value_8 : decode cX11_value 8 = .ok (.if_icmp .ne 11, 3) := by decide +kernel
theorem dX11_value_11 : decode cX11_value 11 = .ok (.aload_n 0, 1) := by decide +kernel
theorem dX11_value_12 : decode cX11_value 12 = .ok (.iload_n 2, 1) := by decide +kernel
theorem dX11_value_13 : decode cX11_value 13 = .ok (.invokevirtual 424, 3) := by decide +kernel
theorem dX11_value_16 : decode cX11_value 16 = .ok (.goto 4, 3) := by decide +kernel
theorem dX11_value_19 : decode cX11_value 19 = .ok (.iconst (-1), 1) := by decide +kernel
theorem dX11_value_20 : decode cX11_value 20 = .ok (.istore 6, 2) := by decide +kernel
theorem dX11_value_22 : decode cX11_value 22 = .ok (.iload 6, 2) := by decide +kernel
theorem dX11_value_24 : decode cX11_value 24 = .ok (.ifCond .ge 7, 3) := by decide +kernel
theorem dX11_value_27 : decode cX11_value 27 = .ok (.iload_n 2, 1) := by decide +kernel
theorem dX11_value_28 : decode cX11_value 28 = .ok (.goto 14, 3) := by decide +kernel
theorem dX11_value_31 : decode cX11_value 31 = .ok (.aload_n 0, 1) := by decide +kernel
theorem dX11_value_32 : decode cX11_value 32 = .ok (.getfield 23, 3) := by decide +kernel
theorem dX11_value_35 : decode cX11_value 35 = .ok (.iconst 4, 1) := by decide +kernel
theorem dX11_value_36 : decode cX11_value 36 = .ok (.iload_n 2, 1) := by decide +kernel
theorem dX11_value_37 : decode cX11_value 37 = .ok (.imul, 1) := by decide +kernel
theorem dX11_value_38 : decode cX11_value 38 = .ok (.iload 6, 2) := by decide +kernel
theorem dX11_value_40 : decode cX11_value 40 = .ok (.iadd, 1) := by decide +kernel
theorem dX11_value_41 : decode cX11_value 41 = .ok (.iaload, 1) := by decide +kernel
theorem dX11_value_42 : decode cX11_value 42 = .ok (.istore 7, 2) := by decide +kernel
theorem dX11_value_44 : decode cX11_value 44 = .ok (.aload_n 0, 1) := by decide +kernel
theorem dX11_value_45 : decode cX11_value 45 = .ok (.invokevirtual 427, 3) := by decide +kernel
theorem dX11_value_48 : decode cX11_value 48 = .ok (.ifCond .ne 7, 3) := by decide +kernel
theorem dX11_value_51 : decode cX11_value 51 = .ok (.iconst 1, 1) := by decide +kernel
theorem dX11_value_52 : decode cX11_value 52 = .ok (.goto 52, 3) := by decide +kernel
theorem dX11_value_55 : decode cX11_value 55 = .ok (.aload_n 0, 1) := by decide +kernel
theorem dX11_value_56 : decode cX11_value 56 = .ok (.iload 7, 2) := by decide +kernel
theorem dX11_value_58 : decode cX11_value 58 = .ok (.invokevirtual 345, 3) := by decide +kernel
theorem dX11_value_61 : decode cX11_value 61 = .ok (.ifCond .ne 7, 3) := by decide +kernel
theorem dX11_value_64 : decode cX11_value 64 = .ok (.iconst 2, 1) := by decide +kernel
theorem dX11_value_65 : decode cX11_value 65 = .ok (.goto 39, 3) := by decide +kernel
theorem dX11_value_68 : decode cX11_value 68 = .ok (.iload_n 3, 1) := by decide +kernel
theorem dX11_value_69 : decode cX11_value 69 = .ok (.bipush 31, 2) := by decide +kernel
theorem dX11_value_71 : decode cX11_value 71 = .ok (.if_icmp .ge 28, 3) := by decide +kernel
theorem dX11_value_74 : decode cX11_value 74 = .ok (.iload 5, 2) := by decide +kernel
theorem dX11_value_76 : decode cX11_value 76 = .ok (.sipush 200, 3) := by decide +kernel
theorem dX11_value_79 : decode cX11_value 79 = .ok (.if_icmp .lt 24, 3) := by decide +kernel
theorem dX11_value_82 : decode cX11_value 82 = .ok (.iload 4, 2) := by decide +kernel
theorem dX11_value_84 : decode cX11_value 84 = .ok (.ifCond .lt 19, 3) := by decide +kernel
theorem dX11_value_87 : decode cX11_value 87 = .ok (.aload_n 0, 1) := by decide +kernel
theorem dX11_value_88 : decode cX11_value 88 = .ok (.getfield 70, 3) := by decide +kernel
theorem dX11_value_91 : decode cX11_value 91 = .ok (.iload 4, 2) := by decide +kernel
theorem dX11_value_93 : decode cX11_value 93 = .ok (.iaload, 1) := by decide +kernel
theorem dX11_value_94 : decode cX11_value 94 = .ok (.bipush 6, 2) := by decide +kernel
theorem dX11_value_96 : decode cX11_value 96 = .ok (.if_icmp .ne 7, 3) := by decide +kernel
theorem dX11_value_99 : decode cX11_value 99 = .ok (.iconst 4, 1) := by decide +kernel
theorem dX11_value_100 : decode cX11_value 100 = .ok (.goto 4, 3) := by decide +kernel
theorem dX11_value_103 : decode cX11_value 103 = .ok (.iconst 0, 1) := by decide +kernel
theorem dX11_value_104 : decode cX11_value 104 = .ok (.istore 8, 2) := by decide +kernel
theorem dX11_value_106 : decode cX11_value 106 = .ok (.iload 8, 2) := by decide +kernel
theorem dX11_value_108 : decode cX11_value 108 = .ok (.ifCond .le 10, 3) := by decide +kernel
theorem dX11_value_111 : decode cX11_value 111 = .ok (.aload_n 0, 1) := by decide +kernel
theorem dX11_value_112 : decode cX11_value 112 = .ok (.iload 8, 2) := by decide +kernel
theorem dX11_value_114 : decode cX11_value 114 = .ok (.invokevirtual 272, 3) := by decide +kernel
theorem dX11_value_117 : decode cX11_value 117 = .ok (.ireturn, 1) := by decide +kernel
theorem dX11_value_118 : decode cX11_value 118 = .ok (.aload_n 0, 1) := by decide +kernel
theorem dX11_value_119 : decode cX11_value 119 = .ok (.aload_n 0, 1) := by decide +kernel
theorem dX11_value_120 : decode cX11_value 120 = .ok (.getfield 13, 3) := by decide +kernel
theorem dX11_value_123 : decode cX11_value 123 = .ok (.iload 7, 2) := by decide +kernel
theorem dX11_value_125 : decode cX11_value 125 = .ok (.iaload, 1) := by decide +kernel
theorem dX11_value_126 : decode cX11_value 126 = .ok (.iload 4, 2) := by decide +kernel
theorem dX11_value_128 : decode cX11_value 128 = .ok (.iload 5, 2) := by decide +kernel
theorem dX11_value_130 : decode cX11_value 130 = .ok (.iload 6, 2) := by decide +kernel
theorem dX11_value_132 : decode cX11_value 132 = .ok (.invokevirtual 420, 3) := by decide +kernel
theorem dX11_value_135 : decode cX11_value 135 = .ok (.istore 9, 2) := by decide +kernel
theorem dX11_value_137 : decode cX11_value 137 = .ok (.aload_n 0, 1) := by decide +kernel
theorem dX11_value_138 : decode cX11_value 138 = .ok (.getfield 13, 3) := by decide +kernel
theorem dX11_value_141 : decode cX11_value 141 = .ok (.iload 7, 2) := by decide +kernel
theorem dX11_value_143 : decode cX11_value 143 = .ok (.iaload, 1) := by decide +kernel
theorem dX11_value_144 : decode cX11_value 144 = .ok (.bipush 6, 2) := by decide +kernel
theorem dX11_value_146 : decode cX11_value 146 = .ok (.if_icmp .ne 14, 3) := by decide +kernel
theorem dX11_value_149 : decode cX11_value 149 = .ok (.aload_n 0, 1) := by decide +kernel
theorem dX11_value_150 : decode cX11_value 150 = .ok (.iload_n 1, 1) := by decide +kernel
theorem dX11_value_151 : decode cX11_value 151 = .ok (.iload 7, 2) := by decide +kernel
theorem dX11_value_153 : decode cX11_value 153 = .ok (.iload_n 3, 1) := by decide +kernel
theorem dX11_value_154 : decode cX11_value 154 = .ok (.iload 9, 2) := by decide +kernel
theorem dX11_value_156 : decode cX11_value 156 = .ok (.invokevirtual 430, 3) := by decide +kernel
theorem dX11_value_159 : decode cX11_value 159 = .ok (.ireturn, 1) := by decide +kernel
theorem dX11_value_160 : decode cX11_value 160 = .ok (.aload_n 0, 1) := by decide +kernel
theorem dX11_value_161 : decode cX11_value 161 = .ok (.getfield 13, 3) := by decide +kernel
theorem dX11_value_164 : decode cX11_value 164 = .ok (.iload 7, 2) := by decide +kernel
theorem dX11_value_166 : decode cX11_value 166 = .ok (.iaload, 1) := by decide +kernel
theorem dX11_value_167 : decode cX11_value 167 = .ok (.bipush 7, 2) := by decide +kernel
theorem dX11_value_169 : decode cX11_value 169 = .ok (.if_icmp .ne 14, 3) := by decide +kernel
theorem dX11_value_172 : decode cX11_value 172 = .ok (.aload_n 0, 1) := by decide +kernel
theorem dX11_value_173 : decode cX11_value 173 = .ok (.iload_n 1, 1) := by decide +kernel
theorem dX11_value_174 : decode cX11_value 174 = .ok (.iload 7, 2) := by decide +kernel
theorem dX11_value_176 : decode cX11_value 176 = .ok (.iload_n 3, 1) := by decide +kernel
theorem dX11_value_177 : decode cX11_value 177 = .ok (.iload 9, 2) := by decide +kernel
theorem dX11_value_179 : decode cX11_value 179 = .ok (.invokevirtual 434, 3) := by decide +kernel
theorem dX11_value_182 : decode cX11_value 182 = .ok (.ireturn, 1) := by decide +kernel
theorem dX11_value_183 : decode cX11_value 183 = .ok (.aload_n 0, 1) := by decide +kernel
theorem dX11_value_184 : decode cX11_value 184 = .ok (.getfield 73, 3) := by decide +kernel
theorem dX11_value_187 : decode cX11_value 187 = .ok (.iload 9, 2) := by decide +kernel
theorem dX11_value_189 : decode cX11_value 189 = .ok (.aload_n 0, 1) := by decide +kernel
theorem dX11_value_190 : decode cX11_value 190 = .ok (.iload 7, 2) := by decide +kernel
theorem dX11_value_192 : decode cX11_value 192 = .ok (.invokevirtual 348, 3) := by decide +kernel
theorem dX11_value_195 : decode cX11_value 195 = .ok (.lastore, 1) := by decide +kernel
theorem dX11_value_196 : decode cX11_value 196 = .ok (.aload_n 0, 1) := by decide +kernel
theorem dX11_value_197 : decode cX11_value 197 = .ok (.getfield 76, 3) := by decide +kernel
theorem dX11_value_200 : decode cX11_value 200 = .ok (.iload 9, 2) := by decide +kernel
theorem dX11_value_202 : decode cX11_value 202 = .ok (.aload_n 0, 1) := by decide +kernel
theorem dX11_value_203 : decode cX11_value 203 = .ok (.getfield 13, 3) := by decide +kernel
theorem dX11_value_206 : decode cX11_value 206 = .ok (.iload 7, 2) := by decide +kernel
theorem dX11_value_208 : decode cX11_value 208 = .ok (.iaload, 1) := by decide +kernel
theorem dX11_value_209 : decode cX11_value 209 = .ok (.iconst 5, 1) := by decide +kernel
theorem dX11_value_210 : decode cX11_value 210 = .ok (.if_icmp .ne 10, 3) := by decide +kernel
theorem dX11_value_213 : decode cX11_value 213 = .ok (.aload_n 0, 1) := by decide +kernel
theorem dX11_value_214 : decode cX11_value 214 = .ok (.getfield 204, 3) := by decide +kernel
theorem dX11_value_217 : decode cX11_value 217 = .ok (.goto 4, 3) := by decide +kernel
theorem dX11_value_220 : decode cX11_value 220 = .ok (.lconst 0, 1) := by decide +kernel
theorem dX11_value_221 : decode cX11_value 221 = .ok (.lastore, 1) := by decide +kernel
theorem dX11_value_222 : decode cX11_value 222 = .ok (.aload_n 0, 1) := by decide +kernel
theorem dX11_value_223 : decode cX11_value 223 = .ok (.getfield 79, 3) := by decide +kernel
theorem dX11_value_226 : decode cX11_value 226 = .ok (.iload 9, 2) := by decide +kernel
theorem dX11_value_228 : decode cX11_value 228 = .ok (.aload_n 0, 1) := by decide +kernel
theorem dX11_value_229 : decode cX11_value 229 = .ok (.getfield 13, 3) := by decide +kernel
theorem dX11_value_232 : decode cX11_value 232 = .ok (.iload 7, 2) := by decide +kernel
theorem dX11_value_234 : decode cX11_value 234 = .ok (.iaload, 1) := by decide +kernel
theorem dX11_value_235 : decode cX11_value 235 = .ok (.iconst 5, 1) := by decide +kernel
theorem dX11_value_236 : decode cX11_value 236 = .ok (.if_icmp .ne 10, 3) := by decide +kernel
theorem dX11_value_239 : decode cX11_value 239 = .ok (.aload_n 0, 1) := by decide +kernel
theorem dX11_value_240 : decode cX11_value 240 = .ok (.getfield 208, 3) := by decide +kernel
theorem dX11_value_243 : decode cX11_value 243 = .ok (.goto 4, 3) := by decide +kernel
theorem dX11_value_246 : decode cX11_value 246 = .ok (.iconst 0, 1) := by decide +kernel
theorem dX11_value_247 : decode cX11_value 247 = .ok (.iastore, 1) := by decide +kernel
theorem dX11_value_248 : decode cX11_value 248 = .ok (.aload_n 0, 1) := by decide +kernel
theorem dX11_value_249 : decode cX11_value 249 = .ok (.invokevirtual 275, 3) := by decide +kernel
theorem dX11_value_252 : decode cX11_value 252 = .ok (.iconst 1, 1) := by decide +kernel
theorem dX11_value_253 : decode cX11_value 253 = .ok (.ireturn, 1) := by decide +kernel
def f_X11_failureStep (p0 : Int32) (σ : ST) : Option (Int32 × ST) := if ((stI σ 0 0 0).1 0 81) ≤ 0 then (some ((-1), (stI σ 0 0 0))) else ((f_X11_within  (p0.toInt64) 0 ((((stI σ 0 0 0).1 0 83) - 1).toInt64) (stI σ 0 0 0)).bind fun q1 => if q1.1 = 0 then (some ((-1), q1.2)) else (if 0 ≤ p0.toInt ∧ p0.toInt < 256 then (some ((q1.2.1 49 p0.toNatClampNeg), q1.2)) else none))

set_option maxRecDepth 100000 in
set_option maxHeartbeats 4000000 in
theorem b_X11_failureStep_e {p : Program} {l : Launch} {e : Env} {s : State} {m : MethodId} {args : Array Value} {below : List Frame} {meth : Method} {c : Code} {dC : Nat → ClassId} {dI : Nat → Nat → Nat} {a : Nat → Nat} {k : Nat → ClassId} {A : Nat → Prop} {q : Int32 × ST} (hC : CxB p s m args meth c dC dI k A cX11_failureStep RX11 (some .int) 2)   {p0 : Int32} {σ : ST} (h : f_X11_failureStep  p0 σ = some q) : GoB p l e ({ frames := 1, cells := 0, slots := 0, locals := 25 } : Room) s m args below meth c (MQ below (qBi dC dI a k A q) args s 0 0 A) dC dI a k A 2 0 σ (lv_args 0 [.ref (a 0), .int p0]) [] := by
  have hC0 := hC
  obtain ⟨hx, hb, hr, hml, hown, hts, hlocks, hA, hN, hK⟩ := hC0
  intro H locs ls hP hD hS hl
  have hD0 : ∀ σ1 : ST, va_D A (wB a k σ1) := fun σ1 => wB_D hD
  replace hl : lv_has ls 2 [(0, .ref (a 0)), (1, .int p0)] := hl
  unfold f_X11_failureStep at h
  refine lv_aload_n hx hb dX11_failureStep_0 rfl (lv_at hl 0 rfl) ?_
  refine lv_iconst (v := 0) hx hb dX11_failureStep_1 (by decide) ?_
  refine va_put (D := (dC, dI)) (ci := 11) (ty := .int) (C := RX11) (T := TX11) (N := 95) hx hb hts inlX11 tyX11 tyX11_ok nmX11 hown hK hP hD hS 0 gB_0 rfl 0 (by decide) (hts (.fieldLink RX11 178 "ShapeReaderModel" "thrown" "I") mw_28_22) (fun _ h9 => h9) rfl (by decide +kernel) rfl rfl (Nat.le_of_ble_eq_true rfl) dX11_failureStep_2 (fun H locs hP hD hS => ?_)
  replace hP := uB_0_0 hP
  replace hD := hD0 ((stI σ 0 0 0))
  refine lv_aload_n hx hb dX11_failureStep_5 rfl (lv_at hl 0 rfl) ?_
  refine va_get (D := (dC, dI)) (ci := 11) (C := RX11) (T := TX11) (N := 95) hx hb hts inlX11 hown hK hP 0 gB_0 rfl 81 (by decide) (hts (.fieldLink RX11 395 "ShapeReaderModel" "failureKind" "I") mw_33_18) (fun _ h9 => h9) rfl dX11_failureStep_6 ?_
  refine lv_if_le (tgt := 37) hx hb dX11_failureStep_9 (by decide) (fun hc => ?_) (fun hc => ?_)
  · replace h := ip hc h
    refine lv_iconst (v := (-1)) hx hb dX11_failureStep_37 (by decide) ?_
    obtain rfl := Option.some.inj h
    exact W.iret hx hb hr (fun t ht hW => ⟨⟨_, (), rfl, rfl, ⟨by rw [ht]; exact hP, va_K.moved hW.alike hK, hD⟩⟩, hS.F ht⟩) hS.2.2 dX11_failureStep_38
  · replace h := iq hc h
    refine lv_iload_n hx hb dX11_failureStep_12 rfl (lv_at hl 1 rfl) ?_
    refine lv_i2l (v := p0.toInt64) hx hb dX11_failureStep_13 rfl ?_
    refine lv_lconst (v := 0) hx hb dX11_failureStep_14 (by decide) ?_
    refine lv_aload_n hx hb dX11_failureStep_15 rfl (lv_at hl 0 rfl) ?_
    refine va_get (D := (dC, dI)) (ci := 11) (C := RX11) (T := TX11) (N := 95) hx hb hts inlX11 hown hK hP 0 gB_0 rfl 83 (by decide) (hts (.fieldLink RX11 621 "ShapeReaderModel" "failureSteps" "I") mw_39_7) (fun _ h9 => h9) rfl dX11_failureStep_16 ?_
    refine lv_iconst (v := 1) hx hb dX11_failureStep_19 (by decide) ?_
    refine lv_isub hx hb dX11_failureStep_20 ?_
    refine lv_i2l (v := (((stI σ 0 0 0).1 0 83) - 1).toInt64) hx hb dX11_failureStep_21 rfl ?_
    obtain ⟨q1, hc, h⟩ := ib h
    have hF := va_frees hD hS hA
    refine va_calli (va_runS (As := [.long (p0.toInt64), .long 0, .long ((((stI σ 0 0 0).1 0 83) - 1).toInt64)]) (rest := []) ⟨hx, hb, hml, hown, hts⟩ (s_X11_within hc) (va_cwS 3 hts (gS mw_29_0 mw_29_1 mw_0_15 mw_53_26) rfl rfl rfl (by decide +kernel) ⟨(Nat.le_of_ble_eq_true rfl), (Nat.le_of_ble_eq_true rfl)⟩) (vS hK hP hD hN) rfl rfl hl.1 rfl (lv_room (Nat.le_of_ble_eq_true rfl)) dX11_failureStep_22 ⟨(Nat.le_of_ble_eq_true rfl), (Nat.le_of_ble_eq_true rfl)⟩) hS (fun q _ h => hF q h) hF (fun r2 u t H locs ht hvm hw hB _ _ hS => ?_)
    obtain rfl : r2 = q1.1 := hw
    replace hP : va_P (dC, dI) vwCl (wB a k q1.2) H := by rw [← ht]; exact hB.1
    replace hD := hD0 (q1.2)
    clear hB hF
    refine lv_if_eq (tgt := 37) hx hb dX11_failureStep_25 (by decide) (fun hc => ?_) (fun hc => ?_)
    · replace h := ip hc h
      refine lv_iconst (v := (-1)) hx hb dX11_failureStep_37 (by decide) ?_
      obtain rfl := Option.some.inj h
      exact W.iret hx hb hr (fun t ht hW => ⟨⟨_, (), rfl, rfl, ⟨by rw [ht]; exact hP, va_K.moved hW.alike hK, hD⟩⟩, hS.F ht⟩) hS.2.2 dX11_failureStep_38
    · replace h := iq hc h
      refine lv_aload_n hx hb dX11_failureStep_28 rfl (lv_at hl 0 rfl) ?_
      refine va_get (D := (dC, dI)) (ci := 11) (C := RX11) (T := TX11) (N := 95) hx hb hts inlX11 hown hK hP 0 gB_0 rfl 84 (by decide) (hts (.fieldLink RX11 157 "ShapeReaderModel" "failurePath" "[I") mw_28_15) (fun _ h9 => h9) rfl dX11_failureStep_29 ?_
      refine lv_iload_n hx hb dX11_failureStep_32 rfl (lv_at hl 1 rfl) ?_
      obtain ⟨hg3, h⟩ := ig h
      refine va_iald hx hb hK hP 49 48 gB_49 yB_49 (vp_in_iff.mpr hg3) dX11_failureStep_33 ?_
      refine lv_goto (tgt := 38) hx hb dX11_failureStep_34 (by decide) ?_
      obtain rfl := Option.some.inj h
      exact W.iret hx hb hr (fun t ht hW => ⟨⟨_, (), rfl, rfl, ⟨by rw [ht]; exact hP, va_K.moved hW.alike hK, hD⟩⟩, hS.F ht⟩) hS.2.2 dX11_failureStep_38

theorem s_X11_failureStep {l : Launch} {dC : Nat → ClassId} {dI : Nat → Nat → Nat} {a : Nat → Nat} {k : Nat → ClassId} {sz : Nat} {p0 : Int32} {σ : ST} {q : Int32 × ST} (h : f_X11_failureStep  p0 σ = some q) : Met l yX11_failureStep (.code yX11_failureStep cX11_failureStep 2 (some .int) :: pw) ({ frames := 1, cells := 0, slots := 0, locals := 25 } : Room) (va_Pc [.ref (a 0), .int p0] (vPre dC dI (wB a k σ) (tB k) sz)) (qBi dC dI a k (va_A (wB a k σ) sz) q) 0 0 (va_A (wB a k σ) sz) := metB (fun A => qBi dC dI a k A q) (plainFor_of_name (by decide)) (Nat.le_of_ble_eq_true rfl) (fun _ _ _ _ _ _ _ _ hC => b_X11_failureStep_e hC h)

def f_X11_puts_3  : Nat → Int32 → Int32 → ST → Option (ST)
  | 0, _, _, _ => none
  | n + 1, x1, x2, σ => if x2 < 0 then (some σ) else (if 0 ≤ (σ.1 0 2).toInt ∧ (σ.1 0 2).toInt < 1000 then ((some (stI (stI σ 1 (σ.1 0 2).toNatClampNeg (vp_nar .byte ((x1 >>> (x2 &&& 31)).toInt8.toInt32))) 0 2 (((stI σ 1 (σ.1 0 2).toNatClampNeg (vp_nar .byte ((x1 >>> (x2 &&& 31)).toInt8.toInt32))).1 0 2) + 1))).bind fun z2 => f_X11_puts_3  n x1 (x2 + (-8)) z2) else none)
def f_X11_puts (p0 : Int32) (σ : ST) : Option (ST) := f_X11_puts_3  FU p0 24 σ

set_option maxRecDepth 100000 in
set_option maxHeartbeats 4000000 in
theorem b_X11_puts_3 {p : Program} {l : Launch} {e : Env} {s : State} {m : MethodId} {args : Array Value} {below : List Frame} {meth : Method} {c : Code} {dC : Nat → ClassId} {dI : Nat → Nat → Nat} {a : Nat → Nat} {k : Nat → ClassId} {A : Nat → Prop} {q : ST} (hC : CxB p s m args meth c dC dI k A cX11_puts RX11 none 3)   : ∀ (n : Nat) (x1 : Int32) (x2 : Int32) (σ : ST), f_X11_puts_3  n x1 x2 σ = some q → GoB p l e ({ frames := 0, cells := 0, slots := 0, locals := 0 } : Room) s m args below meth c (MQ below (qBv dC dI a k A q) args s 0 0 A) dC dI a k A 3 3 σ [(0, .ref (a 0)), (1, .int x1), (2, .int x2)] [] := by
  intro n
  induction n with
  | zero =>
    intro x1 x2 σ h
    rw [f_X11_puts_3] at h
    cases h
  | succ n ih =>
    intro x1 x2 σ h
    have hC0 := hC
    obtain ⟨hx, hb, hr, hml, hown, hts, hlocks, hA, hN, hK⟩ := hC0
    intro H locs ls hP hD hS hl
    have hD0 : ∀ σ1 : ST, va_D A (wB a k σ1) := fun σ1 => wB_D hD
    rw [f_X11_puts_3] at h
    refine lv_iload_n hx hb dX11_puts_3 rfl (lv_at hl 2 rfl) ?_
    refine lv_if_lt (tgt := 36) hx hb dX11_puts_4 (by decide) (fun hc => ?_) (fun hc => ?_)
    · replace h := ip hc h
      obtain rfl := Option.some.inj h
      exact W.vret hx hb hr (fun t ht hW => ⟨⟨(), rfl, trivial, ⟨by rw [ht]; exact hP, va_K.moved hW.alike hK, hD⟩⟩, hS.F ht⟩) hS.2.2 dX11_puts_36
    · replace h := iq hc h
      refine lv_aload_n hx hb dX11_puts_7 rfl (lv_at hl 0 rfl) ?_
      refine va_get (D := (dC, dI)) (ci := 11) (C := RX11) (T := TX11) (N := 95) hx hb hts inlX11 hown hK hP 0 gB_0 rfl 1 (by decide) (hts (.fieldLink RX11 7 "ShapeReaderModel" "tape" "[B") mw_26_27) (fun _ h9 => h9) rfl dX11_puts_8 ?_
      refine lv_aload_n hx hb dX11_puts_11 rfl (lv_at hl 0 rfl) ?_
      refine va_get (D := (dC, dI)) (ci := 11) (C := RX11) (T := TX11) (N := 95) hx hb hts inlX11 hown hK hP 0 gB_0 rfl 2 (by decide) (hts (.fieldLink RX11 182 "ShapeReaderModel" "taped" "I") mw_28_23) (fun _ h9 => h9) rfl dX11_puts_12 ?_
      refine lv_iload_n hx hb dX11_puts_15 rfl (lv_at hl 1 rfl) ?_
      refine lv_iload_n hx hb dX11_puts_16 rfl (lv_at hl 2 rfl) ?_
      refine lv_ishr hx hb dX11_puts_17 ?_
      refine lv_i2b (v := (x1 >>> (x2 &&& 31)).toInt8.toInt32) hx hb dX11_puts_18 rfl ?_
      obtain ⟨hg1, h⟩ := ig h
      refine va_bast hx hb hK hP hD hS 1 0 gB_1 yB_1 (vp_in_iff.mpr hg1) dX11_puts_19 (fun H locs hP hD hS => ?_)
      replace hP := uB_1 hP
      replace hD := hD0 ((stI σ 1 (σ.1 0 2).toNatClampNeg (vp_nar .byte ((x1 >>> (x2 &&& 31)).toInt8.toInt32))))
      refine lv_aload_n hx hb dX11_puts_20 rfl (lv_at hl 0 rfl) ?_
      refine lv_dup hx hb dX11_puts_21 rfl ?_
      refine va_get (D := (dC, dI)) (ci := 11) (C := RX11) (T := TX11) (N := 95) hx hb hts inlX11 hown hK hP 0 gB_0 rfl 2 (by decide) (hts (.fieldLink RX11 182 "ShapeReaderModel" "taped" "I") mw_28_23) (fun _ h9 => h9) rfl dX11_puts_22 ?_
      refine lv_iconst (v := 1) hx hb dX11_puts_25 (by decide) ?_
      refine lv_iadd hx hb dX11_puts_26 ?_
      refine va_put (D := (dC, dI)) (ci := 11) (ty := .int) (C := RX11) (T := TX11) (N := 95) hx hb hts inlX11 tyX11 tyX11_ok nmX11 hown hK hP hD hS 0 gB_0 rfl 2 (by decide) (hts (.fieldLink RX11 182 "ShapeReaderModel" "taped" "I") mw_28_23) (fun _ h9 => h9) rfl (by decide +kernel) rfl rfl (Nat.le_of_ble_eq_true rfl) dX11_puts_27 (fun H locs hP hD hS => ?_)
      replace hP := uB_0_2 hP
      replace hD := hD0 ((stI (stI σ 1 (σ.1 0 2).toNatClampNeg (vp_nar .byte ((x1 >>> (x2 &&& 31)).toInt8.toInt32))) 0 2 (((stI σ 1 (σ.1 0 2).toNatClampNeg (vp_nar .byte ((x1 >>> (x2 &&& 31)).toInt8.toInt32))).1 0 2) + 1)))
      obtain ⟨z2, hs, h⟩ := ib h
      replace hs := Option.some.inj hs
      replace hP : va_P (dC, dI) vwCl (wB a k z2) H := by rw [← hs]; exact hP
      replace hD := hD0 z2
      clear hs
      refine lv_iinc (v := (x2 + (-8))) (lv' := [(2, .int (x2 + (-8))), (0, .ref (a 0)), (1, .int x1)]) hx hb dX11_puts_30 hl (k := 2) rfl rfl (by decide) rfl (fun ls hl => ?_)
      refine lv_goto (tgt := 3) hx hb dX11_puts_33 (by decide) ?_
      exact ih _ _ _ h _ _ _ hP hD hS (lv_sub hl [1, 2, 0] rfl)

set_option maxRecDepth 100000 in
set_option maxHeartbeats 4000000 in
theorem b_X11_puts_e {p : Program} {l : Launch} {e : Env} {s : State} {m : MethodId} {args : Array Value} {below : List Frame} {meth : Method} {c : Code} {dC : Nat → ClassId} {dI : Nat → Nat → Nat} {a : Nat → Nat} {k : Nat → ClassId} {A : Nat → Prop} {q : ST} (hC : CxB p s m args meth c dC dI k A cX11_puts RX11 none 3)   {p0 : Int32} {σ : ST} (h : f_X11_puts  p0 σ = some q) : GoB p l e ({ frames := 0, cells := 0, slots := 0, locals := 0 } : Room) s m args below meth c (MQ below (qBv dC dI a k A q) args s 0 0 A) dC dI a k A 3 0 σ (lv_args 0 [.ref (a 0), .int p0]) [] := by
  have hC0 := hC
  obtain ⟨hx, hb, hr, hml, hown, hts, hlocks, hA, hN, hK⟩ := hC0
  intro H locs ls hP hD hS hl
  have hD0 : ∀ σ1 : ST, va_D A (wB a k σ1) := fun σ1 => wB_D hD
  replace hl : lv_has ls 3 [(0, .ref (a 0)), (1, .int p0)] := hl
  unfold f_X11_puts at h
  refine lv_bipush (v := 24) hx hb dX11_puts_0 (by decide) ?_
  refine lv_istore_n (lv' := [(2, .int 24), (0, .ref (a 0)), (1, .int p0)]) hx hb dX11_puts_2 rfl hl (by decide) rfl (fun ls hl => ?_)
  exact b_X11_puts_3 hC FU _ _ _ h _ _ _ hP hD hS (lv_sub hl [1, 2, 0] rfl)

theorem s_X11_puts {l : Launch} {dC : Nat → ClassId} {dI : Nat → Nat → Nat} {a : Nat → Nat} {k : Nat → ClassId} {sz : Nat} {p0 : Int32} {σ : ST} {q : ST} (h : f_X11_puts  p0 σ = some q) : Met l yX11_puts (.code yX11_puts cX11_puts 3 none :: pw) ({ frames := 0, cells := 0, slots := 0, locals := 0 } : Room) (va_Pc [.ref (a 0), .int p0] (vPre dC dI (wB a k σ) (tB k) sz)) (qBv dC dI a k (va_A (wB a k σ) sz) q) 0 0 (va_A (wB a k σ) sz) := metB (fun A => qBv dC dI a k A q) (plainFor_of_name (by decide)) (Nat.le_of_ble_eq_true rfl) (fun _ _ _ _ _ _ _ _ hC => b_X11_puts_e hC h)

def f_X11_feed (p0 : Int32) (p1 : Int32) (p2 : Int32) (p3 : Int32) (p4 : Int32) (σ : ST) : Option (Int32 × ST) := if (((stI σ 0 0 0).1 0 2) + 20) ≤ 1000 then ((f_X11_puts  p0 (stI σ 0 0 0)).bind fun q1 => (f_X11_puts  p1 q1).bind fun q3 => (f_X11_puts  p2 q3).bind fun q5 => (f_X11_puts  p3 q5).bind fun q7 => (f_X11_puts  p4 q7).bind fun q9 => some ((q9.1 0 2), q9)) else (some ((-1), (stI σ 0 0 0)))

set_option maxRecDepth 100000 in
set_option maxHeartbeats 4000000 in
theorem b_X11_feed_e {p : Program} {l : Launch} {e : Env} {s : State} {m : MethodId} {args : Array Value} {below : List Frame} {meth : Method} {c : Code} {dC : Nat → ClassId} {dI : Nat → Nat → Nat} {a : Nat → Nat} {k : Nat → ClassId} {A : Nat → Prop} {q : Int32 × ST} (hC : CxB p s m args meth c dC dI k A cX11_feed RX11 (some .int) 6)   {p0 : Int32} {p1 : Int32} {p2 : Int32} {p3 : Int32} {p4 : Int32} {σ : ST} (h : f_X11_feed  p0 p1 p2 p3 p4 σ = some q) : GoB p l e ({ frames := 1, cells := 0, slots := 0, locals := 22 } : Room) s m args below meth c (MQ below (qBi dC dI a k A q) args s 0 0 A) dC dI a k A 6 0 σ (lv_args 0 [.ref (a 0), .int p0, .int p1, .int p2, .int p3, .int p4]) [] := by
  have hC0 := hC
  obtain ⟨hx, hb, hr, hml, hown, hts, hlocks, hA, hN, hK⟩ := hC0
  intro H locs ls hP hD hS hl
  have hD0 : ∀ σ1 : ST, va_D A (wB a k σ1) := fun σ1 => wB_D hD
  replace hl : lv_has ls 6 [(0, .ref (a 0)), (1, .int p0), (2, .int p1), (3, .int p2), (4, .int p3), (5, .int p4)] := hl
  unfold f_X11_feed at h
  refine lv_aload_n hx hb dX11_feed_0 rfl (lv_at hl 0 rfl) ?_
  refine lv_iconst (v := 0) hx hb dX11_feed_1 (by decide) ?_
  refine va_put (D := (dC, dI)) (ci := 11) (ty := .int) (C := RX11) (T := TX11) (N := 95) hx hb hts inlX11 tyX11 tyX11_ok nmX11 hown hK hP hD hS 0 gB_0 rfl 0 (by decide) (hts (.fieldLink RX11 178 "ShapeReaderModel" "thrown" "I") mw_28_22) (fun _ h9 => h9) rfl (by decide +kernel) rfl rfl (Nat.le_of_ble_eq_true rfl) dX11_feed_2 (fun H locs hP hD hS => ?_)
  replace hP := uB_0_0 hP
  replace hD := hD0 ((stI σ 0 0 0))
  refine lv_aload_n hx hb dX11_feed_5 rfl (lv_at hl 0 rfl) ?_
  refine va_get (D := (dC, dI)) (ci := 11) (C := RX11) (T := TX11) (N := 95) hx hb hts inlX11 hown hK hP 0 gB_0 rfl 2 (by decide) (hts (.fieldLink RX11 182 "ShapeReaderModel" "taped" "I") mw_28_23) (fun _ h9 => h9) rfl dX11_feed_6 ?_
  refine lv_bipush (v := 20) hx hb dX11_feed_9 (by decide) ?_
  refine lv_iadd hx hb dX11_feed_11 ?_
  refine lv_sipush (v := 1000) hx hb dX11_feed_12 (by decide) ?_
  refine lv_icmp_le (tgt := 20) hx hb dX11_feed_15 (by decide) (fun hc => ?_) (fun hc => ?_)
  · replace h := ip hc h
    refine lv_aload_n hx hb dX11_feed_20 rfl (lv_at hl 0 rfl) ?_
    refine lv_iload_n hx hb dX11_feed_21 rfl (lv_at hl 1 rfl) ?_
    obtain ⟨q1, hc, h⟩ := ib h
    have hF := va_frees hD hS hA
    refine va_callv (va_runV (As := [.int p0]) (rest := []) ⟨hx, hb, hml, hown, hts⟩ (s_X11_puts hc) (cwV 1 hts (gV mw_28_24 mw_28_25 mw_28_26 mw_0_15 mw_53_28) rfl rfl rfl (by decide +kernel) ⟨(Nat.le_of_ble_eq_true rfl), (Nat.le_of_ble_eq_true rfl)⟩) (vV (ci := 11) (q0 := 0) hK hP hD hN rfl gB_0) rfl rfl hl.1 rfl (lv_room (Nat.le_of_ble_eq_true rfl)) dX11_feed_22 ⟨(Nat.le_of_ble_eq_true rfl), (Nat.le_of_ble_eq_true rfl)⟩) hS (fun q _ h => hF q h) hF (fun u t H locs ht hvm hw hB _ _ hS => ?_)
    replace hP : va_P (dC, dI) vwCl (wB a k q1) H := by rw [← ht]; exact hB.1
    replace hD := hD0 (q1)
    clear hB hF
    refine lv_aload_n hx hb dX11_feed_25 rfl (lv_at hl 0 rfl) ?_
    refine lv_iload_n hx hb dX11_feed_26 rfl (lv_at hl 2 rfl) ?_
    obtain ⟨q3, hc, h⟩ := ib h
    have hF := va_frees hD hS hA
    refine va_callv (va_runV (As := [.int p1]) (rest := []) ⟨hx, hb, hml, hown, hts⟩ (s_X11_puts hc) (cwV 1 hts (gV mw_28_24 mw_28_25 mw_28_26 mw_0_15 mw_53_28) rfl rfl rfl (by decide +kernel) ⟨(Nat.le_of_ble_eq_true rfl), (Nat.le_of_ble_eq_true rfl)⟩) (vV (ci := 11) (q0 := 0) hK hP hD hN rfl gB_0) rfl rfl hl.1 rfl (lv_room (Nat.le_of_ble_eq_true rfl)) dX11_feed_27 ⟨(Nat.le_of_ble_eq_true rfl), (Nat.le_of_ble_eq_true rfl)⟩) hS (fun q _ h => hF q h) hF (fun u t H locs ht hvm hw hB _ _ hS => ?_)
    replace hP : va_P (dC, dI) vwCl (wB a k q3) H := by rw [← ht]; exact hB.1
    replace hD := hD0 (q3)
    clear hB hF
    refine lv_aload_n hx hb dX11_feed_30 rfl (lv_at hl 0 rfl) ?_
    refine lv_iload_n hx hb dX11_feed_31 rfl (lv_at hl 3 rfl) ?_
    obtain ⟨q5, hc, h⟩ := ib h
    have hF := va_frees hD hS hA
    refine va_callv (va_runV (As := [.int p2]) (rest := []) ⟨hx, hb, hml, hown, hts⟩ (s_X11_puts hc) (cwV 1 hts (gV mw_28_24 mw_28_25 mw_28_26 mw_0_15 mw_53_28) rfl rfl rfl (by decide +kernel) ⟨(Nat.le_of_ble_eq_true rfl), (Nat.le_of_ble_eq_true rfl)⟩) (vV (ci := 11) (q0 := 0) hK hP hD hN rfl gB_0) rfl rfl hl.1 rfl (lv_room (Nat.le_of_ble_eq_true rfl)) dX11_feed_32 ⟨(Nat.le_of_ble_eq_true rfl), (Nat.le_of_ble_eq_true rfl)⟩) hS (fun q _ h => hF q h) hF (fun u t H locs ht hvm hw hB _ _ hS => ?_)
    replace hP : va_P (dC, dI) vwCl (wB a k q5) H := by rw [← ht]; exact hB.1
    replace hD := hD0 (q5)
    clear hB hF
    refine lv_aload_n hx hb dX11_feed_35 rfl (lv_at hl 0 rfl) ?_
    refine lv_iload hx hb dX11_feed_36 (lv_at hl 4 rfl) ?_
    obtain ⟨q7, hc, h⟩ := ib h
    have hF := va_frees hD hS hA
    refine va_callv (va_runV (As := [.int p3]) (rest := []) ⟨hx, hb, hml, hown, hts⟩ (s_X11_puts hc) (cwV 1 hts (gV mw_28_24 mw_28_25 mw_28_26 mw_0_15 mw_53_28) rfl rfl rfl (by decide +kernel) ⟨(Nat.le_of_ble_eq_true rfl), (Nat.le_of_ble_eq_true rfl)⟩) (vV (ci := 11) (q0 := 0) hK hP hD hN rfl gB_0) rfl rfl hl.1 rfl (lv_room (Nat.le_of_ble_eq_true rfl)) dX11_feed_38 ⟨(Nat.le_of_ble_eq_true rfl), (Nat.le_of_ble_eq_true rfl)⟩) hS (fun q _ h => hF q h) hF (fun u t H locs ht hvm hw hB _ _ hS => ?_)
    replace hP : va_P (dC, dI) vwCl (wB a k q7) H := by rw [← ht]; exact hB.1
    replace hD := hD0 (q7)
    clear hB hF
    refine lv_aload_n hx hb dX11_feed_41 rfl (lv_at hl 0 rfl) ?_
    refine lv_iload hx hb dX11_feed_42 (lv_at hl 5 rfl) ?_
    obtain ⟨q9, hc, h⟩ := ib h
    have hF := va_frees hD hS hA
    refine va_callv (va_runV (As := [.int p4]) (rest := []) ⟨hx, hb, hml, hown, hts⟩ (s_X11_puts hc) (cwV 1 hts (gV mw_28_24 mw_28_25 mw_28_26 mw_0_15 mw_53_28) rfl rfl rfl (by decide +kernel) ⟨(Nat.le_of_ble_eq_true rfl), (Nat.le_of_ble_eq_true rfl)⟩) (vV (ci := 11) (q0 := 0) hK hP hD hN rfl gB_0) rfl rfl hl.1 rfl (lv_room (Nat.le_of_ble_eq_true rfl)) dX11_feed_44 ⟨(Nat.le_of_ble_eq_true rfl), (Nat.le_of_ble_eq_true rfl)⟩) hS (fun q _ h => hF q h) hF (fun u t H locs ht hvm hw hB _ _ hS => ?_)
    replace hP : va_P (dC, dI) vwCl (wB a k q9) H := by rw [← ht]; exact hB.1
    replace hD := hD0 (q9)
    clear hB hF
    refine lv_aload_n hx hb dX11_feed_47 rfl (lv_at hl 0 rfl) ?_
    refine va_get (D := (dC, dI)) (ci := 11) (C := RX11) (T := TX11) (N := 95) hx hb hts inlX11 hown hK hP 0 gB_0 rfl 2 (by decide) (hts (.fieldLink RX11 182 "ShapeReaderModel" "taped" "I") mw_28_23) (fun _ h9 => h9) rfl dX11_feed_48 ?_
    obtain rfl := Option.some.inj h
    exact W.iret hx hb hr (fun t ht hW => ⟨⟨_, (), rfl, rfl, ⟨by rw [ht]; exact hP, va_K.moved hW.alike hK, hD⟩⟩, hS.F ht⟩) hS.2.2 dX11_feed_51
  · replace h := iq hc h
    refine lv_iconst (v := (-1)) hx hb dX11_feed_18 (by decide) ?_
    obtain rfl := Option.some.inj h
    exact W.iret hx hb hr (fun t ht hW => ⟨⟨_, (), rfl, rfl, ⟨by rw [ht]; exact hP, va_K.moved hW.alike hK, hD⟩⟩, hS.F ht⟩) hS.2.2 dX11_feed_19

theorem s_X11_feed {l : Launch} {dC : Nat → ClassId} {dI : Nat → Nat → Nat} {a : Nat → Nat} {k : Nat → ClassId} {sz : Nat} {p0 : Int32} {p1 : Int32} {p2 : Int32} {p3 : Int32} {p4 : Int32} {σ : ST} {q : Int32 × ST} (h : f_X11_feed  p0 p1 p2 p3 p4 σ = some q) : Met l yX11_feed (.code yX11_feed cX11_feed 6 (some .int) :: pw) ({ frames := 1, cells := 0, slots := 0, locals := 22 } : Room) (va_Pc [.ref (a 0), .int p0, .int p1, .int p2, .int p3, .int p4] (vPre dC dI (wB a k σ) (tB k) sz)) (qBi dC dI a k (va_A (wB a k σ) sz) q) 0 0 (va_A (wB a k σ) sz) := metB (fun A => qBi dC dI a k A q) (plainFor_of_name (by decide)) (Nat.le_of_ble_eq_true rfl) (fun _ _ _ _ _ _ _ _ hC => b_X11_feed_e hC h)

def f_X11_field_190 (x1 : Int32) (x2 : Int32) (x3 : Int64) (σ : ST) : Option ((Int32 × ST) × Nat) := if 0 ≤ x2.toInt ∧ x2.toInt < 576 then (if 0 ≤ x1.toInt ∧ x1.toInt < 72 then ((some (stI (stL σ 12 x2.toNatClampNeg x3) 11 x1.toNatClampNeg (((stL σ 12 x2.toNatClampNeg x3).1 11 x1.toNatClampNeg) + 1))).bind fun z3 => some ((1, z3), 0)) else none) else none
def f_X11_field_169 (x1 : Int32) (x2 : Int32) (x3 : Int64) (σ : ST) : Option ((Int32 × ST) × Nat) := (f_X11_isElse   σ).bind fun q1 => ac q1.2 (if q1.1.1 = 0 then (f_X11_field_190  x1 x2 x3 q1.1.2) else ((f_X11_go   q1.1.2).bind fun q3 => (f_X11_elseOf  x2 q3).bind fun q5 => ac q5.2 (if q5.1.1 = 0 then (some ((0, q5.1.2), 0)) else (f_X11_field_190  x1 x2 x3 q5.1.2))))
def f_X11_field (p0 : Int32) (σ : ST) : Option ((Int32 × ST) × Nat) := (f_X11_isName   σ).bind fun q1 => ac q1.2 (if q1.1.1 = 0 then ((f_X11_wrongHere  1 q1.1.2).bind fun q28 => if q28.1 = 0 ∨ q28.1 = 1 then some ((q28.1, q28.2), 0) else none) else ((f_X11_fieldOf  p0 (q1.1.2.2.1 0 7) q1.1.2).bind fun q3 => if q3.1 < 0 then (if 0 ≤ p0.toInt ∧ p0.toInt < 72 then (if (q3.2.1 11 p0.toNatClampNeg) = 8 then ((f_X11_wrongHere  4 q3.2).bind fun q24 => if q24.1 = 0 ∨ q24.1 = 1 then some ((q24.1, q24.2), 0) else none) else (if 0 ≤ ((8 * p0) + (q3.2.1 11 p0.toNatClampNeg)).toInt ∧ ((8 * p0) + (q3.2.1 11 p0.toNatClampNeg)).toInt < 576 then ((some (stL (stI q3.2 13 ((8 * p0) + (q3.2.1 11 p0.toNatClampNeg)).toNatClampNeg (q3.2.1 0 8)) 14 ((8 * p0) + (q3.2.1 11 p0.toNatClampNeg)).toNatClampNeg 0)).bind fun z7 => (f_X11_go   (stI z7 16 ((8 * p0) + (q3.2.1 11 p0.toNatClampNeg)).toNatClampNeg (vp_nar .boolean 0))).bind fun q8 => (f_T_X11_type  0 (-1) q8).bind fun q10 => ac q10.2 (if 0 ≤ ((stI q10.1.2 15 ((8 * p0) + (q3.2.1 11 p0.toNatClampNeg)).toNatClampNeg q10.1.1).1 15 ((8 * p0) + (q3.2.1 11 p0.toNatClampNeg)).toNatClampNeg) then ((f_X11_isWas   (stI q10.1.2 15 ((8 * p0) + (q3.2.1 11 p0.toNatClampNeg)).toNatClampNeg q10.1.1)).bind fun q12 => ac q12.2 (if q12.1.1 = 0 then (f_X11_field_169  p0 ((8 * p0) + (q3.2.1 11 p0.toNatClampNeg)) (q3.2.2.1 0 7) q12.1.2) else ((f_X11_go   q12.1.2).bind fun q14 => (f_X11_isName   q14).bind fun q16 => ac q16.2 (if q16.1.1 = 0 then ((f_X11_wrongHere  1 q16.1.2).bind fun q22 => if q22.1 = 0 ∨ q22.1 = 1 then some ((q22.1, q22.2), 0) else none) else (if (lg_cmp (q16.1.2.2.1 0 7) (q3.2.2.1 0 7)) = 0 then ((f_X11_wrongHere  3 q16.1.2).bind fun q20 => if q20.1 = 0 ∨ q20.1 = 1 then some ((q20.1, q20.2), 0) else none) else ((f_X11_go   (stL q16.1.2 14 ((8 * p0) + (q3.2.1 11 p0.toNatClampNeg)).toNatClampNeg (q16.1.2.2.1 0 7))).bind fun q18 => f_X11_field_169  p0 ((8 * p0) + (q3.2.1 11 p0.toNatClampNeg)) (q3.2.2.1 0 7) q18)))))) else (some ((0, (stI q10.1.2 15 ((8 * p0) + (q3.2.1 11 p0.toNatClampNeg)).toNatClampNeg q10.1.1)), 0)))) else none)) else none) else ((f_X11_wrongHere  3 q3.2).bind fun q26 => if q26.1 = 0 ∨ q26.1 = 1 then some ((q26.1, q26.2), 0) else none)))

set_option maxRecDepth 100000 in
set_option maxHeartbeats 4000000 in
theorem b_X11_field_190 {p : Program} {l : Launch} {e : Env} {s : State} {m : MethodId} {args : Array Value} {below : List Frame} {meth : Method} {c : Code} {dC : Nat → ClassId} {dI : Nat → Nat → Nat} {a : Nat → Nat} {k : Nat → ClassId} {A : Nat → Prop} {q : Int32 × ST} {T r κ : Nat} (hC : CxB p s m args meth c dC dI k A cX11_field RX11 (some .boolean) 5)   {x1 : Int32} {x2 : Int32} {x3 : Int64} {σ : ST} (h : f_X11_field_190  x1 x2 x3 σ = some (q, r)) (hκ : κ + r = T) : GkB p l e ({ frames := 346, cells := T, slots := 6 * T, locals := 8633 } : Room) s m args below meth c (MQ below (qBi dC dI a k A q) args s T (6 * T) A) dC dI a k A 5 190 κ σ [(0, .ref (a 0)), (1, .int x1), (2, .int x2), (3, .long x3)] [] := by
  have hC0 := hC
  obtain ⟨hx, hb, hr, hml, hown, hts, hlocks, hA, hN, hK⟩ := hC0
  intro H locs ls hP hD hS hl
  have hD0 : ∀ σ1 : ST, va_D A (wB a k σ1) := fun σ1 => wB_D hD
  unfold f_X11_field_190 at h
  refine lv_aload_n hx hb dX11_field_190 rfl (lv_at hl 0 rfl) ?_
  refine va_get (D := (dC, dI)) (ci := 11) (C := RX11) (T := TX11) (N := 95) hx hb hts inlX11 hown hK hP 0 gB_0 rfl 24 (by decide) (hts (.fieldLink RX11 45 "ShapeReaderModel" "fieldName" "[J") mw_27_8) (fun _ h9 => h9) rfl dX11_field_191 ?_
  refine lv_iload_n hx hb dX11_field_194 rfl (lv_at hl 2 rfl) ?_
  refine lv_lload_n hx hb dX11_field_195 rfl (lv_at hl 3 rfl) ?_
  obtain ⟨hg1, h⟩ := ig h
  refine va_last hx hb hK hP hD hS 12 11 gB_12 yB_12 (vp_in_iff.mpr hg1) dX11_field_196 (fun H locs hP hD hS => ?_)
  replace hP := uB_12 hP
  replace hD := hD0 ((stL σ 12 x2.toNatClampNeg x3))
  refine lv_aload_n hx hb dX11_field_197 rfl (lv_at hl 0 rfl) ?_
  refine va_get (D := (dC, dI)) (ci := 11) (C := RX11) (T := TX11) (N := 95) hx hb hts inlX11 hown hK hP 0 gB_0 rfl 23 (by decide) (hts (.fieldLink RX11 42 "ShapeReaderModel" "fieldMany" "[I") mw_27_7) (fun _ h9 => h9) rfl dX11_field_198 ?_
  refine lv_iload_n hx hb dX11_field_201 rfl (lv_at hl 1 rfl) ?_
  refine lv_dup2_11 hx hb dX11_field_202 rfl rfl ?_
  obtain ⟨hg2, h⟩ := ig h
  refine va_iald hx hb hK hP 11 10 gB_11 yB_11 (vp_in_iff.mpr hg2) dX11_field_203 ?_
  refine lv_iconst (v := 1) hx hb dX11_field_204 (by decide) ?_
  refine lv_iadd hx hb dX11_field_205 ?_
  refine va_iast hx hb hK hP hD hS 11 10 gB_11 yB_11 (vp_in_iff.mpr hg2) dX11_field_206 (fun H locs hP hD hS => ?_)
  replace hP := uB_11 hP
  replace hD := hD0 ((stI (stL σ 12 x2.toNatClampNeg x3) 11 x1.toNatClampNeg (((stL σ 12 x2.toNatClampNeg x3).1 11 x1.toNatClampNeg) + 1)))
  obtain ⟨z3, hs, h⟩ := ib h
  replace hs := Option.some.inj hs
  replace hP : va_P (dC, dI) vwCl (wB a k z3) H := by rw [← hs]; exact hP
  replace hD := hD0 z3
  clear hs
  refine lv_iconst (v := 1) hx hb dX11_field_207 (by decide) ?_
  obtain ⟨rfl, rfl⟩ := Prod.mk.inj (Option.some.inj h)
  subst hκ
  exact W.zret hx hb hr rfl (fun t ht hW => ⟨⟨_, (), rfl, rfl, ⟨by rw [ht]; exact hP, va_K.moved hW.alike hK, hD⟩⟩, hS.F ht⟩) hS.2.2 dX11_field_208

set_option maxRecDepth 100000 in
set_option maxHeartbeats 4000000 in
theorem b_X11_field_169 {p : Program} {l : Launch} {e : Env} {s : State} {m : MethodId} {args : Array Value} {below : List Frame} {meth : Method} {c : Code} {dC : Nat → ClassId} {dI : Nat → Nat → Nat} {a : Nat → Nat} {k : Nat → ClassId} {A : Nat → Prop} {q : Int32 × ST} {T r κ : Nat} (hC : CxB p s m args meth c dC dI k A cX11_field RX11 (some .boolean) 5)   {x1 : Int32} {x2 : Int32} {x3 : Int64} {σ : ST} (h : f_X11_field_169  x1 x2 x3 σ = some (q, r)) (hκ : κ + r = T) : GkB p l e ({ frames := 346, cells := T, slots := 6 * T, locals := 8633 } : Room) s m args below meth c (MQ below (qBi dC dI a k A q) args s T (6 * T) A) dC dI a k A 5 169 κ σ [(0, .ref (a 0)), (1, .int x1), (2, .int x2), (3, .long x3)] [] := by
  have hC0 := hC
  obtain ⟨hx, hb, hr, hml, hown, hts, hlocks, hA, hN, hK⟩ := hC0
  intro H locs ls hP hD hS hl
  have hD0 : ∀ σ1 : ST, va_D A (wB a k σ1) := fun σ1 => wB_D hD
  unfold f_X11_field_169 at h
  refine lv_aload_n hx hb dX11_field_169 rfl (lv_at hl 0 rfl) ?_
  obtain ⟨q1, hc, h⟩ := ib h
  obtain ⟨r2, h, hz⟩ := acE h
  have hF := va_frees hD hS hA
  refine va_calli (va_runV (As := []) (rest := []) ⟨hx, hb, hml, hown, hts⟩ (s_X11_isElse (q := q1.1) (r := q1.2) hc) (cwV 0 hts (gV mw_31_2 mw_31_3 mw_31_4 mw_0_15 mw_54_16) rfl rfl rfl (by decide +kernel) ⟨(Nat.le_of_ble_eq_true rfl), (Nat.le_of_ble_eq_true rfl)⟩) (vV (ci := 11) (q0 := 0) hK hP hD hN rfl gB_0) rfl rfl hl.1 rfl (lv_room (Nat.le_of_ble_eq_true rfl)) dX11_field_170 ⟨by show κ + q1.2 ≤ T; omega, by show 6 * κ + 6 * q1.2 ≤ 6 * T; omega⟩) hS (fun q _ h => hF q h) hF (fun r2 u t H locs ht hvm hw hB _ _ hS => ?_)
  obtain rfl : r2 = q1.1.1 := hw
  replace hκ : (κ + q1.2) + r2 = T := by omega
  clear hz
  refine W.widen (k := (κ + q1.2)) (n := 6 * (κ + q1.2)) (Nat.le_refl _) (by omega) ?_
  replace hP : va_P (dC, dI) vwCl (wB a k q1.1.2) H := by rw [← ht]; exact hB.1
  replace hD := hD0 (q1.1.2)
  clear hB hF
  refine lv_if_eq (tgt := 190) hx hb dX11_field_173 (by decide) (fun hc => ?_) (fun hc => ?_)
  · replace h := ip hc h
    exact b_X11_field_190 hC h hκ _ _ _ hP hD hS (lv_sub hl [0, 1, 2, 3] rfl)
  · replace h := iq hc h
    refine lv_aload_n hx hb dX11_field_176 rfl (lv_at hl 0 rfl) ?_
    obtain ⟨q3, hc, h⟩ := ib h
    have hF := va_frees hD hS hA
    refine va_callv (va_runV (As := []) (rest := []) ⟨hx, hb, hml, hown, hts⟩ (s_X11_go hc) (cwV 0 hts (gV mw_30_12 mw_30_13 mw_30_14 mw_0_15 mw_54_6) rfl rfl rfl (by decide +kernel) ⟨(Nat.le_of_ble_eq_true rfl), (Nat.le_of_ble_eq_true rfl)⟩) (vV (ci := 11) (q0 := 0) hK hP hD hN rfl gB_0) rfl rfl hl.1 rfl (lv_room (Nat.le_of_ble_eq_true rfl)) dX11_field_177 ⟨by show (κ + q1.2) + 0 ≤ T; omega, by show 6 * (κ + q1.2) + 0 ≤ 6 * T; omega⟩) hS (fun q _ h => hF q h) hF (fun u t H locs ht hvm hw hB _ _ hS => ?_)
    replace hP : va_P (dC, dI) vwCl (wB a k q3) H := by rw [← ht]; exact hB.1
    replace hD := hD0 (q3)
    clear hB hF
    refine lv_aload_n hx hb dX11_field_180 rfl (lv_at hl 0 rfl) ?_
    refine lv_iload_n hx hb dX11_field_181 rfl (lv_at hl 2 rfl) ?_
    obtain ⟨q5, hc, h⟩ := ib h
    obtain ⟨r2, h, hz⟩ := acE h
    have hF := va_frees hD hS hA
    refine va_calli (va_runV (As := [.int x2]) (rest := []) ⟨hx, hb, hml, hown, hts⟩ (s_X11_elseOf (q := q5.1) (r := q5.2) hc) (cwV 1 hts (gV mw_32_19 mw_32_20 mw_32_21 mw_0_15 mw_54_28) rfl rfl rfl (by decide +kernel) ⟨(Nat.le_of_ble_eq_true rfl), (Nat.le_of_ble_eq_true rfl)⟩) (vV (ci := 11) (q0 := 0) hK hP hD hN rfl gB_0) rfl rfl hl.1 rfl (lv_room (Nat.le_of_ble_eq_true rfl)) dX11_field_182 ⟨by show (κ + q1.2) + q5.2 ≤ T; omega, by show 6 * (κ + q1.2) + 6 * q5.2 ≤ 6 * T; omega⟩) hS (fun q _ h => hF q h) hF (fun r6 u t H locs ht hvm hw hB _ _ hS => ?_)
    obtain rfl : r6 = q5.1.1 := hw
    replace hκ : ((κ + q1.2) + q5.2) + r2 = T := by omega
    clear hz
    refine W.widen (k := ((κ + q1.2) + q5.2)) (n := 6 * ((κ + q1.2) + q5.2)) (Nat.le_refl _) (by omega) ?_
    replace hP : va_P (dC, dI) vwCl (wB a k q5.1.2) H := by rw [← ht]; exact hB.1
    replace hD := hD0 (q5.1.2)
    clear hB hF
    refine lv_if_ne (tgt := 190) hx hb dX11_field_185 (by decide) (fun hc => ?_) (fun hc => ?_)
    · replace h := iq hc h
      exact b_X11_field_190 hC h hκ _ _ _ hP hD hS (lv_sub hl [0, 1, 2, 3] rfl)
    · replace h := ip hc h
      refine lv_iconst (v := 0) hx hb dX11_field_188 (by decide) ?_
      obtain ⟨rfl, rfl⟩ := Prod.mk.inj (Option.some.inj h)
      subst hκ
      exact W.zret hx hb hr rfl (fun t ht hW => ⟨⟨_, (), rfl, rfl, ⟨by rw [ht]; exact hP, va_K.moved hW.alike hK, hD⟩⟩, hS.F ht⟩) hS.2.2 dX11_field_189

set_option maxRecDepth 100000 in
set_option maxHeartbeats 4000000 in
theorem b_X11_field_e {p : Program} {l : Launch} {e : Env} {s : State} {m : MethodId} {args : Array Value} {below : List Frame} {meth : Method} {c : Code} {dC : Nat → ClassId} {dI : Nat → Nat → Nat} {a : Nat → Nat} {k : Nat → ClassId} {A : Nat → Prop} {q : Int32 × ST} {T r : Nat} (hC : CxB p s m args meth c dC dI k A cX11_field RX11 (some .boolean) 5)   {p0 : Int32} {σ : ST} (h : f_X11_field  p0 σ = some (q, r)) (hκ : 0 + r = T) : GkB p l e ({ frames := 346, cells := T, slots := 6 * T, locals := 8633 } : Room) s m args below meth c (MQ below (qBi dC dI a k A q) args s T (6 * T) A) dC dI a k A 5 0 0 σ (lv_args 0 [.ref (a 0), .int p0]) [] := by
  have hC0 := hC
  obtain ⟨hx, hb, hr, hml, hown, hts, hlocks, hA, hN, hK⟩ := hC0
  intro H locs ls hP hD hS hl
  have hD0 : ∀ σ1 : ST, va_D A (wB a k σ1) := fun σ1 => wB_D hD
  replace hl : lv_has ls 5 [(0, .ref (a 0)), (1, .int p0)] := hl
  unfold f_X11_field at h
  refine lv_aload_n hx hb dX11_field_0 rfl (lv_at hl 0 rfl) ?_
  obtain ⟨q1, hc, h⟩ := ib h
  obtain ⟨r2, h, hz⟩ := acE h
  have hF := va_frees hD hS hA
  refine va_calli (va_runV (As := []) (rest := []) ⟨hx, hb, hml, hown, hts⟩ (s_X11_isName (q := q1.1) (r := q1.2) hc) (cwV 0 hts (gV mw_31_14 mw_31_15 mw_31_16 mw_0_15 mw_54_20) rfl rfl rfl (by decide +kernel) ⟨(Nat.le_of_ble_eq_true rfl), (Nat.le_of_ble_eq_true rfl)⟩) (vV (ci := 11) (q0 := 0) hK hP hD hN rfl gB_0) rfl rfl hl.1 rfl (lv_room (Nat.le_of_ble_eq_true rfl)) dX11_field_1 ⟨by show 0 + q1.2 ≤ T; omega, by show 6 * 0 + 6 * q1.2 ≤ 6 * T; omega⟩) hS (fun q _ h => hF q h) hF (fun r2 u t H locs ht hvm hw hB _ _ hS => ?_)
  obtain rfl : r2 = q1.1.1 := hw
  replace hκ : (0 + q1.2) + r2 = T := by omega
  clear hz
  refine W.widen (k := (0 + q1.2)) (n := 6 * (0 + q1.2)) (Nat.le_refl _) (by omega) ?_
  replace hP : va_P (dC, dI) vwCl (wB a k q1.1.2) H := by rw [← ht]; exact hB.1
  replace hD := hD0 (q1.1.2)
  clear hB hF
  refine lv_if_ne (tgt := 13) hx hb dX11_field_4 (by decide) (fun hc => ?_) (fun hc => ?_)
  · replace h := iq hc h
    refine lv_aload_n hx hb dX11_field_13 rfl (lv_at hl 0 rfl) ?_
    refine lv_iload_n hx hb dX11_field_14 rfl (lv_at hl 1 rfl) ?_
    refine lv_aload_n hx hb dX11_field_15 rfl (lv_at hl 0 rfl) ?_
    refine va_get (D := (dC, dI)) (ci := 11) (C := RX11) (T := TX11) (N := 95) hx hb hts inlX11 hown hK hP 0 gB_0 rfl 7 (by decide) (hts (.fieldLink RX11 204 "ShapeReaderModel" "letters" "J") mw_29_4) (fun _ h9 => h9) rfl dX11_field_16 ?_
    obtain ⟨q3, hc, h⟩ := ib h
    have hF := va_frees hD hS hA
    refine va_calli (va_runV (As := [.int p0, .long (q1.1.2.2.1 0 7)]) (rest := []) ⟨hx, hb, hml, hown, hts⟩ (s_X11_fieldOf hc) (cwV 2 hts (gV mw_32_16 mw_32_17 mw_32_18 mw_0_15 mw_54_29) rfl rfl rfl (by decide +kernel) ⟨(Nat.le_of_ble_eq_true rfl), (Nat.le_of_ble_eq_true rfl)⟩) (vV (ci := 11) (q0 := 0) hK hP hD hN rfl gB_0) rfl rfl hl.1 rfl (lv_room (Nat.le_of_ble_eq_true rfl)) dX11_field_19 ⟨by show (0 + q1.2) + 0 ≤ T; omega, by show 6 * (0 + q1.2) + 0 ≤ 6 * T; omega⟩) hS (fun q _ h => hF q h) hF (fun r4 u t H locs ht hvm hw hB _ _ hS => ?_)
    obtain rfl : r4 = q3.1 := hw
    replace hP : va_P (dC, dI) vwCl (wB a k q3.2) H := by rw [← ht]; exact hB.1
    replace hD := hD0 (q3.2)
    clear hB hF
    refine lv_if_lt (tgt := 31) hx hb dX11_field_22 (by decide) (fun hc => ?_) (fun hc => ?_)
    · replace h := ip hc h
      refine lv_aload_n hx hb dX11_field_31 rfl (lv_at hl 0 rfl) ?_
      refine va_get (D := (dC, dI)) (ci := 11) (C := RX11) (T := TX11) (N := 95) hx hb hts inlX11 hown hK hP 0 gB_0 rfl 23 (by decide) (hts (.fieldLink RX11 42 "ShapeReaderModel" "fieldMany" "[I") mw_27_7) (fun _ h9 => h9) rfl dX11_field_32 ?_
      refine lv_iload_n hx hb dX11_field_35 rfl (lv_at hl 1 rfl) ?_
      obtain ⟨hg5, h⟩ := ig h
      refine va_iald hx hb hK hP 11 10 gB_11 yB_11 (vp_in_iff.mpr hg5) dX11_field_36 ?_
      refine lv_bipush (v := 8) hx hb dX11_field_37 (by decide) ?_
      refine lv_icmp_ne (tgt := 48) hx hb dX11_field_39 (by decide) (fun hc => ?_) (fun hc => ?_)
      · replace h := iq hc h
        refine lv_bipush (v := 8) hx hb dX11_field_48 (by decide) ?_
        refine lv_iload_n hx hb dX11_field_50 rfl (lv_at hl 1 rfl) ?_
        refine lv_imul hx hb dX11_field_51 ?_
        refine lv_aload_n hx hb dX11_field_52 rfl (lv_at hl 0 rfl) ?_
        refine va_get (D := (dC, dI)) (ci := 11) (C := RX11) (T := TX11) (N := 95) hx hb hts inlX11 hown hK hP 0 gB_0 rfl 23 (by decide) (hts (.fieldLink RX11 42 "ShapeReaderModel" "fieldMany" "[I") mw_27_7) (fun _ h9 => h9) rfl dX11_field_53 ?_
        refine lv_iload_n hx hb dX11_field_56 rfl (lv_at hl 1 rfl) ?_
        refine va_iald hx hb hK hP 11 10 gB_11 yB_11 (vp_in_iff.mpr hg5) dX11_field_57 ?_
        refine lv_iadd hx hb dX11_field_58 ?_
        refine lv_istore_n (lv' := [(2, .int ((8 * p0) + (q3.2.1 11 p0.toNatClampNeg))), (0, .ref (a 0)), (1, .int p0)]) hx hb dX11_field_59 rfl hl (by decide) rfl (fun ls hl => ?_)
        refine lv_aload_n hx hb dX11_field_60 rfl (lv_at hl 1 rfl) ?_
        refine va_get (D := (dC, dI)) (ci := 11) (C := RX11) (T := TX11) (N := 95) hx hb hts inlX11 hown hK hP 0 gB_0 rfl 7 (by decide) (hts (.fieldLink RX11 204 "ShapeReaderModel" "letters" "J") mw_29_4) (fun _ h9 => h9) rfl dX11_field_61 ?_
        refine lv_lstore_n (lv' := [(3, .long (q3.2.2.1 0 7)), (2, .int ((8 * p0) + (q3.2.1 11 p0.toNatClampNeg))), (0, .ref (a 0)), (1, .int p0)]) hx hb dX11_field_64 rfl hl (by decide) rfl (fun ls hl => ?_)
        refine lv_aload_n hx hb dX11_field_65 rfl (lv_at hl 2 rfl) ?_
        refine va_get (D := (dC, dI)) (ci := 11) (C := RX11) (T := TX11) (N := 95) hx hb hts inlX11 hown hK hP 0 gB_0 rfl 25 (by decide) (hts (.fieldLink RX11 48 "ShapeReaderModel" "fieldLetters" "[I") mw_27_9) (fun _ h9 => h9) rfl dX11_field_66 ?_
        refine lv_iload_n hx hb dX11_field_69 rfl (lv_at hl 1 rfl) ?_
        refine lv_aload_n hx hb dX11_field_70 rfl (lv_at hl 2 rfl) ?_
        refine va_get (D := (dC, dI)) (ci := 11) (C := RX11) (T := TX11) (N := 95) hx hb hts inlX11 hown hK hP 0 gB_0 rfl 8 (by decide) (hts (.fieldLink RX11 208 "ShapeReaderModel" "letterMany" "I") mw_29_5) (fun _ h9 => h9) rfl dX11_field_71 ?_
        obtain ⟨hg6, h⟩ := ig h
        refine va_iast hx hb hK hP hD hS 13 12 gB_13 yB_13 (vp_in_iff.mpr hg6) dX11_field_74 (fun H locs hP hD hS => ?_)
        replace hP := uB_13 hP
        replace hD := hD0 ((stI q3.2 13 ((8 * p0) + (q3.2.1 11 p0.toNatClampNeg)).toNatClampNeg (q3.2.1 0 8)))
        refine lv_aload_n hx hb dX11_field_75 rfl (lv_at hl 2 rfl) ?_
        refine va_get (D := (dC, dI)) (ci := 11) (C := RX11) (T := TX11) (N := 95) hx hb hts inlX11 hown hK hP 0 gB_0 rfl 26 (by decide) (hts (.fieldLink RX11 51 "ShapeReaderModel" "fieldWas" "[J") mw_27_10) (fun _ h9 => h9) rfl dX11_field_76 ?_
        refine lv_iload_n hx hb dX11_field_79 rfl (lv_at hl 1 rfl) ?_
        refine lv_lconst (v := 0) hx hb dX11_field_80 (by decide) ?_
        refine va_last hx hb hK hP hD hS 14 13 gB_14 yB_14 (vp_in_iff.mpr hg6) dX11_field_81 (fun H locs hP hD hS => ?_)
        replace hP := uB_14 hP
        replace hD := hD0 ((stL (stI q3.2 13 ((8 * p0) + (q3.2.1 11 p0.toNatClampNeg)).toNatClampNeg (q3.2.1 0 8)) 14 ((8 * p0) + (q3.2.1 11 p0.toNatClampNeg)).toNatClampNeg 0))
        obtain ⟨z7, hs, h⟩ := ib h
        replace hs := Option.some.inj hs
        replace hP : va_P (dC, dI) vwCl (wB a k z7) H := by rw [← hs]; exact hP
        replace hD := hD0 z7
        clear hs
        refine lv_aload_n hx hb dX11_field_82 rfl (lv_at hl 2 rfl) ?_
        refine va_get (D := (dC, dI)) (ci := 11) (C := RX11) (T := TX11) (N := 95) hx hb hts inlX11 hown hK hP 0 gB_0 rfl 28 (by decide) (hts (.fieldLink RX11 57 "ShapeReaderModel" "hasElse" "[Z") mw_27_12) (fun _ h9 => h9) rfl dX11_field_83 ?_
        refine lv_iload_n hx hb dX11_field_86 rfl (lv_at hl 1 rfl) ?_
        refine lv_iconst (v := 0) hx hb dX11_field_87 (by decide) ?_
        refine va_zast hx hb hK hP hD hS 16 15 gB_16 yB_16 (vp_in_iff.mpr hg6) dX11_field_88 (fun H locs hP hD hS => ?_)
        replace hP := uB_16 hP
        replace hD := hD0 ((stI z7 16 ((8 * p0) + (q3.2.1 11 p0.toNatClampNeg)).toNatClampNeg (vp_nar .boolean 0)))
        refine lv_aload_n hx hb dX11_field_89 rfl (lv_at hl 2 rfl) ?_
        obtain ⟨q8, hc, h⟩ := ib h
        have hF := va_frees hD hS hA
        refine va_callv (va_runV (As := []) (rest := []) ⟨hx, hb, hml, hown, hts⟩ (s_X11_go hc) (cwV 0 hts (gV mw_30_12 mw_30_13 mw_30_14 mw_0_15 mw_54_6) rfl rfl rfl (by decide +kernel) ⟨(Nat.le_of_ble_eq_true rfl), (Nat.le_of_ble_eq_true rfl)⟩) (vV (ci := 11) (q0 := 0) hK hP hD hN rfl gB_0) rfl rfl hl.1 rfl (lv_room (Nat.le_of_ble_eq_true rfl)) dX11_field_90 ⟨by show (0 + q1.2) + 0 ≤ T; omega, by show 6 * (0 + q1.2) + 0 ≤ 6 * T; omega⟩) hS (fun q _ h => hF q h) hF (fun u t H locs ht hvm hw hB _ _ hS => ?_)
        replace hP : va_P (dC, dI) vwCl (wB a k q8) H := by rw [← ht]; exact hB.1
        replace hD := hD0 (q8)
        clear hB hF
        refine lv_aload_n hx hb dX11_field_93 rfl (lv_at hl 2 rfl) ?_
        refine va_get (D := (dC, dI)) (ci := 11) (C := RX11) (T := TX11) (N := 95) hx hb hts inlX11 hown hK hP 0 gB_0 rfl 27 (by decide) (hts (.fieldLink RX11 54 "ShapeReaderModel" "fieldType" "[I") mw_27_11) (fun _ h9 => h9) rfl dX11_field_94 ?_
        refine lv_iload_n hx hb dX11_field_97 rfl (lv_at hl 1 rfl) ?_
        refine lv_aload_n hx hb dX11_field_98 rfl (lv_at hl 2 rfl) ?_
        refine lv_iconst (v := 0) hx hb dX11_field_99 (by decide) ?_
        refine lv_iconst (v := (-1)) hx hb dX11_field_100 (by decide) ?_
        obtain ⟨q10, hc, h⟩ := ib h
        obtain ⟨r2, h, hz⟩ := acE h
        have hF := va_frees hD hS hA
        refine va_calli (va_runV (As := [.int 0, .int (-1)]) (rest := [.int ((8 * p0) + (q3.2.1 11 p0.toNatClampNeg)), .ref (a 15)]) ⟨hx, hb, hml, hown, hts⟩ (s_X11_type (q := q10.1) (r := q10.2) hc) (cwV 2 hts (gV mw_31_21 mw_31_22 mw_31_23 mw_0_15 mw_54_22) rfl rfl rfl (by decide +kernel) ⟨(Nat.le_of_ble_eq_true rfl), (Nat.le_of_ble_eq_true rfl)⟩) (vV (ci := 11) (q0 := 0) hK hP hD hN rfl gB_0) rfl rfl hl.1 rfl (lv_room (Nat.le_of_ble_eq_true rfl)) dX11_field_101 ⟨by show (0 + q1.2) + q10.2 ≤ T; omega, by show 6 * (0 + q1.2) + 6 * q10.2 ≤ 6 * T; omega⟩) hS (fun q _ h => hF q h) hF (fun r11 u t H locs ht hvm hw hB _ _ hS => ?_)
        obtain rfl : r11 = q10.1.1 := hw
        replace hκ : ((0 + q1.2) + q10.2) + r2 = T := by omega
        clear hz
        refine W.widen (k := ((0 + q1.2) + q10.2)) (n := 6 * ((0 + q1.2) + q10.2)) (Nat.le_refl _) (by omega) ?_
        replace hP : va_P (dC, dI) vwCl (wB a k q10.1.2) H := by rw [← ht]; exact hB.1
        replace hD := hD0 (q10.1.2)
        clear hB hF
        refine va_iast hx hb hK hP hD hS 15 14 gB_15 yB_15 (vp_in_iff.mpr hg6) dX11_field_104 (fun H locs hP hD hS => ?_)
        replace hP := uB_15 hP
        replace hD := hD0 ((stI q10.1.2 15 ((8 * p0) + (q3.2.1 11 p0.toNatClampNeg)).toNatClampNeg q10.1.1))
        refine lv_aload_n hx hb dX11_field_105 rfl (lv_at hl 2 rfl) ?_
        refine va_get (D := (dC, dI)) (ci := 11) (C := RX11) (T := TX11) (N := 95) hx hb hts inlX11 hown hK hP 0 gB_0 rfl 27 (by decide) (hts (.fieldLink RX11 54 "ShapeReaderModel" "fieldType" "[I") mw_27_11) (fun _ h9 => h9) rfl dX11_field_106 ?_
        refine lv_iload_n hx hb dX11_field_109 rfl (lv_at hl 1 rfl) ?_
        refine va_iald hx hb hK hP 15 14 gB_15 yB_15 (vp_in_iff.mpr hg6) dX11_field_110 ?_
        refine lv_if_ge (tgt := 116) hx hb dX11_field_111 (by decide) (fun hc => ?_) (fun hc => ?_)
        · replace h := ip hc h
          refine lv_aload_n hx hb dX11_field_116 rfl (lv_at hl 2 rfl) ?_
          obtain ⟨q12, hc, h⟩ := ib h
          obtain ⟨r2, h, hz⟩ := acE h
          have hF := va_frees hD hS hA
          refine va_calli (va_runV (As := []) (rest := []) ⟨hx, hb, hml, hown, hts⟩ (s_X11_isWas (q := q12.1) (r := q12.2) hc) (cwV 0 hts (gV mw_30_29 mw_31_0 mw_31_1 mw_0_15 mw_54_15) rfl rfl rfl (by decide +kernel) ⟨(Nat.le_of_ble_eq_true rfl), (Nat.le_of_ble_eq_true rfl)⟩) (vV (ci := 11) (q0 := 0) hK hP hD hN rfl gB_0) rfl rfl hl.1 rfl (lv_room (Nat.le_of_ble_eq_true rfl)) dX11_field_117 ⟨by show ((0 + q1.2) + q10.2) + q12.2 ≤ T; omega, by show 6 * ((0 + q1.2) + q10.2) + 6 * q12.2 ≤ 6 * T; omega⟩) hS (fun q _ h => hF q h) hF (fun r13 u t H locs ht hvm hw hB _ _ hS => ?_)
          obtain rfl : r13 = q12.1.1 := hw
          replace hκ : (((0 + q1.2) + q10.2) + q12.2) + r2 = T := by omega
          clear hz
          refine W.widen (k := (((0 + q1.2) + q10.2) + q12.2)) (n := 6 * (((0 + q1.2) + q10.2) + q12.2)) (Nat.le_refl _) (by omega) ?_
          replace hP : va_P (dC, dI) vwCl (wB a k q12.1.2) H := by rw [← ht]; exact hB.1
          replace hD := hD0 (q12.1.2)
          clear hB hF
          refine lv_if_eq (tgt := 169) hx hb dX11_field_120 (by decide) (fun hc => ?_) (fun hc => ?_)
          · replace h := ip hc h
            exact b_X11_field_169 hC h hκ _ _ _ hP hD hS (lv_sub hl [2, 3, 1, 0] rfl)
          · replace h := iq hc h
            refine lv_aload_n hx hb dX11_field_123 rfl (lv_at hl 2 rfl) ?_
            obtain ⟨q14, hc, h⟩ := ib h
            have hF := va_frees hD hS hA
            refine va_callv (va_runV (As := []) (rest := []) ⟨hx, hb, hml, hown, hts⟩ (s_X11_go hc) (cwV 0 hts (gV mw_30_12 mw_30_13 mw_30_14 mw_0_15 mw_54_6) rfl rfl rfl (by decide +kernel) ⟨(Nat.le_of_ble_eq_true rfl), (Nat.le_of_ble_eq_true rfl)⟩) (vV (ci := 11) (q0 := 0) hK hP hD hN rfl gB_0) rfl rfl hl.1 rfl (lv_room (Nat.le_of_ble_eq_true rfl)) dX11_field_124 ⟨by show (((0 + q1.2) + q10.2) + q12.2) + 0 ≤ T; omega, by show 6 * (((0 + q1.2) + q10.2) + q12.2) + 0 ≤ 6 * T; omega⟩) hS (fun q _ h => hF q h) hF (fun u t H locs ht hvm hw hB _ _ hS => ?_)
            replace hP : va_P (dC, dI) vwCl (wB a k q14) H := by rw [← ht]; exact hB.1
            replace hD := hD0 (q14)
            clear hB hF
            refine lv_aload_n hx hb dX11_field_127 rfl (lv_at hl 2 rfl) ?_
            obtain ⟨q16, hc, h⟩ := ib h
            obtain ⟨r2, h, hz⟩ := acE h
            have hF := va_frees hD hS hA
            refine va_calli (va_runV (As := []) (rest := []) ⟨hx, hb, hml, hown, hts⟩ (s_X11_isName (q := q16.1) (r := q16.2) hc) (cwV 0 hts (gV mw_31_14 mw_31_15 mw_31_16 mw_0_15 mw_54_20) rfl rfl rfl (by decide +kernel) ⟨(Nat.le_of_ble_eq_true rfl), (Nat.le_of_ble_eq_true rfl)⟩) (vV (ci := 11) (q0 := 0) hK hP hD hN rfl gB_0) rfl rfl hl.1 rfl (lv_room (Nat.le_of_ble_eq_true rfl)) dX11_field_128 ⟨by show (((0 + q1.2) + q10.2) + q12.2) + q16.2 ≤ T; omega, by show 6 * (((0 + q1.2) + q10.2) + q12.2) + 6 * q16.2 ≤ 6 * T; omega⟩) hS (fun q _ h => hF q h) hF (fun r17 u t H locs ht hvm hw hB _ _ hS => ?_)
            obtain rfl : r17 = q16.1.1 := hw
            replace hκ : ((((0 + q1.2) + q10.2) + q12.2) + q16.2) + r2 = T := by omega
            clear hz
            refine W.widen (k := ((((0 + q1.2) + q10.2) + q12.2) + q16.2)) (n := 6 * ((((0 + q1.2) + q10.2) + q12.2) + q16.2)) (Nat.le_refl _) (by omega) ?_
            replace hP : va_P (dC, dI) vwCl (wB a k q16.1.2) H := by rw [← ht]; exact hB.1
            replace hD := hD0 (q16.1.2)
            clear hB hF
            refine lv_if_ne (tgt := 140) hx hb dX11_field_131 (by decide) (fun hc => ?_) (fun hc => ?_)
            · replace h := iq hc h
              refine lv_aload_n hx hb dX11_field_140 rfl (lv_at hl 2 rfl) ?_
              refine va_get (D := (dC, dI)) (ci := 11) (C := RX11) (T := TX11) (N := 95) hx hb hts inlX11 hown hK hP 0 gB_0 rfl 7 (by decide) (hts (.fieldLink RX11 204 "ShapeReaderModel" "letters" "J") mw_29_4) (fun _ h9 => h9) rfl dX11_field_141 ?_
              refine lv_lload_n hx hb dX11_field_144 rfl (lv_at hl 0 rfl) ?_
              refine W.lcmp hx hb dX11_field_145 ?_
              refine lv_if_ne (tgt := 155) hx hb dX11_field_146 (by decide) (fun hc => ?_) (fun hc => ?_)
              · replace h := iq hc h
                refine lv_aload_n hx hb dX11_field_155 rfl (lv_at hl 2 rfl) ?_
                refine va_get (D := (dC, dI)) (ci := 11) (C := RX11) (T := TX11) (N := 95) hx hb hts inlX11 hown hK hP 0 gB_0 rfl 26 (by decide) (hts (.fieldLink RX11 51 "ShapeReaderModel" "fieldWas" "[J") mw_27_10) (fun _ h9 => h9) rfl dX11_field_156 ?_
                refine lv_iload_n hx hb dX11_field_159 rfl (lv_at hl 1 rfl) ?_
                refine lv_aload_n hx hb dX11_field_160 rfl (lv_at hl 2 rfl) ?_
                refine va_get (D := (dC, dI)) (ci := 11) (C := RX11) (T := TX11) (N := 95) hx hb hts inlX11 hown hK hP 0 gB_0 rfl 7 (by decide) (hts (.fieldLink RX11 204 "ShapeReaderModel" "letters" "J") mw_29_4) (fun _ h9 => h9) rfl dX11_field_161 ?_
                refine va_last hx hb hK hP hD hS 14 13 gB_14 yB_14 (vp_in_iff.mpr hg6) dX11_field_164 (fun H locs hP hD hS => ?_)
                replace hP := uB_14 hP
                replace hD := hD0 ((stL q16.1.2 14 ((8 * p0) + (q3.2.1 11 p0.toNatClampNeg)).toNatClampNeg (q16.1.2.2.1 0 7)))
                refine lv_aload_n hx hb dX11_field_165 rfl (lv_at hl 2 rfl) ?_
                obtain ⟨q18, hc, h⟩ := ib h
                have hF := va_frees hD hS hA
                refine va_callv (va_runV (As := []) (rest := []) ⟨hx, hb, hml, hown, hts⟩ (s_X11_go hc) (cwV 0 hts (gV mw_30_12 mw_30_13 mw_30_14 mw_0_15 mw_54_6) rfl rfl rfl (by decide +kernel) ⟨(Nat.le_of_ble_eq_true rfl), (Nat.le_of_ble_eq_true rfl)⟩) (vV (ci := 11) (q0 := 0) hK hP hD hN rfl gB_0) rfl rfl hl.1 rfl (lv_room (Nat.le_of_ble_eq_true rfl)) dX11_field_166 ⟨by show ((((0 + q1.2) + q10.2) + q12.2) + q16.2) + 0 ≤ T; omega, by show 6 * ((((0 + q1.2) + q10.2) + q12.2) + q16.2) + 0 ≤ 6 * T; omega⟩) hS (fun q _ h => hF q h) hF (fun u t H locs ht hvm hw hB _ _ hS => ?_)
                replace hP : va_P (dC, dI) vwCl (wB a k q18) H := by rw [← ht]; exact hB.1
                replace hD := hD0 (q18)
                clear hB hF
                exact b_X11_field_169 hC h hκ _ _ _ hP hD hS (lv_sub hl [2, 3, 1, 0] rfl)
              · replace h := ip hc h
                refine lv_aload_n hx hb dX11_field_149 rfl (lv_at hl 2 rfl) ?_
                refine lv_iconst (v := 3) hx hb dX11_field_150 (by decide) ?_
                obtain ⟨q20, hc, h⟩ := ib h
                have hF := va_frees hD hS hA
                refine va_calli (va_runV (As := [.int 3]) (rest := []) ⟨hx, hb, hml, hown, hts⟩ (s_X11_wrongHere hc) (cwV 1 hts (gV mw_30_9 mw_30_10 mw_30_11 mw_0_15 mw_54_10) rfl rfl rfl (by decide +kernel) ⟨(Nat.le_of_ble_eq_true rfl), (Nat.le_of_ble_eq_true rfl)⟩) (vV (ci := 11) (q0 := 0) hK hP hD hN rfl gB_0) rfl rfl hl.1 rfl (lv_room (Nat.le_of_ble_eq_true rfl)) dX11_field_151 ⟨by show ((((0 + q1.2) + q10.2) + q12.2) + q16.2) + 0 ≤ T; omega, by show 6 * ((((0 + q1.2) + q10.2) + q12.2) + q16.2) + 0 ≤ 6 * T; omega⟩) hS (fun q _ h => hF q h) hF (fun r21 u t H locs ht hvm hw hB _ _ hS => ?_)
                obtain rfl : r21 = q20.1 := hw
                replace hP : va_P (dC, dI) vwCl (wB a k q20.2) H := by rw [← ht]; exact hB.1
                replace hD := hD0 (q20.2)
                clear hB hF
                obtain ⟨hg, h⟩ := ig h
                obtain ⟨rfl, rfl⟩ := Prod.mk.inj (Option.some.inj h)
                subst hκ
                exact W.zret hx hb hr (zn hg) (fun t ht hW => ⟨⟨_, (), rfl, rfl, ⟨by rw [ht]; exact hP, va_K.moved hW.alike hK, hD⟩⟩, hS.F ht⟩) hS.2.2 dX11_field_154
            · replace h := ip hc h
              refine lv_aload_n hx hb dX11_field_134 rfl (lv_at hl 2 rfl) ?_
              refine lv_iconst (v := 1) hx hb dX11_field_135 (by decide) ?_
              obtain ⟨q22, hc, h⟩ := ib h
              have hF := va_frees hD hS hA
              refine va_calli (va_runV (As := [.int 1]) (rest := []) ⟨hx, hb, hml, hown, hts⟩ (s_X11_wrongHere hc) (cwV 1 hts (gV mw_30_9 mw_30_10 mw_30_11 mw_0_15 mw_54_10) rfl rfl rfl (by decide +kernel) ⟨(Nat.le_of_ble_eq_true rfl), (Nat.le_of_ble_eq_true rfl)⟩) (vV (ci := 11) (q0 := 0) hK hP hD hN rfl gB_0) rfl rfl hl.1 rfl (lv_room (Nat.le_of_ble_eq_true rfl)) dX11_field_136 ⟨by show ((((0 + q1.2) + q10.2) + q12.2) + q16.2) + 0 ≤ T; omega, by show 6 * ((((0 + q1.2) + q10.2) + q12.2) + q16.2) + 0 ≤ 6 * T; omega⟩) hS (fun q _ h => hF q h) hF (fun r23 u t H locs ht hvm hw hB _ _ hS => ?_)
              obtain rfl : r23 = q22.1 := hw
              replace hP : va_P (dC, dI) vwCl (wB a k q22.2) H := by rw [← ht]; exact hB.1
              replace hD := hD0 (q22.2)
              clear hB hF
              obtain ⟨hg, h⟩ := ig h
              obtain ⟨rfl, rfl⟩ := Prod.mk.inj (Option.some.inj h)
              subst hκ
              exact W.zret hx hb hr (zn hg) (fun t ht hW => ⟨⟨_, (), rfl, rfl, ⟨by rw [ht]; exact hP, va_K.moved hW.alike hK, hD⟩⟩, hS.F ht⟩) hS.2.2 dX11_field_139
        · replace h := iq hc h
          refine lv_iconst (v := 0) hx hb dX11_field_114 (by decide) ?_
          obtain ⟨rfl, rfl⟩ := Prod.mk.inj (Option.some.inj h)
          subst hκ
          exact W.zret hx hb hr rfl (fun t ht hW => ⟨⟨_, (), rfl, rfl, ⟨by rw [ht]; exact hP, va_K.moved hW.alike hK, hD⟩⟩, hS.F ht⟩) hS.2.2 dX11_field_115
      · replace h := ip hc h
        refine lv_aload_n hx hb dX11_field_42 rfl (lv_at hl 0 rfl) ?_
        refine lv_iconst (v := 4) hx hb dX11_field_43 (by decide) ?_
        obtain ⟨q24, hc, h⟩ := ib h
        have hF := va_frees hD hS hA
        refine va_calli (va_runV (As := [.int 4]) (rest := []) ⟨hx, hb, hml, hown, hts⟩ (s_X11_wrongHere hc) (cwV 1 hts (gV mw_30_9 mw_30_10 mw_30_11 mw_0_15 mw_54_10) rfl rfl rfl (by decide +kernel) ⟨(Nat.le_of_ble_eq_true rfl), (Nat.le_of_ble_eq_true rfl)⟩) (vV (ci := 11) (q0 := 0) hK hP hD hN rfl gB_0) rfl rfl hl.1 rfl (lv_room (Nat.le_of_ble_eq_true rfl)) dX11_field_44 ⟨by show (0 + q1.2) + 0 ≤ T; omega, by show 6 * (0 + q1.2) + 0 ≤ 6 * T; omega⟩) hS (fun q _ h => hF q h) hF (fun r25 u t H locs ht hvm hw hB _ _ hS => ?_)
        obtain rfl : r25 = q24.1 := hw
        replace hP : va_P (dC, dI) vwCl (wB a k q24.2) H := by rw [← ht]; exact hB.1
        replace hD := hD0 (q24.2)
        clear hB hF
        obtain ⟨hg, h⟩ := ig h
        obtain ⟨rfl, rfl⟩ := Prod.mk.inj (Option.some.inj h)
        subst hκ
        exact W.zret hx hb hr (zn hg) (fun t ht hW => ⟨⟨_, (), rfl, rfl, ⟨by rw [ht]; exact hP, va_K.moved hW.alike hK, hD⟩⟩, hS.F ht⟩) hS.2.2 dX11_field_47
    · replace h := iq hc h
      refine lv_aload_n hx hb dX11_field_25 rfl (lv_at hl 0 rfl) ?_
      refine lv_iconst (v := 3) hx hb dX11_field_26 (by decide) ?_
      obtain ⟨q26, hc, h⟩ := ib h
      have hF := va_frees hD hS hA
      refine va_calli (va_runV (As := [.int 3]) (rest := []) ⟨hx, hb, hml, hown, hts⟩ (s_X11_wrongHere hc) (cwV 1 hts (gV mw_30_9 mw_30_10 mw_30_11 mw_0_15 mw_54_10) rfl rfl rfl (by decide +kernel) ⟨(Nat.le_of_ble_eq_true rfl), (Nat.le_of_ble_eq_true rfl)⟩) (vV (ci := 11) (q0 := 0) hK hP hD hN rfl gB_0) rfl rfl hl.1 rfl (lv_room (Nat.le_of_ble_eq_true rfl)) dX11_field_27 ⟨by show (0 + q1.2) + 0 ≤ T; omega, by show 6 * (0 + q1.2) + 0 ≤ 6 * T; omega⟩) hS (fun q _ h => hF q h) hF (fun r27 u t H locs ht hvm hw hB _ _ hS => ?_)
      obtain rfl : r27 = q26.1 := hw
      replace hP : va_P (dC, dI) vwCl (wB a k q26.2) H := by rw [← ht]; exact hB.1
      replace hD := hD0 (q26.2)
      clear hB hF
      obtain ⟨hg, h⟩ := ig h
      obtain ⟨rfl, rfl⟩ := Prod.mk.inj (Option.some.inj h)
      subst hκ
      exact W.zret hx hb hr (zn hg) (fun t ht hW => ⟨⟨_, (), rfl, rfl, ⟨by rw [ht]; exact hP, va_K.moved hW.alike hK, hD⟩⟩, hS.F ht⟩) hS.2.2 dX11_field_30
  · replace h := ip hc h
    refine lv_aload_n hx hb dX11_field_7 rfl (lv_at hl 0 rfl) ?_
    refine lv_iconst (v := 1) hx hb dX11_field_8 (by decide) ?_
    obtain ⟨q28, hc, h⟩ := ib h
    have hF := va_frees hD hS hA
    refine va_calli (va_runV (As := [.int 1]) (rest := []) ⟨hx, hb, hml, hown, hts⟩ (s_X11_wrongHere hc) (cwV 1 hts (gV mw_30_9 mw_30_10 mw_30_11 mw_0_15 mw_54_10) rfl rfl rfl (by decide +kernel) ⟨(Nat.le_of_ble_eq_true rfl), (Nat.le_of_ble_eq_true rfl)⟩) (vV (ci := 11) (q0 := 0) hK hP hD hN rfl gB_0) rfl rfl hl.1 rfl (lv_room (Nat.le_of_ble_eq_true rfl)) dX11_field_9 ⟨by show (0 + q1.2) + 0 ≤ T; omega, by show 6 * (0 + q1.2) + 0 ≤ 6 * T; omega⟩) hS (fun q _ h => hF q h) hF (fun r29 u t H locs ht hvm hw hB _ _ hS => ?_)
    obtain rfl : r29 = q28.1 := hw
    replace hP : va_P (dC, dI) vwCl (wB a k q28.2) H := by rw [← ht]; exact hB.1
    replace hD := hD0 (q28.2)
    clear hB hF
    obtain ⟨hg, h⟩ := ig h
    obtain ⟨rfl, rfl⟩ := Prod.mk.inj (Option.some.inj h)
    subst hκ
    exact W.zret hx hb hr (zn hg) (fun t ht hW => ⟨⟨_, (), rfl, rfl, ⟨by rw [ht]; exact hP, va_K.moved hW.alike hK, hD⟩⟩, hS.F ht⟩) hS.2.2 dX11_field_12

theorem s_X11_field {l : Launch} {dC : Nat → ClassId} {dI : Nat → Nat → Nat} {a : Nat → Nat} {k : Nat → ClassId} {sz : Nat} {p0 : Int32} {σ : ST} {q : Int32 × ST} {r : Nat} (h : f_X11_field  p0 σ = some (q, r)) : Met l yX11_field (.code yX11_field cX11_field 5 (some .boolean) :: pw) ({ frames := 346, cells := r, slots := 6 * r, locals := 8633 } : Room) (va_Pc [.ref (a 0), .int p0] (vPre dC dI (wB a k σ) (tB k) sz)) (qBi dC dI a k (va_A (wB a k σ) sz) q) r (6 * r) (va_A (wB a k σ) sz) := mekB (fun A => qBi dC dI a k A q) (plainFor_of_name (by decide)) (Nat.le_of_ble_eq_true rfl) (fun _ _ _ _ _ _ _ _ hC => b_X11_field_e hC h (Nat.zero_add _))

def f_X11_recordIn_2  : Nat → Int32 → ST → Option (Int32 × ST)
  | 0, _, _ => none
  | n + 1, x2, σ => if 0 ≤ x2.toInt ∧ x2.toInt < 800 then (if (σ.1 2 x2.toNatClampNeg) = 6 then (f_X11_recordIn_2  n (σ.1 3 x2.toNatClampNeg) σ) else (if (σ.1 2 x2.toNatClampNeg) = 7 then (some ((σ.1 3 x2.toNatClampNeg), σ)) else (some ((-1), σ)))) else none
def f_X11_recordIn (p0 : Int32) (σ : ST) : Option (Int32 × ST) := f_X11_recordIn_2  FU p0 σ

set_option maxRecDepth 100000 in
set_option maxHeartbeats 4000000 in
theorem b_X11_recordIn_2 {p : Program} {l : Launch} {e : Env} {s : State} {m : MethodId} {args : Array Value} {below : List Frame} {meth : Method} {c : Code} {dC : Nat → ClassId} {dI : Nat → Nat → Nat} {a : Nat → Nat} {k : Nat → ClassId} {A : Nat → Prop} {q : Int32 × ST} (hC : CxB p s m args meth c dC dI k A cX11_recordIn RX11 (some .int) 3)   : ∀ (n : Nat) (x2 : Int32) (σ : ST), f_X11_recordIn_2  n x2 σ = some q → GoB p l e ({ frames := 0, cells := 0, slots := 0, locals := 0 } : Room) s m args below meth c (MQ below (qBi dC dI a k A q) args s 0 0 A) dC dI a k A 3 2 σ [(0, .ref (a 0)), (2, .int x2)] [] := by
  intro n
  induction n with
  | zero =>
    intro x2 σ h
    rw [f_X11_recordIn_2] at h
    cases h
  | succ n ih =>
    intro x2 σ h
    have hC0 := hC
    obtain ⟨hx, hb, hr, hml, hown, hts, hlocks, hA, hN, hK⟩ := hC0
    intro H locs ls hP hD hS hl
    have hD0 : ∀ σ1 : ST, va_D A (wB a k σ1) := fun σ1 => wB_D hD
    rw [f_X11_recordIn_2] at h
    refine lv_aload_n hx hb dX11_recordIn_2 rfl (lv_at hl 0 rfl) ?_
    refine va_get (D := (dC, dI)) (ci := 11) (C := RX11) (T := TX11) (N := 95) hx hb hts inlX11 hown hK hP 0 gB_0 rfl 14 (by decide) (hts (.fieldLink RX11 13 "ShapeReaderModel" "typeSort" "[I") mw_26_28) (fun _ h9 => h9) rfl dX11_recordIn_3 ?_
    refine lv_iload_n hx hb dX11_recordIn_6 rfl (lv_at hl 1 rfl) ?_
    obtain ⟨hg1, h⟩ := ig h
    refine va_iald hx hb hK hP 2 1 gB_2 yB_2 (vp_in_iff.mpr hg1) dX11_recordIn_7 ?_
    refine lv_bipush (v := 6) hx hb dX11_recordIn_8 (by decide) ?_
    refine lv_icmp_ne (tgt := 23) hx hb dX11_recordIn_10 (by decide) (fun hc => ?_) (fun hc => ?_)
    · replace h := iq hc h
      refine lv_aload_n hx hb dX11_recordIn_23 rfl (lv_at hl 0 rfl) ?_
      refine va_get (D := (dC, dI)) (ci := 11) (C := RX11) (T := TX11) (N := 95) hx hb hts inlX11 hown hK hP 0 gB_0 rfl 14 (by decide) (hts (.fieldLink RX11 13 "ShapeReaderModel" "typeSort" "[I") mw_26_28) (fun _ h9 => h9) rfl dX11_recordIn_24 ?_
      refine lv_iload_n hx hb dX11_recordIn_27 rfl (lv_at hl 1 rfl) ?_
      refine va_iald hx hb hK hP 2 1 gB_2 yB_2 (vp_in_iff.mpr hg1) dX11_recordIn_28 ?_
      refine lv_bipush (v := 7) hx hb dX11_recordIn_29 (by decide) ?_
      refine lv_icmp_ne (tgt := 43) hx hb dX11_recordIn_31 (by decide) (fun hc => ?_) (fun hc => ?_)
      · replace h := iq hc h
        refine lv_iconst (v := (-1)) hx hb dX11_recordIn_43 (by decide) ?_
        obtain rfl := Option.some.inj h
        exact W.iret hx hb hr (fun t ht hW => ⟨⟨_, (), rfl, rfl, ⟨by rw [ht]; exact hP, va_K.moved hW.alike hK, hD⟩⟩, hS.F ht⟩) hS.2.2 dX11_recordIn_44
      · replace h := ip hc h
        refine lv_aload_n hx hb dX11_recordIn_34 rfl (lv_at hl 0 rfl) ?_
        refine va_get (D := (dC, dI)) (ci := 11) (C := RX11) (T := TX11) (N := 95) hx hb hts inlX11 hown hK hP 0 gB_0 rfl 15 (by decide) (hts (.fieldLink RX11 17 "ShapeReaderModel" "typeArg" "[I") mw_26_29) (fun _ h9 => h9) rfl dX11_recordIn_35 ?_
        refine lv_iload_n hx hb dX11_recordIn_38 rfl (lv_at hl 1 rfl) ?_
        refine va_iald hx hb hK hP 3 2 gB_3 yB_3 (vp_in_iff.mpr hg1) dX11_recordIn_39 ?_
        refine lv_goto (tgt := 44) hx hb dX11_recordIn_40 (by decide) ?_
        obtain rfl := Option.some.inj h
        exact W.iret hx hb hr (fun t ht hW => ⟨⟨_, (), rfl, rfl, ⟨by rw [ht]; exact hP, va_K.moved hW.alike hK, hD⟩⟩, hS.F ht⟩) hS.2.2 dX11_recordIn_44
    · replace h := ip hc h
      refine lv_aload_n hx hb dX11_recordIn_13 rfl (lv_at hl 0 rfl) ?_
      refine va_get (D := (dC, dI)) (ci := 11) (C := RX11) (T := TX11) (N := 95) hx hb hts inlX11 hown hK hP 0 gB_0 rfl 15 (by decide) (hts (.fieldLink RX11 17 "ShapeReaderModel" "typeArg" "[I") mw_26_29) (fun _ h9 => h9) rfl dX11_recordIn_14 ?_
      refine lv_iload_n hx hb dX11_recordIn_17 rfl (lv_at hl 1 rfl) ?_
      refine va_iald hx hb hK hP 3 2 gB_3 yB_3 (vp_in_iff.mpr hg1) dX11_recordIn_18 ?_
      refine lv_istore_n (lv' := [(2, .int (σ.1 3 x2.toNatClampNeg)), (0, .ref (a 0))]) hx hb dX11_recordIn_19 rfl hl (by decide) rfl (fun ls hl => ?_)
      refine lv_goto (tgt := 2) hx hb dX11_recordIn_20 (by decide) ?_
      exact ih _ _ h _ _ _ hP hD hS (lv_sub hl [1, 0] rfl)

set_option maxRecDepth 100000 in
set_option maxHeartbeats 4000000 in
theorem b_X11_recordIn_e {p : Program} {l : Launch} {e : Env} {s : State} {m : MethodId} {args : Array Value} {below : List Frame} {meth : Method} {c : Code} {dC : Nat → ClassId} {dI : Nat → Nat → Nat} {a : Nat → Nat} {k : Nat → ClassId} {A : Nat → Prop} {q : Int32 × ST} (hC : CxB p s m args meth c dC dI k A cX11_recordIn RX11 (some .int) 3)   {p0 : Int32} {σ : ST} (h : f_X11_recordIn  p0 σ = some q) : GoB p l e ({ frames := 0, cells := 0, slots := 0, locals := 0 } : Room) s m args below meth c (MQ below (qBi dC dI a k A q) args s 0 0 A) dC dI a k A 3 0 σ (lv_args 0 [.ref (a 0), .int p0]) [] := by
  have hC0 := hC
  obtain ⟨hx, hb, hr, hml, hown, hts, hlocks, hA, hN, hK⟩ := hC0
  intro H locs ls hP hD hS hl
  have hD0 : ∀ σ1 : ST, va_D A (wB a k σ1) := fun σ1 => wB_D hD
  replace hl : lv_has ls 3 [(0, .ref (a 0)), (1, .int p0)] := hl
  unfold f_X11_recordIn at h
  refine lv_iload_n hx hb dX11_recordIn_0 rfl (lv_at hl 1 rfl) ?_
  refine lv_istore_n (lv' := [(2, .int p0), (0, .ref (a 0)), (1, .int p0)]) hx hb dX11_recordIn_1 rfl hl (by decide) rfl (fun ls hl => ?_)
  exact b_X11_recordIn_2 hC FU _ _ h _ _ _ hP hD hS (lv_sub hl [1, 0] rfl)

theorem s_X11_recordIn {l : Launch} {dC : Nat → ClassId} {dI : Nat → Nat → Nat} {a : Nat → Nat} {k : Nat → ClassId} {sz : Nat} {p0 : Int32} {σ : ST} {q : Int32 × ST} (h : f_X11_recordIn  p0 σ = some q) : Met l yX11_recordIn (.code yX11_recordIn cX11_recordIn 3 (some .int) :: pw) ({ frames := 0, cells := 0, slots := 0, locals := 0 } : Room) (va_Pc [.ref (a 0), .int p0] (vPre dC dI (wB a k σ) (tB k) sz)) (qBi dC dI a k (va_A (wB a k σ) sz) q) 0 0 (va_A (wB a k σ) sz) := metB (fun A => qBi dC dI a k A q) (plainFor_of_name (by decide)) (Nat.le_of_ble_eq_true rfl) (fun _ _ _ _ _ _ _ _ hC => b_X11_recordIn_e hC h)

def f_X11_field__53 (x3 : Int32) (x4 : Int32) (x5 : Int32) (y0 : Int32) (σ : ST) : Option (Int32 × ST) := if x5 = 0 then (some ((-1), σ)) else (if 0 ≤ y0.toInt ∧ y0.toInt < 72 then ((f_X11_within  (x3.toInt64) 0 (((σ.1 11 y0.toNatClampNeg) - 1).toInt64) σ).bind fun q2 => if q2.1 = 0 then (some ((-1), q2.2)) else (if x4 = 0 then (if 0 ≤ ((8 * y0) + x3).toInt ∧ ((8 * y0) + x3).toInt < 576 then (if 0 ≤ (q2.2.1 15 ((8 * y0) + x3).toNatClampNeg).toInt ∧ (q2.2.1 15 ((8 * y0) + x3).toNatClampNeg).toInt < 800 then (some ((q2.2.1 2 (q2.2.1 15 ((8 * y0) + x3).toNatClampNeg).toNatClampNeg), q2.2)) else none) else none) else (if x4 = 1 then (if 0 ≤ ((8 * y0) + x3).toInt ∧ ((8 * y0) + x3).toInt < 576 then (if (q2.2.1 16 ((8 * y0) + x3).toNatClampNeg) = 0 then (some (0, q2.2)) else (some (1, q2.2))) else none) else (if x4 = 2 then (if 0 ≤ ((8 * y0) + x3).toInt ∧ ((8 * y0) + x3).toInt < 576 then (if (lg_cmp (q2.2.2.1 14 ((8 * y0) + x3).toNatClampNeg) 0) ≤ 0 then (some (0, q2.2)) else (some (1, q2.2))) else none) else (if x4 = 3 then (if 0 ≤ ((8 * y0) + x3).toInt ∧ ((8 * y0) + x3).toInt < 576 then (some ((q2.2.1 13 ((8 * y0) + x3).toNatClampNeg), q2.2)) else none) else (if x4 = 4 then (if 0 ≤ ((8 * y0) + x3).toInt ∧ ((8 * y0) + x3).toInt < 576 then (if 0 ≤ (q2.2.1 15 ((8 * y0) + x3).toNatClampNeg).toInt ∧ (q2.2.1 15 ((8 * y0) + x3).toNatClampNeg).toInt < 800 then (some ((q2.2.1 4 (q2.2.1 15 ((8 * y0) + x3).toNatClampNeg).toNatClampNeg), q2.2)) else none) else none) else (if x4 = 5 then (if 0 ≤ ((8 * y0) + x3).toInt ∧ ((8 * y0) + x3).toInt < 576 then ((f_X11_recordIn  (q2.2.1 15 ((8 * y0) + x3).toNatClampNeg) q2.2).bind fun q18 => some (q18.1, q18.2)) else none) else (some ((-1), q2.2))))))))) else none)
def f_X11_field__36 (x1 : Int32) (x2 : Int32) (x3 : Int32) (x4 : Int32) (y0 : Int32) (σ : ST) : Option (Int32 × ST) := if y0 = 0 then (f_X11_field__53  x3 x4 y0 0 σ) else (f_X11_field__53  x3 x4 y0 ((6 * x1) + x2) σ)
def f_X11_field__35 (x1 : Int32) (x2 : Int32) (x3 : Int32) (x4 : Int32) (σ : ST) : Option (Int32 × ST) := f_X11_field__36  x1 x2 x3 x4 0 σ
def f_X11_field_ (p0 : Int32) (p1 : Int32) (p2 : Int32) (p3 : Int32) (σ : ST) : Option (Int32 × ST) := (f_X11_isPlanAt  p0 (stI σ 0 0 0)).bind fun q1 => if q1.1 = 0 then (f_X11_field__35  p0 p1 p2 p3 q1.2) else (if 0 ≤ p0.toInt ∧ p0.toInt < 12 then ((f_X11_within  (p1.toInt64) 0 (((q1.2.1 8 p0.toNatClampNeg) - 1).toInt64) q1.2).bind fun q4 => if q4.1 = 0 then (f_X11_field__35  p0 p1 p2 p3 q4.2) else (f_X11_field__36  p0 p1 p2 p3 1 q4.2)) else none)

set_option maxRecDepth 100000 in
set_option maxHeartbeats 4000000 in
theorem b_X11_field__53 {p : Program} {l : Launch} {e : Env} {s : State} {m : MethodId} {args : Array Value} {below : List Frame} {meth : Method} {c : Code} {dC : Nat → ClassId} {dI : Nat → Nat → Nat} {a : Nat → Nat} {k : Nat → ClassId} {A : Nat → Prop} {q : Int32 × ST} (hC : CxB p s m args meth c dC dI k A cX11_field_ RX11 (some .int) 8)   {x3 : Int32} {x4 : Int32} {x5 : Int32} {y0 : Int32} {σ : ST} (h : f_X11_field__53  x3 x4 x5 y0 σ = some q) : GoB p l e ({ frames := 2, cells := 0, slots := 0, locals := 46 } : Room) s m args below meth c (MQ below (qBi dC dI a k A q) args s 0 0 A) dC dI a k A 8 53 σ [(0, .ref (a 0)), (3, .int x3), (4, .int x4), (5, .int x5)] [.int y0] := by
  have hC0 := hC
  obtain ⟨hx, hb, hr, hml, hown, hts, hlocks, hA, hN, hK⟩ := hC0
  intro H locs ls hP hD hS hl
  have hD0 : ∀ σ1 : ST, va_D A (wB a k σ1) := fun σ1 => wB_D hD
  unfold f_X11_field__53 at h
  refine lv_istore (lv' := [(6, .int y0), (0, .ref (a 0)), (3, .int x3), (4, .int x4), (5, .int x5)]) hx hb dX11_field__53 hl (by decide) rfl (fun ls hl => ?_)
  refine lv_iload hx hb dX11_field__55 (lv_at hl 4 rfl) ?_
  refine lv_if_eq (tgt := 79) hx hb dX11_field__57 (by decide) (fun hc => ?_) (fun hc => ?_)
  · replace h := ip hc h
    refine lv_iconst (v := (-1)) hx hb dX11_field__79 (by decide) ?_
    obtain rfl := Option.some.inj h
    exact W.iret hx hb hr (fun t ht hW => ⟨⟨_, (), rfl, rfl, ⟨by rw [ht]; exact hP, va_K.moved hW.alike hK, hD⟩⟩, hS.F ht⟩) hS.2.2 dX11_field__80
  · replace h := iq hc h
    refine lv_iload_n hx hb dX11_field__60 rfl (lv_at hl 2 rfl) ?_
    refine lv_i2l (v := x3.toInt64) hx hb dX11_field__61 rfl ?_
    refine lv_lconst (v := 0) hx hb dX11_field__62 (by decide) ?_
    refine lv_aload_n hx hb dX11_field__63 rfl (lv_at hl 1 rfl) ?_
    refine va_get (D := (dC, dI)) (ci := 11) (C := RX11) (T := TX11) (N := 95) hx hb hts inlX11 hown hK hP 0 gB_0 rfl 23 (by decide) (hts (.fieldLink RX11 42 "ShapeReaderModel" "fieldMany" "[I") mw_27_7) (fun _ h9 => h9) rfl dX11_field__64 ?_
    refine lv_iload hx hb dX11_field__67 (lv_at hl 0 rfl) ?_
    obtain ⟨hg1, h⟩ := ig h
    refine va_iald hx hb hK hP 11 10 gB_11 yB_11 (vp_in_iff.mpr hg1) dX11_field__69 ?_
    refine lv_iconst (v := 1) hx hb dX11_field__70 (by decide) ?_
    refine lv_isub hx hb dX11_field__71 ?_
    refine lv_i2l (v := ((σ.1 11 y0.toNatClampNeg) - 1).toInt64) hx hb dX11_field__72 rfl ?_
    obtain ⟨q2, hc, h⟩ := ib h
    have hF := va_frees hD hS hA
    refine va_calli (va_runS (As := [.long (x3.toInt64), .long 0, .long (((σ.1 11 y0.toNatClampNeg) - 1).toInt64)]) (rest := []) ⟨hx, hb, hml, hown, hts⟩ (s_X11_within hc) (va_cwS 3 hts (gS mw_29_0 mw_29_1 mw_0_15 mw_53_26) rfl rfl rfl (by decide +kernel) ⟨(Nat.le_of_ble_eq_true rfl), (Nat.le_of_ble_eq_true rfl)⟩) (vS hK hP hD hN) rfl rfl hl.1 rfl (lv_room (Nat.le_of_ble_eq_true rfl)) dX11_field__73 ⟨(Nat.le_of_ble_eq_true rfl), (Nat.le_of_ble_eq_true rfl)⟩) hS (fun q _ h => hF q h) hF (fun r3 u t H locs ht hvm hw hB _ _ hS => ?_)
    obtain rfl : r3 = q2.1 := hw
    replace hP : va_P (dC, dI) vwCl (wB a k q2.2) H := by rw [← ht]; exact hB.1
    replace hD := hD0 (q2.2)
    clear hB hF
    refine lv_if_ne (tgt := 81) hx hb dX11_field__76 (by decide) (fun hc => ?_) (fun hc => ?_)
    · replace h := iq hc h
      refine lv_bipush (v := 8) hx hb dX11_field__81 (by decide) ?_
      refine lv_iload hx hb dX11_field__83 (lv_at hl 0 rfl) ?_
      refine lv_imul hx hb dX11_field__85 ?_
      refine lv_iload_n hx hb dX11_field__86 rfl (lv_at hl 2 rfl) ?_
      refine lv_iadd hx hb dX11_field__87 ?_
      refine lv_istore (lv' := [(7, .int ((8 * y0) + x3)), (6, .int y0), (0, .ref (a 0)), (3, .int x3), (4, .int x4), (5, .int x5)]) hx hb dX11_field__88 hl (by decide) rfl (fun ls hl => ?_)
      refine lv_iload hx hb dX11_field__90 (lv_at hl 4 rfl) ?_
      rcases (il_sw6 x4 (0) (1) (2) (3) (4) (5)) with s4 | s5 | s6 | s7 | s8 | s9 | ⟨s4, s5, s6, s7, s8, s9⟩
      · replace h := ip s4 h
        refine lv_tableIn (off := 40) (tgt := 132) hx hb dX11_field__92 (by rw [s4]; decide) (by rw [s4]; decide) (by rw [s4]; rfl) (by decide) ?_
        refine lv_aload_n hx hb dX11_field__132 rfl (lv_at hl 2 rfl) ?_
        refine va_get (D := (dC, dI)) (ci := 11) (C := RX11) (T := TX11) (N := 95) hx hb hts inlX11 hown hK hP 0 gB_0 rfl 14 (by decide) (hts (.fieldLink RX11 13 "ShapeReaderModel" "typeSort" "[I") mw_26_28) (fun _ h9 => h9) rfl dX11_field__133 ?_
        refine lv_aload_n hx hb dX11_field__136 rfl (lv_at hl 2 rfl) ?_
        refine va_get (D := (dC, dI)) (ci := 11) (C := RX11) (T := TX11) (N := 95) hx hb hts inlX11 hown hK hP 0 gB_0 rfl 27 (by decide) (hts (.fieldLink RX11 54 "ShapeReaderModel" "fieldType" "[I") mw_27_11) (fun _ h9 => h9) rfl dX11_field__137 ?_
        refine lv_iload hx hb dX11_field__140 (lv_at hl 0 rfl) ?_
        obtain ⟨hg10, h⟩ := ig h
        refine va_iald hx hb hK hP 15 14 gB_15 yB_15 (vp_in_iff.mpr hg10) dX11_field__142 ?_
        obtain ⟨hg11, h⟩ := ig h
        refine va_iald hx hb hK hP 2 1 gB_2 yB_2 (vp_in_iff.mpr hg11) dX11_field__143 ?_
        obtain rfl := Option.some.inj h
        exact W.iret hx hb hr (fun t ht hW => ⟨⟨_, (), rfl, rfl, ⟨by rw [ht]; exact hP, va_K.moved hW.alike hK, hD⟩⟩, hS.F ht⟩) hS.2.2 dX11_field__144
      · replace h := ip s5 (iq (by rw [s5]; decide) h)
        refine lv_tableIn (off := 53) (tgt := 145) hx hb dX11_field__92 (by rw [s5]; decide) (by rw [s5]; decide) (by rw [s5]; rfl) (by decide) ?_
        refine lv_aload_n hx hb dX11_field__145 rfl (lv_at hl 2 rfl) ?_
        refine va_get (D := (dC, dI)) (ci := 11) (C := RX11) (T := TX11) (N := 95) hx hb hts inlX11 hown hK hP 0 gB_0 rfl 28 (by decide) (hts (.fieldLink RX11 57 "ShapeReaderModel" "hasElse" "[Z") mw_27_12) (fun _ h9 => h9) rfl dX11_field__146 ?_
        refine lv_iload hx hb dX11_field__149 (lv_at hl 0 rfl) ?_
        obtain ⟨hg12, h⟩ := ig h
        refine va_zald hx hb hK hP 16 15 gB_16 yB_16 (vp_in_iff.mpr hg12) dX11_field__151 ?_
        refine lv_if_eq (tgt := 159) hx hb dX11_field__152 (by decide) (fun hc => ?_) (fun hc => ?_)
        · replace h := ip hc h
          refine lv_iconst (v := 0) hx hb dX11_field__159 (by decide) ?_
          obtain rfl := Option.some.inj h
          exact W.iret hx hb hr (fun t ht hW => ⟨⟨_, (), rfl, rfl, ⟨by rw [ht]; exact hP, va_K.moved hW.alike hK, hD⟩⟩, hS.F ht⟩) hS.2.2 dX11_field__160
        · replace h := iq hc h
          refine lv_iconst (v := 1) hx hb dX11_field__155 (by decide) ?_
          refine lv_goto (tgt := 160) hx hb dX11_field__156 (by decide) ?_
          obtain rfl := Option.some.inj h
          exact W.iret hx hb hr (fun t ht hW => ⟨⟨_, (), rfl, rfl, ⟨by rw [ht]; exact hP, va_K.moved hW.alike hK, hD⟩⟩, hS.F ht⟩) hS.2.2 dX11_field__160
      · replace h := ip s6 (iq (by rw [s6]; decide) (iq (by rw [s6]; decide) h))
        refine lv_tableIn (off := 69) (tgt := 161) hx hb dX11_field__92 (by rw [s6]; decide) (by rw [s6]; decide) (by rw [s6]; rfl) (by decide) ?_
        refine lv_aload_n hx hb dX11_field__161 rfl (lv_at hl 2 rfl) ?_
        refine va_get (D := (dC, dI)) (ci := 11) (C := RX11) (T := TX11) (N := 95) hx hb hts inlX11 hown hK hP 0 gB_0 rfl 26 (by decide) (hts (.fieldLink RX11 51 "ShapeReaderModel" "fieldWas" "[J") mw_27_10) (fun _ h9 => h9) rfl dX11_field__162 ?_
        refine lv_iload hx hb dX11_field__165 (lv_at hl 0 rfl) ?_
        obtain ⟨hg13, h⟩ := ig h
        refine va_lald hx hb hK hP 14 13 gB_14 yB_14 (vp_in_iff.mpr hg13) dX11_field__167 ?_
        refine lv_lconst (v := 0) hx hb dX11_field__168 (by decide) ?_
        refine W.lcmp hx hb dX11_field__169 ?_
        refine lv_if_le (tgt := 177) hx hb dX11_field__170 (by decide) (fun hc => ?_) (fun hc => ?_)
        · replace h := ip hc h
          refine lv_iconst (v := 0) hx hb dX11_field__177 (by decide) ?_
          obtain rfl := Option.some.inj h
          exact W.iret hx hb hr (fun t ht hW => ⟨⟨_, (), rfl, rfl, ⟨by rw [ht]; exact hP, va_K.moved hW.alike hK, hD⟩⟩, hS.F ht⟩) hS.2.2 dX11_field__178
        · replace h := iq hc h
          refine lv_iconst (v := 1) hx hb dX11_field__173 (by decide) ?_
          refine lv_goto (tgt := 178) hx hb dX11_field__174 (by decide) ?_
          obtain rfl := Option.some.inj h
          exact W.iret hx hb hr (fun t ht hW => ⟨⟨_, (), rfl, rfl, ⟨by rw [ht]; exact hP, va_K.moved hW.alike hK, hD⟩⟩, hS.F ht⟩) hS.2.2 dX11_field__178
      · replace h := ip s7 (iq (by rw [s7]; decide) (iq (by rw [s7]; decide) (iq (by rw [s7]; decide) h)))
        refine lv_tableIn (off := 87) (tgt := 179) hx hb dX11_field__92 (by rw [s7]; decide) (by rw [s7]; decide) (by rw [s7]; rfl) (by decide) ?_
        refine lv_aload_n hx hb dX11_field__179 rfl (lv_at hl 2 rfl) ?_
        refine va_get (D := (dC, dI)) (ci := 11) (C := RX11) (T := TX11) (N := 95) hx hb hts inlX11 hown hK hP 0 gB_0 rfl 25 (by decide) (hts (.fieldLink RX11 48 "ShapeReaderModel" "fieldLetters" "[I") mw_27_9) (fun _ h9 => h9) rfl dX11_field__180 ?_
        refine lv_iload hx hb dX11_field__183 (lv_at hl 0 rfl) ?_
        obtain ⟨hg14, h⟩ := ig h
        refine va_iald hx hb hK hP 13 12 gB_13 yB_13 (vp_in_iff.mpr hg14) dX11_field__185 ?_
        obtain rfl := Option.some.inj h
        exact W.iret hx hb hr (fun t ht hW => ⟨⟨_, (), rfl, rfl, ⟨by rw [ht]; exact hP, va_K.moved hW.alike hK, hD⟩⟩, hS.F ht⟩) hS.2.2 dX11_field__186
      · replace h := ip s8 (iq (by rw [s8]; decide) (iq (by rw [s8]; decide) (iq (by rw [s8]; decide) (iq (by rw [s8]; decide) h))))
        refine lv_tableIn (off := 95) (tgt := 187) hx hb dX11_field__92 (by rw [s8]; decide) (by rw [s8]; decide) (by rw [s8]; rfl) (by decide) ?_
        refine lv_aload_n hx hb dX11_field__187 rfl (lv_at hl 2 rfl) ?_
        refine va_get (D := (dC, dI)) (ci := 11) (C := RX11) (T := TX11) (N := 95) hx hb hts inlX11 hown hK hP 0 gB_0 rfl 16 (by decide) (hts (.fieldLink RX11 20 "ShapeReaderModel" "typeMany" "[I") mw_27_0) (fun _ h9 => h9) rfl dX11_field__188 ?_
        refine lv_aload_n hx hb dX11_field__191 rfl (lv_at hl 2 rfl) ?_
        refine va_get (D := (dC, dI)) (ci := 11) (C := RX11) (T := TX11) (N := 95) hx hb hts inlX11 hown hK hP 0 gB_0 rfl 27 (by decide) (hts (.fieldLink RX11 54 "ShapeReaderModel" "fieldType" "[I") mw_27_11) (fun _ h9 => h9) rfl dX11_field__192 ?_
        refine lv_iload hx hb dX11_field__195 (lv_at hl 0 rfl) ?_
        obtain ⟨hg15, h⟩ := ig h
        refine va_iald hx hb hK hP 15 14 gB_15 yB_15 (vp_in_iff.mpr hg15) dX11_field__197 ?_
        obtain ⟨hg16, h⟩ := ig h
        refine va_iald hx hb hK hP 4 3 gB_4 yB_4 (vp_in_iff.mpr hg16) dX11_field__198 ?_
        obtain rfl := Option.some.inj h
        exact W.iret hx hb hr (fun t ht hW => ⟨⟨_, (), rfl, rfl, ⟨by rw [ht]; exact hP, va_K.moved hW.alike hK, hD⟩⟩, hS.F ht⟩) hS.2.2 dX11_field__199
      · replace h := ip s9 (iq (by rw [s9]; decide) (iq (by rw [s9]; decide) (iq (by rw [s9]; decide) (iq (by rw [s9]; decide) (iq (by rw [s9]; decide) h)))))
        refine lv_tableIn (off := 108) (tgt := 200) hx hb dX11_field__92 (by rw [s9]; decide) (by rw [s9]; decide) (by rw [s9]; rfl) (by decide) ?_
        refine lv_aload_n hx hb dX11_field__200 rfl (lv_at hl 2 rfl) ?_
        refine lv_aload_n hx hb dX11_field__201 rfl (lv_at hl 2 rfl) ?_
        refine va_get (D := (dC, dI)) (ci := 11) (C := RX11) (T := TX11) (N := 95) hx hb hts inlX11 hown hK hP 0 gB_0 rfl 27 (by decide) (hts (.fieldLink RX11 54 "ShapeReaderModel" "fieldType" "[I") mw_27_11) (fun _ h9 => h9) rfl dX11_field__202 ?_
        refine lv_iload hx hb dX11_field__205 (lv_at hl 0 rfl) ?_
        obtain ⟨hg17, h⟩ := ig h
        refine va_iald hx hb hK hP 15 14 gB_15 yB_15 (vp_in_iff.mpr hg17) dX11_field__207 ?_
        obtain ⟨q18, hc, h⟩ := ib h
        have hF := va_frees hD hS hA
        refine va_calli (va_runV (As := [.int (q2.2.1 15 ((8 * y0) + x3).toNatClampNeg)]) (rest := []) ⟨hx, hb, hml, hown, hts⟩ (s_X11_recordIn hc) (cwV 1 hts (gV mw_33_25 mw_33_26 mw_33_27 mw_0_15 mw_55_11) rfl rfl rfl (by decide +kernel) ⟨(Nat.le_of_ble_eq_true rfl), (Nat.le_of_ble_eq_true rfl)⟩) (vV (ci := 11) (q0 := 0) hK hP hD hN rfl gB_0) rfl rfl hl.1 rfl (lv_room (Nat.le_of_ble_eq_true rfl)) dX11_field__208 ⟨(Nat.le_of_ble_eq_true rfl), (Nat.le_of_ble_eq_true rfl)⟩) hS (fun q _ h => hF q h) hF (fun r19 u t H locs ht hvm hw hB _ _ hS => ?_)
        obtain rfl : r19 = q18.1 := hw
        replace hP : va_P (dC, dI) vwCl (wB a k q18.2) H := by rw [← ht]; exact hB.1
        replace hD := hD0 (q18.2)
        clear hB hF
        obtain rfl := Option.some.inj h
        exact W.iret hx hb hr (fun t ht hW => ⟨⟨_, (), rfl, rfl, ⟨by rw [ht]; exact hP, va_K.moved hW.alike hK, hD⟩⟩, hS.F ht⟩) hS.2.2 dX11_field__211
      · replace h := (iq s9 (iq s8 (iq s7 (iq s6 (iq s5 (iq s4 h))))))
        refine lv_tableOut (tgt := 212) hx hb dX11_field__92 (by have a0 := il_ne s4; have e0 : (0 : Int32).toInt = 0 := (by decide); have a1 := il_ne s5; have e1 : (1 : Int32).toInt = 1 := (by decide); have a2 := il_ne s6; have e2 : (2 : Int32).toInt = 2 := (by decide); have a3 := il_ne s7; have e3 : (3 : Int32).toInt = 3 := (by decide); have a4 := il_ne s8; have e4 : (4 : Int32).toInt = 4 := (by decide); have a5 := il_ne s9; have e5 : (5 : Int32).toInt = 5 := (by decide); omega) (by decide) ?_
        refine lv_iconst (v := (-1)) hx hb dX11_field__212 (by decide) ?_
        obtain rfl := Option.some.inj h
        exact W.iret hx hb hr (fun t ht hW => ⟨⟨_, (), rfl, rfl, ⟨by rw [ht]; exact hP, va_K.moved hW.alike hK, hD⟩⟩, hS.F ht⟩) hS.2.2 dX11_field__213
    · replace h := ip hc h
      refine lv_iconst (v := (-1)) hx hb dX11_field__79 (by decide) ?_
      obtain rfl := Option.some.inj h
      exact W.iret hx hb hr (fun t ht hW => ⟨⟨_, (), rfl, rfl, ⟨by rw [ht]; exact hP, va_K.moved hW.alike hK, hD⟩⟩, hS.F ht⟩) hS.2.2 dX11_field__80

set_option maxRecDepth 100000 in
set_option maxHeartbeats 4000000 in
theorem b_X11_field__36 {p : Program} {l : Launch} {e : Env} {s : State} {m : MethodId} {args : Array Value} {below : List Frame} {meth : Method} {c : Code} {dC : Nat → ClassId} {dI : Nat → Nat → Nat} {a : Nat → Nat} {k : Nat → ClassId} {A : Nat → Prop} {q : Int32 × ST} (hC : CxB p s m args meth c dC dI k A cX11_field_ RX11 (some .int) 8)   {x1 : Int32} {x2 : Int32} {x3 : Int32} {x4 : Int32} {y0 : Int32} {σ : ST} (h : f_X11_field__36  x1 x2 x3 x4 y0 σ = some q) : GoB p l e ({ frames := 2, cells := 0, slots := 0, locals := 46 } : Room) s m args below meth c (MQ below (qBi dC dI a k A q) args s 0 0 A) dC dI a k A 8 36 σ [(0, .ref (a 0)), (1, .int x1), (2, .int x2), (3, .int x3), (4, .int x4)] [.int y0] := by
  have hC0 := hC
  obtain ⟨hx, hb, hr, hml, hown, hts, hlocks, hA, hN, hK⟩ := hC0
  intro H locs ls hP hD hS hl
  have hD0 : ∀ σ1 : ST, va_D A (wB a k σ1) := fun σ1 => wB_D hD
  unfold f_X11_field__36 at h
  refine lv_istore (lv' := [(5, .int y0), (0, .ref (a 0)), (1, .int x1), (2, .int x2), (3, .int x3), (4, .int x4)]) hx hb dX11_field__36 hl (by decide) rfl (fun ls hl => ?_)
  refine lv_iload hx hb dX11_field__38 (lv_at hl 0 rfl) ?_
  refine lv_if_eq (tgt := 52) hx hb dX11_field__40 (by decide) (fun hc => ?_) (fun hc => ?_)
  · replace h := ip hc h
    refine lv_iconst (v := 0) hx hb dX11_field__52 (by decide) ?_
    exact b_X11_field__53 hC h _ _ _ hP hD hS (lv_sub hl [1, 4, 5, 0] rfl)
  · replace h := iq hc h
    refine lv_bipush (v := 6) hx hb dX11_field__43 (by decide) ?_
    refine lv_iload_n hx hb dX11_field__45 rfl (lv_at hl 2 rfl) ?_
    refine lv_imul hx hb dX11_field__46 ?_
    refine lv_iload_n hx hb dX11_field__47 rfl (lv_at hl 3 rfl) ?_
    refine lv_iadd hx hb dX11_field__48 ?_
    refine lv_goto (tgt := 53) hx hb dX11_field__49 (by decide) ?_
    exact b_X11_field__53 hC h _ _ _ hP hD hS (lv_sub hl [1, 4, 5, 0] rfl)

set_option maxRecDepth 100000 in
set_option maxHeartbeats 4000000 in
theorem b_X11_field__35 {p : Program} {l : Launch} {e : Env} {s : State} {m : MethodId} {args : Array Value} {below : List Frame} {meth : Method} {c : Code} {dC : Nat → ClassId} {dI : Nat → Nat → Nat} {a : Nat → Nat} {k : Nat → ClassId} {A : Nat → Prop} {q : Int32 × ST} (hC : CxB p s m args meth c dC dI k A cX11_field_ RX11 (some .int) 8)   {x1 : Int32} {x2 : Int32} {x3 : Int32} {x4 : Int32} {σ : ST} (h : f_X11_field__35  x1 x2 x3 x4 σ = some q) : GoB p l e ({ frames := 2, cells := 0, slots := 0, locals := 46 } : Room) s m args below meth c (MQ below (qBi dC dI a k A q) args s 0 0 A) dC dI a k A 8 35 σ [(0, .ref (a 0)), (1, .int x1), (2, .int x2), (3, .int x3), (4, .int x4)] [] := by
  have hC0 := hC
  obtain ⟨hx, hb, hr, hml, hown, hts, hlocks, hA, hN, hK⟩ := hC0
  intro H locs ls hP hD hS hl
  have hD0 : ∀ σ1 : ST, va_D A (wB a k σ1) := fun σ1 => wB_D hD
  unfold f_X11_field__35 at h
  refine lv_iconst (v := 0) hx hb dX11_field__35 (by decide) ?_
  exact b_X11_field__36 hC h _ _ _ hP hD hS (lv_sub hl [0, 1, 2, 3, 4] rfl)

set_option maxRecDepth 100000 in
set_option maxHeartbeats 4000000 in
theorem b_X11_field__e {p : Program} {l : Launch} {e : Env} {s : State} {m : MethodId} {args : Array Value} {below : List Frame} {meth : Method} {c : Code} {dC : Nat → ClassId} {dI : Nat → Nat → Nat} {a : Nat → Nat} {k : Nat → ClassId} {A : Nat → Prop} {q : Int32 × ST} (hC : CxB p s m args meth c dC dI k A cX11_field_ RX11 (some .int) 8)   {p0 : Int32} {p1 : Int32} {p2 : Int32} {p3 : Int32} {σ : ST} (h : f_X11_field_  p0 p1 p2 p3 σ = some q) : GoB p l e ({ frames := 2, cells := 0, slots := 0, locals := 46 } : Room) s m args below meth c (MQ below (qBi dC dI a k A q) args s 0 0 A) dC dI a k A 8 0 σ (lv_args 0 [.ref (a 0), .int p0, .int p1, .int p2, .int p3]) [] := by
  have hC0 := hC
  obtain ⟨hx, hb, hr, hml, hown, hts, hlocks, hA, hN, hK⟩ := hC0
  intro H locs ls hP hD hS hl
  have hD0 : ∀ σ1 : ST, va_D A (wB a k σ1) := fun σ1 => wB_D hD
  replace hl : lv_has ls 8 [(0, .ref (a 0)), (1, .int p0), (2, .int p1), (3, .int p2), (4, .int p3)] := hl
  unfold f_X11_field_ at h
  refine lv_aload_n hx hb dX11_field__0 rfl (lv_at hl 0 rfl) ?_
  refine lv_iconst (v := 0) hx hb dX11_field__1 (by decide) ?_
  refine va_put (D := (dC, dI)) (ci := 11) (ty := .int) (C := RX11) (T := TX11) (N := 95) hx hb hts inlX11 tyX11 tyX11_ok nmX11 hown hK hP hD hS 0 gB_0 rfl 0 (by decide) (hts (.fieldLink RX11 178 "ShapeReaderModel" "thrown" "I") mw_28_22) (fun _ h9 => h9) rfl (by decide +kernel) rfl rfl (Nat.le_of_ble_eq_true rfl) dX11_field__2 (fun H locs hP hD hS => ?_)
  replace hP := uB_0_0 hP
  replace hD := hD0 ((stI σ 0 0 0))
  refine lv_aload_n hx hb dX11_field__5 rfl (lv_at hl 0 rfl) ?_
  refine lv_iload_n hx hb dX11_field__6 rfl (lv_at hl 1 rfl) ?_
  obtain ⟨q1, hc, h⟩ := ib h
  have hF := va_frees hD hS hA
  refine va_calli (va_runV (As := [.int p0]) (rest := []) ⟨hx, hb, hml, hown, hts⟩ (s_X11_isPlanAt hc) (cwV 1 hts (gV mw_33_22 mw_33_23 mw_33_24 mw_0_15 mw_55_9) rfl rfl rfl (by decide +kernel) ⟨(Nat.le_of_ble_eq_true rfl), (Nat.le_of_ble_eq_true rfl)⟩) (vV (ci := 11) (q0 := 0) hK hP hD hN rfl gB_0) rfl rfl hl.1 rfl (lv_room (Nat.le_of_ble_eq_true rfl)) dX11_field__7 ⟨(Nat.le_of_ble_eq_true rfl), (Nat.le_of_ble_eq_true rfl)⟩) hS (fun q _ h => hF q h) hF (fun r2 u t H locs ht hvm hw hB _ _ hS => ?_)
  obtain rfl : r2 = q1.1 := hw
  replace hP : va_P (dC, dI) vwCl (wB a k q1.2) H := by rw [← ht]; exact hB.1
  replace hD := hD0 (q1.2)
  clear hB hF
  refine lv_if_eq (tgt := 35) hx hb dX11_field__10 (by decide) (fun hc => ?_) (fun hc => ?_)
  · replace h := ip hc h
    exact b_X11_field__35 hC h _ _ _ hP hD hS (lv_sub hl [0, 1, 2, 3, 4] rfl)
  · replace h := iq hc h
    refine lv_iload_n hx hb dX11_field__13 rfl (lv_at hl 2 rfl) ?_
    refine lv_i2l (v := p1.toInt64) hx hb dX11_field__14 rfl ?_
    refine lv_lconst (v := 0) hx hb dX11_field__15 (by decide) ?_
    refine lv_aload_n hx hb dX11_field__16 rfl (lv_at hl 0 rfl) ?_
    refine va_get (D := (dC, dI)) (ci := 11) (C := RX11) (T := TX11) (N := 95) hx hb hts inlX11 hown hK hP 0 gB_0 rfl 20 (by decide) (hts (.fieldLink RX11 33 "ShapeReaderModel" "recordMany" "[I") mw_27_4) (fun _ h9 => h9) rfl dX11_field__17 ?_
    refine lv_iload_n hx hb dX11_field__20 rfl (lv_at hl 1 rfl) ?_
    obtain ⟨hg3, h⟩ := ig h
    refine va_iald hx hb hK hP 8 7 gB_8 yB_8 (vp_in_iff.mpr hg3) dX11_field__21 ?_
    refine lv_iconst (v := 1) hx hb dX11_field__22 (by decide) ?_
    refine lv_isub hx hb dX11_field__23 ?_
    refine lv_i2l (v := ((q1.2.1 8 p0.toNatClampNeg) - 1).toInt64) hx hb dX11_field__24 rfl ?_
    obtain ⟨q4, hc, h⟩ := ib h
    have hF := va_frees hD hS hA
    refine va_calli (va_runS (As := [.long (p1.toInt64), .long 0, .long (((q1.2.1 8 p0.toNatClampNeg) - 1).toInt64)]) (rest := []) ⟨hx, hb, hml, hown, hts⟩ (s_X11_within hc) (va_cwS 3 hts (gS mw_29_0 mw_29_1 mw_0_15 mw_53_26) rfl rfl rfl (by decide +kernel) ⟨(Nat.le_of_ble_eq_true rfl), (Nat.le_of_ble_eq_true rfl)⟩) (vS hK hP hD hN) rfl rfl hl.1 rfl (lv_room (Nat.le_of_ble_eq_true rfl)) dX11_field__25 ⟨(Nat.le_of_ble_eq_true rfl), (Nat.le_of_ble_eq_true rfl)⟩) hS (fun q _ h => hF q h) hF (fun r5 u t H locs ht hvm hw hB _ _ hS => ?_)
    obtain rfl : r5 = q4.1 := hw
    replace hP : va_P (dC, dI) vwCl (wB a k q4.2) H := by rw [← ht]; exact hB.1
    replace hD := hD0 (q4.2)
    clear hB hF
    refine lv_if_eq (tgt := 35) hx hb dX11_field__28 (by decide) (fun hc => ?_) (fun hc => ?_)
    · replace h := ip hc h
      exact b_X11_field__35 hC h _ _ _ hP hD hS (lv_sub hl [0, 1, 2, 3, 4] rfl)
    · replace h := iq hc h
      refine lv_iconst (v := 1) hx hb dX11_field__31 (by decide) ?_
      refine lv_goto (tgt := 36) hx hb dX11_field__32 (by decide) ?_
      exact b_X11_field__36 hC h _ _ _ hP hD hS (lv_sub hl [0, 1, 2, 3, 4] rfl)

theorem s_X11_field_ {l : Launch} {dC : Nat → ClassId} {dI : Nat → Nat → Nat} {a : Nat → Nat} {k : Nat → ClassId} {sz : Nat} {p0 : Int32} {p1 : Int32} {p2 : Int32} {p3 : Int32} {σ : ST} {q : Int32 × ST} (h : f_X11_field_  p0 p1 p2 p3 σ = some q) : Met l yX11_field_ (.code yX11_field_ cX11_field_ 8 (some .int) :: pw) ({ frames := 2, cells := 0, slots := 0, locals := 46 } : Room) (va_Pc [.ref (a 0), .int p0, .int p1, .int p2, .int p3] (vPre dC dI (wB a k σ) (tB k) sz)) (qBi dC dI a k (va_A (wB a k σ) sz) q) 0 0 (va_A (wB a k σ) sz) := metB (fun A => qBi dC dI a k A q) (plainFor_of_name (by decide)) (Nat.le_of_ble_eq_true rfl) (fun _ _ _ _ _ _ _ _ hC => b_X11_field__e hC h)

def f_X11_hasChild_35 (k10 : Int32 → Int32 → Int32 → ST → Option (Int32 × ST)) (x2 : Int32) (x4 : Int32) (y0 : Int32) (σ : ST) : Option (Int32 × ST) := if 0 ≤ x4.toInt ∧ x4.toInt < 4096 then (k10 x2 y0 (σ.1 30 x4.toNatClampNeg) σ) else none
def f_X11_hasChild_30 (k10 : Int32 → Int32 → Int32 → ST → Option (Int32 × ST)) (x2 : Int32) (x4 : Int32) (σ : ST) : Option (Int32 × ST) := f_X11_hasChild_35 k10 x2 x4 1 σ
def f_X11_hasChild_10  : Nat → Int32 → Int32 → Int32 → ST → Option (Int32 × ST)
  | 0, _, _, _, _ => none
  | n + 1, x2, x3, x4, σ => if x4 < 0 then (if x3 = 0 ∨ x3 = 1 then some (x3, σ) else none) else (if x3 = 0 then (if 0 ≤ x4.toInt ∧ x4.toInt < 4096 then (if (σ.1 25 x4.toNatClampNeg) = x2 then (f_X11_hasChild_30 (f_X11_hasChild_10  n) x2 x4 σ) else (f_X11_hasChild_35 (f_X11_hasChild_10  n) x2 x4 0 σ)) else none) else (f_X11_hasChild_30 (f_X11_hasChild_10  n) x2 x4 σ))
def f_X11_hasChild (p0 : Int32) (p1 : Int32) (σ : ST) : Option (Int32 × ST) := if 0 ≤ p0.toInt ∧ p0.toInt < 4096 then (f_X11_hasChild_10  FU p1 0 (σ.1 28 p0.toNatClampNeg) σ) else none

set_option maxRecDepth 100000 in
set_option maxHeartbeats 4000000 in
theorem b_X11_hasChild_35 {p : Program} {l : Launch} {e : Env} {s : State} {m : MethodId} {args : Array Value} {below : List Frame} {meth : Method} {c : Code} {dC : Nat → ClassId} {dI : Nat → Nat → Nat} {a : Nat → Nat} {k : Nat → ClassId} {A : Nat → Prop} {q : Int32 × ST} (hC : CxB p s m args meth c dC dI k A cX11_hasChild RX11 (some .boolean) 5)  {k10 : Int32 → Int32 → Int32 → ST → Option (Int32 × ST)} (hk10 : ∀ (x2 : Int32) (x3 : Int32) (x4 : Int32) (σ : ST), k10 x2 x3 x4 σ = some q → GoB p l e ({ frames := 0, cells := 0, slots := 0, locals := 0 } : Room) s m args below meth c (MQ below (qBi dC dI a k A q) args s 0 0 A) dC dI a k A 5 10 σ [(0, .ref (a 0)), (2, .int x2), (3, .int x3), (4, .int x4)] []) {x2 : Int32} {x4 : Int32} {y0 : Int32} {σ : ST} (h : f_X11_hasChild_35 k10 x2 x4 y0 σ = some q) : GoB p l e ({ frames := 0, cells := 0, slots := 0, locals := 0 } : Room) s m args below meth c (MQ below (qBi dC dI a k A q) args s 0 0 A) dC dI a k A 5 35 σ [(0, .ref (a 0)), (2, .int x2), (4, .int x4)] [.int y0] := by
  have hC0 := hC
  obtain ⟨hx, hb, hr, hml, hown, hts, hlocks, hA, hN, hK⟩ := hC0
  intro H locs ls hP hD hS hl
  have hD0 : ∀ σ1 : ST, va_D A (wB a k σ1) := fun σ1 => wB_D hD
  unfold f_X11_hasChild_35 at h
  refine lv_istore_n (lv' := [(3, .int y0), (0, .ref (a 0)), (2, .int x2), (4, .int x4)]) hx hb dX11_hasChild_35 rfl hl (by decide) rfl (fun ls hl => ?_)
  refine lv_aload_n hx hb dX11_hasChild_36 rfl (lv_at hl 1 rfl) ?_
  refine va_get (D := (dC, dI)) (ci := 11) (C := RX11) (T := TX11) (N := 95) hx hb hts inlX11 hown hK hP 0 gB_0 rfl 45 (by decide) (hts (.fieldLink RX11 100 "ShapeReaderModel" "nodeNext" "[I") mw_27_26) (fun _ h9 => h9) rfl dX11_hasChild_37 ?_
  refine lv_iload hx hb dX11_hasChild_40 (lv_at hl 3 rfl) ?_
  obtain ⟨hg1, h⟩ := ig h
  refine va_iald hx hb hK hP 30 29 gB_30 yB_30 (vp_in_iff.mpr hg1) dX11_hasChild_42 ?_
  refine lv_istore (lv' := [(4, .int (σ.1 30 x4.toNatClampNeg)), (3, .int y0), (0, .ref (a 0)), (2, .int x2)]) hx hb dX11_hasChild_43 hl (by decide) rfl (fun ls hl => ?_)
  refine lv_goto (tgt := 10) hx hb dX11_hasChild_45 (by decide) ?_
  exact hk10 _ _ _ _ h _ _ _ hP hD hS (lv_sub hl [2, 3, 1, 0] rfl)

set_option maxRecDepth 100000 in
set_option maxHeartbeats 4000000 in
theorem b_X11_hasChild_30 {p : Program} {l : Launch} {e : Env} {s : State} {m : MethodId} {args : Array Value} {below : List Frame} {meth : Method} {c : Code} {dC : Nat → ClassId} {dI : Nat → Nat → Nat} {a : Nat → Nat} {k : Nat → ClassId} {A : Nat → Prop} {q : Int32 × ST} (hC : CxB p s m args meth c dC dI k A cX11_hasChild RX11 (some .boolean) 5)  {k10 : Int32 → Int32 → Int32 → ST → Option (Int32 × ST)} (hk10 : ∀ (x2 : Int32) (x3 : Int32) (x4 : Int32) (σ : ST), k10 x2 x3 x4 σ = some q → GoB p l e ({ frames := 0, cells := 0, slots := 0, locals := 0 } : Room) s m args below meth c (MQ below (qBi dC dI a k A q) args s 0 0 A) dC dI a k A 5 10 σ [(0, .ref (a 0)), (2, .int x2), (3, .int x3), (4, .int x4)] []) {x2 : Int32} {x4 : Int32} {σ : ST} (h : f_X11_hasChild_30 k10 x2 x4 σ = some q) : GoB p l e ({ frames := 0, cells := 0, slots := 0, locals := 0 } : Room) s m args below meth c (MQ below (qBi dC dI a k A q) args s 0 0 A) dC dI a k A 5 30 σ [(0, .ref (a 0)), (2, .int x2), (4, .int x4)] [] := by
  have hC0 := hC
  obtain ⟨hx, hb, hr, hml, hown, hts, hlocks, hA, hN, hK⟩ := hC0
  intro H locs ls hP hD hS hl
  have hD0 : ∀ σ1 : ST, va_D A (wB a k σ1) := fun σ1 => wB_D hD
  unfold f_X11_hasChild_30 at h
  refine lv_iconst (v := 1) hx hb dX11_hasChild_30 (by decide) ?_
  refine lv_goto (tgt := 35) hx hb dX11_hasChild_31 (by decide) ?_
  exact b_X11_hasChild_35 hC hk10 h _ _ _ hP hD hS (lv_sub hl [0, 1, 2] rfl)

set_option maxRecDepth 100000 in
set_option maxHeartbeats 4000000 in
theorem b_X11_hasChild_10 {p : Program} {l : Launch} {e : Env} {s : State} {m : MethodId} {args : Array Value} {below : List Frame} {meth : Method} {c : Code} {dC : Nat → ClassId} {dI : Nat → Nat → Nat} {a : Nat → Nat} {k : Nat → ClassId} {A : Nat → Prop} {q : Int32 × ST} (hC : CxB p s m args meth c dC dI k A cX11_hasChild RX11 (some .boolean) 5)   : ∀ (n : Nat) (x2 : Int32) (x3 : Int32) (x4 : Int32) (σ : ST), f_X11_hasChild_10  n x2 x3 x4 σ = some q → GoB p l e ({ frames := 0, cells := 0, slots := 0, locals := 0 } : Room) s m args below meth c (MQ below (qBi dC dI a k A q) args s 0 0 A) dC dI a k A 5 10 σ [(0, .ref (a 0)), (2, .int x2), (3, .int x3), (4, .int x4)] [] := by
  intro n
  induction n with
  | zero =>
    intro x2 x3 x4 σ h
    rw [f_X11_hasChild_10] at h
    cases h
  | succ n ih =>
    intro x2 x3 x4 σ h
    have hC0 := hC
    obtain ⟨hx, hb, hr, hml, hown, hts, hlocks, hA, hN, hK⟩ := hC0
    intro H locs ls hP hD hS hl
    have hD0 : ∀ σ1 : ST, va_D A (wB a k σ1) := fun σ1 => wB_D hD
    rw [f_X11_hasChild_10] at h
    refine lv_iload hx hb dX11_hasChild_10 (lv_at hl 3 rfl) ?_
    refine lv_if_lt (tgt := 48) hx hb dX11_hasChild_12 (by decide) (fun hc => ?_) (fun hc => ?_)
    · replace h := ip hc h
      refine lv_iload_n hx hb dX11_hasChild_48 rfl (lv_at hl 2 rfl) ?_
      obtain ⟨hg, h⟩ := ig h
      obtain rfl := Option.some.inj h
      exact W.zret hx hb hr (zn hg) (fun t ht hW => ⟨⟨_, (), rfl, rfl, ⟨by rw [ht]; exact hP, va_K.moved hW.alike hK, hD⟩⟩, hS.F ht⟩) hS.2.2 dX11_hasChild_49
    · replace h := iq hc h
      refine lv_iload_n hx hb dX11_hasChild_15 rfl (lv_at hl 2 rfl) ?_
      refine lv_if_ne (tgt := 30) hx hb dX11_hasChild_16 (by decide) (fun hc => ?_) (fun hc => ?_)
      · replace h := iq hc h
        exact b_X11_hasChild_30 hC ih h _ _ _ hP hD hS (lv_sub hl [0, 1, 3] rfl)
      · replace h := ip hc h
        refine lv_aload_n hx hb dX11_hasChild_19 rfl (lv_at hl 0 rfl) ?_
        refine va_get (D := (dC, dI)) (ci := 11) (C := RX11) (T := TX11) (N := 95) hx hb hts inlX11 hown hK hP 0 gB_0 rfl 40 (by decide) (hts (.fieldLink RX11 85 "ShapeReaderModel" "nodeIndex" "[I") mw_27_21) (fun _ h9 => h9) rfl dX11_hasChild_20 ?_
        refine lv_iload hx hb dX11_hasChild_23 (lv_at hl 3 rfl) ?_
        obtain ⟨hg1, h⟩ := ig h
        refine va_iald hx hb hK hP 25 24 gB_25 yB_25 (vp_in_iff.mpr hg1) dX11_hasChild_25 ?_
        refine lv_iload_n hx hb dX11_hasChild_26 rfl (lv_at hl 1 rfl) ?_
        refine lv_icmp_ne (tgt := 34) hx hb dX11_hasChild_27 (by decide) (fun hc => ?_) (fun hc => ?_)
        · replace h := iq hc h
          refine lv_iconst (v := 0) hx hb dX11_hasChild_34 (by decide) ?_
          exact b_X11_hasChild_35 hC ih h _ _ _ hP hD hS (lv_sub hl [0, 1, 3] rfl)
        · replace h := ip hc h
          exact b_X11_hasChild_30 hC ih h _ _ _ hP hD hS (lv_sub hl [0, 1, 3] rfl)

set_option maxRecDepth 100000 in
set_option maxHeartbeats 4000000 in
theorem b_X11_hasChild_e {p : Program} {l : Launch} {e : Env} {s : State} {m : MethodId} {args : Array Value} {below : List Frame} {meth : Method} {c : Code} {dC : Nat → ClassId} {dI : Nat → Nat → Nat} {a : Nat → Nat} {k : Nat → ClassId} {A : Nat → Prop} {q : Int32 × ST} (hC : CxB p s m args meth c dC dI k A cX11_hasChild RX11 (some .boolean) 5)   {p0 : Int32} {p1 : Int32} {σ : ST} (h : f_X11_hasChild  p0 p1 σ = some q) : GoB p l e ({ frames := 0, cells := 0, slots := 0, locals := 0 } : Room) s m args below meth c (MQ below (qBi dC dI a k A q) args s 0 0 A) dC dI a k A 5 0 σ (lv_args 0 [.ref (a 0), .int p0, .int p1]) [] := by
  have hC0 := hC
  obtain ⟨hx, hb, hr, hml, hown, hts, hlocks, hA, hN, hK⟩ := hC0
  intro H locs ls hP hD hS hl
  have hD0 : ∀ σ1 : ST, va_D A (wB a k σ1) := fun σ1 => wB_D hD
  replace hl : lv_has ls 5 [(0, .ref (a 0)), (1, .int p0), (2, .int p1)] := hl
  unfold f_X11_hasChild at h
  refine lv_iconst (v := 0) hx hb dX11_hasChild_0 (by decide) ?_
  refine lv_istore_n (lv' := [(3, .int 0), (0, .ref (a 0)), (1, .int p0), (2, .int p1)]) hx hb dX11_hasChild_1 rfl hl (by decide) rfl (fun ls hl => ?_)
  refine lv_aload_n hx hb dX11_hasChild_2 rfl (lv_at hl 1 rfl) ?_
  refine va_get (D := (dC, dI)) (ci := 11) (C := RX11) (T := TX11) (N := 95) hx hb hts inlX11 hown hK hP 0 gB_0 rfl 43 (by decide) (hts (.fieldLink RX11 94 "ShapeReaderModel" "nodeFirst" "[I") mw_27_24) (fun _ h9 => h9) rfl dX11_hasChild_3 ?_
  refine lv_iload_n hx hb dX11_hasChild_6 rfl (lv_at hl 2 rfl) ?_
  obtain ⟨hg1, h⟩ := ig h
  refine va_iald hx hb hK hP 28 27 gB_28 yB_28 (vp_in_iff.mpr hg1) dX11_hasChild_7 ?_
  refine lv_istore (lv' := [(4, .int (σ.1 28 p0.toNatClampNeg)), (3, .int 0), (0, .ref (a 0)), (1, .int p0), (2, .int p1)]) hx hb dX11_hasChild_8 hl (by decide) rfl (fun ls hl => ?_)
  exact b_X11_hasChild_10 hC FU _ _ _ _ h _ _ _ hP hD hS (lv_sub hl [2, 4, 1, 0] rfl)

theorem s_X11_hasChild {l : Launch} {dC : Nat → ClassId} {dI : Nat → Nat → Nat} {a : Nat → Nat} {k : Nat → ClassId} {sz : Nat} {p0 : Int32} {p1 : Int32} {σ : ST} {q : Int32 × ST} (h : f_X11_hasChild  p0 p1 σ = some q) : Met l yX11_hasChild (.code yX11_hasChild cX11_hasChild 5 (some .boolean) :: pw) ({ frames := 0, cells := 0, slots := 0, locals := 0 } : Room) (va_Pc [.ref (a 0), .int p0, .int p1] (vPre dC dI (wB a k σ) (tB k) sz)) (qBi dC dI a k (va_A (wB a k σ) sz) q) 0 0 (va_A (wB a k σ) sz) := metB (fun A => qBi dC dI a k A q) (plainFor_of_name (by decide)) (Nat.le_of_ble_eq_true rfl) (fun _ _ _ _ _ _ _ _ hC => b_X11_hasChild_e hC h)

def f_X11_isValue_16 (σ : ST) : Option ((Int32 × ST) × Nat) := some ((1, σ), 0)
def f_X11_isValue (σ : ST) : Option ((Int32 × ST) × Nat) := (f_X11_isLiteral   σ).bind fun q1 => ac q1.2 (if q1.1.1 = 0 then (if (q1.1.2.1 0 13) = 123 then (f_X11_isValue_16   q1.1.2) else (some ((0, q1.1.2), 0))) else (f_X11_isValue_16   q1.1.2))

set_option maxRecDepth 100000 in
set_option maxHeartbeats 4000000 in
theorem b_X11_isValue_16 {p : Program} {l : Launch} {e : Env} {s : State} {m : MethodId} {args : Array Value} {below : List Frame} {meth : Method} {c : Code} {dC : Nat → ClassId} {dI : Nat → Nat → Nat} {a : Nat → Nat} {k : Nat → ClassId} {A : Nat → Prop} {q : Int32 × ST} {T r κ : Nat} (hC : CxB p s m args meth c dC dI k A cX11_isValue RX11 (some .boolean) 1)    {σ : ST} (h : f_X11_isValue_16   σ = some (q, r)) (hκ : κ + r = T) : GkB p l e ({ frames := 3, cells := T, slots := 6 * T, locals := 69 } : Room) s m args below meth c (MQ below (qBi dC dI a k A q) args s T (6 * T) A) dC dI a k A 1 16 κ σ [] [] := by
  have hC0 := hC
  obtain ⟨hx, hb, hr, hml, hown, hts, hlocks, hA, hN, hK⟩ := hC0
  intro H locs ls hP hD hS hl
  have hD0 : ∀ σ1 : ST, va_D A (wB a k σ1) := fun σ1 => wB_D hD
  unfold f_X11_isValue_16 at h
  refine lv_iconst (v := 1) hx hb dX11_isValue_16 (by decide) ?_
  refine lv_goto (tgt := 21) hx hb dX11_isValue_17 (by decide) ?_
  obtain ⟨rfl, rfl⟩ := Prod.mk.inj (Option.some.inj h)
  subst hκ
  exact W.zret hx hb hr rfl (fun t ht hW => ⟨⟨_, (), rfl, rfl, ⟨by rw [ht]; exact hP, va_K.moved hW.alike hK, hD⟩⟩, hS.F ht⟩) hS.2.2 dX11_isValue_21

set_option maxRecDepth 100000 in
set_option maxHeartbeats 4000000 in
theorem b_X11_isValue_e {p : Program} {l : Launch} {e : Env} {s : State} {m : MethodId} {args : Array Value} {below : List Frame} {meth : Method} {c : Code} {dC : Nat → ClassId} {dI : Nat → Nat → Nat} {a : Nat → Nat} {k : Nat → ClassId} {A : Nat → Prop} {q : Int32 × ST} {T r : Nat} (hC : CxB p s m args meth c dC dI k A cX11_isValue RX11 (some .boolean) 1)    {σ : ST} (h : f_X11_isValue   σ = some (q, r)) (hκ : 0 + r = T) : GkB p l e ({ frames := 3, cells := T, slots := 6 * T, locals := 69 } : Room) s m args below meth c (MQ below (qBi dC dI a k A q) args s T (6 * T) A) dC dI a k A 1 0 0 σ (lv_args 0 [.ref (a 0)]) [] := by
  have hC0 := hC
  obtain ⟨hx, hb, hr, hml, hown, hts, hlocks, hA, hN, hK⟩ := hC0
  intro H locs ls hP hD hS hl
  have hD0 : ∀ σ1 : ST, va_D A (wB a k σ1) := fun σ1 => wB_D hD
  replace hl : lv_has ls 1 [(0, .ref (a 0))] := hl
  unfold f_X11_isValue at h
  refine lv_aload_n hx hb dX11_isValue_0 rfl (lv_at hl 0 rfl) ?_
  obtain ⟨q1, hc, h⟩ := ib h
  obtain ⟨r2, h, hz⟩ := acE h
  have hF := va_frees hD hS hA
  refine va_calli (va_runV (As := []) (rest := []) ⟨hx, hb, hml, hown, hts⟩ (s_X11_isLiteral (q := q1.1) (r := q1.2) hc) (cwV 0 hts (gV mw_32_2 mw_32_3 mw_32_4 mw_0_15 mw_54_25) rfl rfl rfl (by decide +kernel) ⟨(Nat.le_of_ble_eq_true rfl), (Nat.le_of_ble_eq_true rfl)⟩) (vV (ci := 11) (q0 := 0) hK hP hD hN rfl gB_0) rfl rfl hl.1 rfl (lv_room (Nat.le_of_ble_eq_true rfl)) dX11_isValue_1 ⟨by show 0 + q1.2 ≤ T; omega, by show 6 * 0 + 6 * q1.2 ≤ 6 * T; omega⟩) hS (fun q _ h => hF q h) hF (fun r2 u t H locs ht hvm hw hB _ _ hS => ?_)
  obtain rfl : r2 = q1.1.1 := hw
  replace hκ : (0 + q1.2) + r2 = T := by omega
  clear hz
  refine W.widen (k := (0 + q1.2)) (n := 6 * (0 + q1.2)) (Nat.le_refl _) (by omega) ?_
  replace hP : va_P (dC, dI) vwCl (wB a k q1.1.2) H := by rw [← ht]; exact hB.1
  replace hD := hD0 (q1.1.2)
  clear hB hF
  refine lv_if_ne (tgt := 16) hx hb dX11_isValue_4 (by decide) (fun hc => ?_) (fun hc => ?_)
  · replace h := iq hc h
    exact b_X11_isValue_16 hC h hκ _ _ _ hP hD hS (lv_sub hl [] rfl)
  · replace h := ip hc h
    refine lv_aload_n hx hb dX11_isValue_7 rfl (lv_at hl 0 rfl) ?_
    refine va_get (D := (dC, dI)) (ci := 11) (C := RX11) (T := TX11) (N := 95) hx hb hts inlX11 hown hK hP 0 gB_0 rfl 13 (by decide) (hts (.fieldLink RX11 253 "ShapeReaderModel" "sign" "I") mw_29_26) (fun _ h9 => h9) rfl dX11_isValue_8 ?_
    refine lv_bipush (v := 123) hx hb dX11_isValue_11 (by decide) ?_
    refine lv_icmp_ne (tgt := 20) hx hb dX11_isValue_13 (by decide) (fun hc => ?_) (fun hc => ?_)
    · replace h := iq hc h
      refine lv_iconst (v := 0) hx hb dX11_isValue_20 (by decide) ?_
      obtain ⟨rfl, rfl⟩ := Prod.mk.inj (Option.some.inj h)
      subst hκ
      exact W.zret hx hb hr rfl (fun t ht hW => ⟨⟨_, (), rfl, rfl, ⟨by rw [ht]; exact hP, va_K.moved hW.alike hK, hD⟩⟩, hS.F ht⟩) hS.2.2 dX11_isValue_21
    · replace h := ip hc h
      exact b_X11_isValue_16 hC h hκ _ _ _ hP hD hS (lv_sub hl [] rfl)

theorem s_X11_isValue {l : Launch} {dC : Nat → ClassId} {dI : Nat → Nat → Nat} {a : Nat → Nat} {k : Nat → ClassId} {sz : Nat}  {σ : ST} {q : Int32 × ST} {r : Nat} (h : f_X11_isValue   σ = some (q, r)) : Met l yX11_isValue (.code yX11_isValue cX11_isValue 1 (some .boolean) :: pw) ({ frames := 3, cells := r, slots := 6 * r, locals := 69 } : Room) (va_Pc [.ref (a 0)] (vPre dC dI (wB a k σ) (tB k) sz)) (qBi dC dI a k (va_A (wB a k σ) sz) q) r (6 * r) (va_A (wB a k σ) sz) := mekB (fun A => qBi dC dI a k A q) (plainFor_of_name (by decide)) (Nat.le_of_ble_eq_true rfl) (fun _ _ _ _ _ _ _ _ hC => b_X11_isValue_e hC h (Nat.zero_add _))
