theorem dX0_fits_0 : decode cX0_fits 0 = .ok (.aload_n 0, 1) := by decide +kernel
theorem dX0_fits_1 : decode cX0_fits 1 = .ok (.iload_n 1, 1) := by decide +kernel
theorem dX0_fits_2 : decode cX0_fits 2 = .ok (.iload_n 2, 1) := by decide +kernel
theorem dX0_fits_3 : decode cX0_fits 3 = .ok (.iconst 0, 1) := by decide +kernel
theorem dX0_fits_4 : decode cX0_fits 4 = .ok (.invokevirtual 110, 3) := by decide +kernel
theorem dX0_fits_7 : decode cX0_fits 7 = .ok (.ireturn, 1) := by decide +kernel
theorem dX0_mayPair_0 : decode cX0_mayPair 0 = .ok (.iload_n 1, 1) := by decide +kernel
theorem dX0_mayPair_1 : decode cX0_mayPair 1 = .ok (.bipush 6, 2) := by decide +kernel
theorem dX0_mayPair_3 : decode cX0_mayPair 3 = .ok (.invokestatic 61, 3) := by decide +kernel
theorem dX0_mayPair_6 : decode cX0_mayPair 6 = .ok (.ifCond .ne 12, 3) := by decide +kernel
theorem dX0_mayPair_9 : decode cX0_mayPair 9 = .ok (.iload_n 2, 1) := by decide +kernel
theorem dX0_mayPair_10 : decode cX0_mayPair 10 = .ok (.bipush 6, 2) := by decide +kernel
theorem dX0_mayPair_12 : decode cX0_mayPair 12 = .ok (.invokestatic 61, 3) := by decide +kernel
theorem dX0_mayPair_15 : decode cX0_mayPair 15 = .ok (.ifCond .eq 23, 3) := by decide +kernel
theorem dX0_mayPair_18 : decode cX0_mayPair 18 = .ok (.aload_n 0, 1) := by decide +kernel
theorem dX0_mayPair_19 : decode cX0_mayPair 19 = .ok (.getfield 51, 3) := by decide +kernel
theorem dX0_mayPair_22 : decode cX0_mayPair 22 = .ok (.iload_n 1, 1) := by decide +kernel
theorem dX0_mayPair_23 : decode cX0_mayPair 23 = .ok (.invokevirtual 93, 3) := by decide +kernel
theorem dX0_mayPair_26 : decode cX0_mayPair 26 = .ok (.aload_n 0, 1) := by decide +kernel
theorem dX0_mayPair_27 : decode cX0_mayPair 27 = .ok (.getfield 51, 3) := by decide +kernel
theorem dX0_mayPair_30 : decode cX0_mayPair 30 = .ok (.iload_n 2, 1) := by decide +kernel
theorem dX0_mayPair_31 : decode cX0_mayPair 31 = .ok (.invokevirtual 93, 3) := by decide +kernel
theorem dX0_mayPair_34 : decode cX0_mayPair 34 = .ok (.lcmp, 1) := by decide +kernel
theorem dX0_mayPair_35 : decode cX0_mayPair 35 = .ok (.ifCond .ne 7, 3) := by decide +kernel
theorem dX0_mayPair_38 : decode cX0_mayPair 38 = .ok (.iconst 1, 1) := by decide +kernel
theorem dX0_mayPair_39 : decode cX0_mayPair 39 = .ok (.goto 4, 3) := by decide +kernel
theorem dX0_mayPair_42 : decode cX0_mayPair 42 = .ok (.iconst 0, 1) := by decide +kernel
theorem dX0_mayPair_43 : decode cX0_mayPair 43 = .ok (.ireturn, 1) := by decide +kernel
theorem dX0_pairOf_0 : decode cX0_pairOf 0 = .ok (.iload_n 0, 1) := by decide +kernel
theorem dX0_pairOf_1 : decode cX0_pairOf 1 = .ok (.ifCond .lt 28, 3) := by decide +kernel
theorem dX0_pairOf_4 : decode cX0_pairOf 4 = .ok (.iload_n 0, 1) := by decide +kernel
theorem dX0_pairOf_5 : decode cX0_pairOf 5 = .ok (.bipush 6, 2) := by decide +kernel
theorem dX0_pairOf_7 : decode cX0_pairOf 7 = .ok (.if_icmp .ge 22, 3) := by decide +kernel
theorem dX0_pairOf_10 : decode cX0_pairOf 10 = .ok (.iload_n 1, 1) := by decide +kernel
theorem dX0_pairOf_11 : decode cX0_pairOf 11 = .ok (.ifCond .lt 18, 3) := by decide +kernel
theorem dX0_pairOf_14 : decode cX0_pairOf 14 = .ok (.iload_n 1, 1) := by decide +kernel
theorem dX0_pairOf_15 : decode cX0_pairOf 15 = .ok (.bipush 6, 2) := by decide +kernel
theorem dX0_pairOf_17 : decode cX0_pairOf 17 = .ok (.if_icmp .ge 12, 3) := by decide +kernel
theorem dX0_pairOf_20 : decode cX0_pairOf 20 = .ok (.iload_n 0, 1) := by decide +kernel
theorem dX0_pairOf_21 : decode cX0_pairOf 21 = .ok (.bipush 6, 2) := by decide +kernel
theorem dX0_pairOf_23 : decode cX0_pairOf 23 = .ok (.imul, 1) := by decide +kernel
theorem dX0_pairOf_24 : decode cX0_pairOf 24 = .ok (.iload_n 1, 1) := by decide +kernel
theorem dX0_pairOf_25 : decode cX0_pairOf 25 = .ok (.iadd, 1) := by decide +kernel
theorem dX0_pairOf_26 : decode cX0_pairOf 26 = .ok (.goto 4, 3) := by decide +kernel
theorem dX0_pairOf_29 : decode cX0_pairOf 29 = .ok (.iconst 0, 1) := by decide +kernel
theorem dX0_pairOf_30 : decode cX0_pairOf 30 = .ok (.ireturn, 1) := by decide +kernel
theorem dX0_step_0 : decode cX0_step 0 = .ok (.aload_n 0, 1) := by decide +kernel
theorem dX0_step_1 : decode cX0_step 1 = .ok (.getfield 45, 3) := by decide +kernel
theorem dX0_step_4 : decode cX0_step 4 = .ok (.ifCond .lt 22, 3) := by decide +kernel
theorem dX0_step_7 : decode cX0_step 7 = .ok (.aload_n 0, 1) := by decide +kernel
theorem dX0_step_8 : decode cX0_step 8 = .ok (.getfield 45, 3) := by decide +kernel
theorem dX0_step_11 : decode cX0_step 11 = .ok (.bipush 32, 2) := by decide +kernel
theorem dX0_step_13 : decode cX0_step 13 = .ok (.if_icmp .ge 13, 3) := by decide +kernel
theorem dX0_step_16 : decode cX0_step 16 = .ok (.aload_n 0, 1) := by decide +kernel
theorem dX0_step_17 : decode cX0_step 17 = .ok (.getfield 42, 3) := by decide +kernel
theorem dX0_step_20 : decode cX0_step 20 = .ok (.aload_n 0, 1) := by decide +kernel
theorem dX0_step_21 : decode cX0_step 21 = .ok (.getfield 45, 3) := by decide +kernel
theorem dX0_step_24 : decode cX0_step 24 = .ok (.iload_n 1, 1) := by decide +kernel
theorem dX0_step_25 : decode cX0_step 25 = .ok (.iastore, 1) := by decide +kernel
theorem dX0_step_26 : decode cX0_step 26 = .ok (.aload_n 0, 1) := by decide +kernel
theorem dX0_step_27 : decode cX0_step 27 = .ok (.dup, 1) := by decide +kernel
theorem dX0_step_28 : decode cX0_step 28 = .ok (.getfield 45, 3) := by decide +kernel
theorem dX0_step_31 : decode cX0_step 31 = .ok (.iconst 1, 1) := by decide +kernel
theorem dX0_step_32 : decode cX0_step 32 = .ok (.iadd, 1) := by decide +kernel
theorem dX0_step_33 : decode cX0_step 33 = .ok (.putfield 45, 3) := by decide +kernel
theorem dX0_step_36 : decode cX0_step 36 = .ok (.return_, 1) := by decide +kernel
theorem dX0_walk_0 : decode cX0_walk 0 = .ok (.iload_n 3, 1) := by decide +kernel
theorem dX0_walk_1 : decode cX0_walk 1 = .ok (.bipush 40, 2) := by decide +kernel
theorem dX0_walk_3 : decode cX0_walk 3 = .ok (.if_icmp .gt 12, 3) := by decide +kernel
theorem dX0_walk_6 : decode cX0_walk 6 = .ok (.aload_n 0, 1) := by decide +kernel
theorem dX0_walk_7 : decode cX0_walk 7 = .ok (.getfield 30, 3) := by decide +kernel
theorem dX0_walk_10 : decode cX0_walk 10 = .ok (.bipush 20, 2) := by decide +kernel
theorem dX0_walk_12 : decode cX0_walk 12 = .ok (.if_icmp .lt 4, 3) := by decide +kernel
theorem dX0_walk_15 : decode cX0_walk 15 = .ok (.return_, 1) := by decide +kernel
theorem dX0_walk_16 : decode cX0_walk 16 = .ok (.aload_n 0, 1) := by decide +kernel
theorem dX0_walk_17 : decode cX0_walk 17 = .ok (.getfield 51, 3) := by decide +kernel
theorem dX0_walk_20 : decode cX0_walk 20 = .ok (.iload_n 1, 1) := by decide +kernel
theorem dX0_walk_21 : decode cX0_walk 21 = .ok (.invokevirtual 114, 3) := by decide +kernel
theorem dX0_walk_24 : decode cX0_walk 24 = .ok (.istore 4, 2) := by decide +kernel
theorem dX0_walk_26 : decode cX0_walk 26 = .ok (.iload 4, 2) := by decide +kernel
theorem dX0_walk_28 : decode cX0_walk 28 = .ok (.bipush 8, 2) := by decide +kernel
theorem dX0_walk_30 : decode cX0_walk 30 = .ok (.if_icmp .ne 11, 3) := by decide +kernel
theorem dX0_walk_33 : decode cX0_walk 33 = .ok (.aload_n 0, 1) := by decide +kernel
theorem dX0_walk_34 : decode cX0_walk 34 = .ok (.iload_n 1, 1) := by decide +kernel
theorem dX0_walk_35 : decode cX0_walk 35 = .ok (.iload_n 2, 1) := by decide +kernel
theorem dX0_walk_36 : decode cX0_walk 36 = .ok (.iload_n 3, 1) := by decide +kernel
theorem dX0_walk_37 : decode cX0_walk 37 = .ok (.invokevirtual 146, 3) := by decide +kernel
theorem dX0_walk_40 : decode cX0_walk 40 = .ok (.return_, 1) := by decide +kernel
theorem dX0_walk_41 : decode cX0_walk 41 = .ok (.iload_n 2, 1) := by decide +kernel
theorem dX0_walk_42 : decode cX0_walk 42 = .ok (.istore 5, 2) := by decide +kernel
theorem dX0_walk_44 : decode cX0_walk 44 = .ok (.aload_n 0, 1) := by decide +kernel
theorem dX0_walk_45 : decode cX0_walk 45 = .ok (.getfield 51, 3) := by decide +kernel
theorem dX0_walk_48 : decode cX0_walk 48 = .ok (.iload_n 2, 1) := by decide +kernel
theorem dX0_walk_49 : decode cX0_walk 49 = .ok (.invokevirtual 114, 3) := by decide +kernel
theorem dX0_walk_52 : decode cX0_walk 52 = .ok (.bipush 8, 2) := by decide +kernel
theorem dX0_walk_54 : decode cX0_walk 54 = .ok (.if_icmp .ne 23, 3) := by decide +kernel
theorem dX0_walk_57 : decode cX0_walk 57 = .ok (.aload_n 0, 1) := by decide +kernel
theorem dX0_walk_58 : decode cX0_walk 58 = .ok (.iload_n 1, 1) := by decide +kernel
theorem dX0_walk_59 : decode cX0_walk 59 = .ok (.iload_n 2, 1) := by decide +kernel
theorem dX0_walk_60 : decode cX0_walk 60 = .ok (.invokevirtual 149, 3) := by decide +kernel
theorem dX0_walk_63 : decode cX0_walk 63 = .ok (.istore 5, 2) := by decide +kernel
theorem dX0_walk_65 : decode cX0_walk 65 = .ok (.iload 5, 2) := by decide +kernel
theorem dX0_walk_67 : decode cX0_walk 67 = .ok (.iconst (-1), 1) := by decide +kernel
theorem dX0_walk_68 : decode cX0_walk 68 = .ok (.if_icmp .ne 9, 3) := by decide +kernel
theorem dX0_walk_71 : decode cX0_walk 71 = .ok (.aload_n 0, 1) := by decide +kernel
theorem dX0_walk_72 : decode cX0_walk 72 = .ok (.iconst 3, 1) := by decide +kernel
theorem dX0_walk_73 : decode cX0_walk 73 = .ok (.invokevirtual 152, 3) := by decide +kernel
theorem dX0_walk_76 : decode cX0_walk 76 = .ok (.return_, 1) := by decide +kernel
theorem dX0_walk_77 : decode cX0_walk 77 = .ok (.aload_n 0, 1) := by decide +kernel
theorem dX0_walk_78 : decode cX0_walk 78 = .ok (.getfield 51, 3) := by decide +kernel
theorem dX0_walk_81 : decode cX0_walk 81 = .ok (.iload 5, 2) := by decide +kernel
theorem dX0_walk_83 : decode cX0_walk 83 = .ok (.invokevirtual 114, 3) := by decide +kernel
theorem dX0_walk_86 : decode cX0_walk 86 = .ok (.istore 6, 2) := by decide +kernel
theorem dX0_walk_88 : decode cX0_walk 88 = .ok (.aload_n 0, 1) := by decide +kernel
theorem dX0_walk_89 : decode cX0_walk 89 = .ok (.getfield 51, 3) := by decide +kernel
theorem dX0_walk_92 : decode cX0_walk 92 = .ok (.iload_n 1, 1) := by decide +kernel
theorem dX0_walk_93 : decode cX0_walk 93 = .ok (.invokevirtual 117, 3) := by decide +kernel
theorem dX0_walk_96 : decode cX0_walk 96 = .ok (.istore 7, 2) := by decide +kernel
theorem dX0_walk_98 : decode cX0_walk 98 = .ok (.aload_n 0, 1) := by decide +kernel
theorem dX0_walk_99 : decode cX0_walk 99 = .ok (.getfield 51, 3) := by decide +kernel
theorem dX0_walk_102 : decode cX0_walk 102 = .ok (.iload 5, 2) := by decide +kernel
theorem dX0_walk_104 : decode cX0_walk 104 = .ok (.invokevirtual 117, 3) := by decide +kernel
theorem dX0_walk_107 : decode cX0_walk 107 = .ok (.istore 8, 2) := by decide +kernel
theorem dX0_walk_109 : decode cX0_walk 109 = .ok (.iload 4, 2) := by decide +kernel
theorem dX0_walk_111 : decode cX0_walk 111 = .ok (.bipush 7, 2) := by decide +kernel
theorem dX0_walk_113 : decode cX0_walk 113 = .ok (.if_icmp .ne 33, 3) := by decide +kernel
theorem dX0_walk_116 : decode cX0_walk 116 = .ok (.iload 6, 2) := by decide +kernel
theorem dX0_walk_118 : decode cX0_walk 118 = .ok (.bipush 7, 2) := by decide +kernel
theorem dX0_walk_120 : decode cX0_walk 120 = .ok (.if_icmp .ne 26, 3) := by decide +kernel
theorem dX0_walk_123 : decode cX0_walk 123 = .ok (.aload_n 0, 1) := by decide +kernel
theorem dX0_walk_124 : decode cX0_walk 124 = .ok (.iload 7, 2) := by decide +kernel
theorem dX0_walk_126 : decode cX0_walk 126 = .ok (.iload 8, 2) := by decide +kernel
theorem dX0_walk_128 : decode cX0_walk 128 = .ok (.invokevirtual 80, 3) := by decide +kernel
theorem dX0_walk_131 : decode cX0_walk 131 = .ok (.ifCond .eq 15, 3) := by decide +kernel
theorem dX0_walk_134 : decode cX0_walk 134 = .ok (.aload_n 0, 1) := by decide +kernel
theorem dX0_walk_135 : decode cX0_walk 135 = .ok (.iload 7, 2) := by decide +kernel
theorem dX0_walk_137 : decode cX0_walk 137 = .ok (.iload 8, 2) := by decide +kernel
theorem dX0_walk_139 : decode cX0_walk 139 = .ok (.iload_n 3, 1) := by decide +kernel
theorem dX0_walk_140 : decode cX0_walk 140 = .ok (.invokevirtual 156, 3) := by decide +kernel
theorem dX0_walk_143 : decode cX0_walk 143 = .ok (.goto 62, 3) := by decide +kernel
theorem dX0_walk_146 : decode cX0_walk 146 = .ok (.iload 4, 2) := by decide +kernel
theorem dX0_walk_148 : decode cX0_walk 148 = .ok (.bipush 6, 2) := by decide +kernel
theorem dX0_walk_150 : decode cX0_walk 150 = .ok (.if_icmp .ne 40, 3) := by decide +kernel
theorem dX0_walk_153 : decode cX0_walk 153 = .ok (.iload 6, 2) := by decide +kernel
theorem dX0_walk_155 : decode cX0_walk 155 = .ok (.bipush 6, 2) := by decide +kernel
theorem dX0_walk_157 : decode cX0_walk 157 = .ok (.if_icmp .ne 33, 3) := by decide +kernel
theorem dX0_walk_160 : decode cX0_walk 160 = .ok (.aload_n 0, 1) := by decide +kernel
theorem dX0_walk_161 : decode cX0_walk 161 = .ok (.bipush 100, 2) := by decide +kernel
theorem dX0_walk_163 : decode cX0_walk 163 = .ok (.invokevirtual 159, 3) := by decide +kernel
theorem dX0_walk_166 : decode cX0_walk 166 = .ok (.aload_n 0, 1) := by decide +kernel
theorem dX0_walk_167 : decode cX0_walk 167 = .ok (.iload 7, 2) := by decide +kernel
theorem dX0_walk_169 : decode cX0_walk 169 = .ok (.iload 8, 2) := by decide +kernel
theorem dX0_walk_171 : decode cX0_walk 171 = .ok (.iload_n 3, 1) := by decide +kernel
theorem dX0_walk_172 : decode cX0_walk 172 = .ok (.iconst 1, 1) := by decide +kernel
theorem dX0_walk_173 : decode cX0_walk 173 = .ok (.iadd, 1) := by decide +kernel
theorem dX0_walk_174 : decode cX0_walk 174 = .ok (.invokevirtual 142, 3) := by decide +kernel
theorem dX0_walk_177 : decode cX0_walk 177 = .ok (.aload_n 0, 1) := by decide +kernel
theorem dX0_walk_178 : decode cX0_walk 178 = .ok (.dup, 1) := by decide +kernel
theorem dX0_walk_179 : decode cX0_walk 179 = .ok (.getfield 45, 3) := by decide +kernel
theorem dX0_walk_182 : decode cX0_walk 182 = .ok (.iconst 1, 1) := by decide +kernel
theorem dX0_walk_183 : decode cX0_walk 183 = .ok (.isub, 1) := by decide +kernel
theorem dX0_walk_184 : decode cX0_walk 184 = .ok (.putfield 45, 3) := by decide +kernel
theorem dX0_walk_187 : decode cX0_walk 187 = .ok (.goto 18, 3) := by decide +kernel
theorem dX0_walk_190 : decode cX0_walk 190 = .ok (.aload_n 0, 1) := by decide +kernel
theorem dX0_walk_191 : decode cX0_walk 191 = .ok (.iload_n 1, 1) := by decide +kernel
theorem dX0_walk_192 : decode cX0_walk 192 = .ok (.iload 5, 2) := by decide +kernel
theorem dX0_walk_194 : decode cX0_walk 194 = .ok (.invokevirtual 162, 3) := by decide +kernel
theorem dX0_walk_197 : decode cX0_walk 197 = .ok (.ifCond .ne 8, 3) := by decide +kernel
theorem dX0_walk_200 : decode cX0_walk 200 = .ok (.aload_n 0, 1) := by decide +kernel
theorem dX0_walk_201 : decode cX0_walk 201 = .ok (.iconst 2, 1) := by decide +kernel
theorem dX0_walk_202 : decode cX0_walk 202 = .ok (.invokevirtual 152, 3) := by decide +kernel
theorem dX0_walk_205 : decode cX0_walk 205 = .ok (.return_, 1) := by decide +kernel
theorem dX0_walkBranches_0 : decode cX0_walkBranches 0 = .ok (.aload_n 0, 1) := by decide +kernel
theorem dX0_walkBranches_1 : decode cX0_walkBranches 1 = .ok (.getfield 51, 3) := by decide +kernel
theorem dX0_walkBranches_4 : decode cX0_walkBranches 4 = .ok (.iload_n 1, 1) := by decide +kernel
theorem dX0_walkBranches_5 : decode cX0_walkBranches 5 = .ok (.invokevirtual 117, 3) := by decide +kernel
theorem dX0_walkBranches_8 : decode cX0_walkBranches 8 = .ok (.istore 4, 2) := by decide +kernel
theorem dX0_walkBranches_10 : decode cX0_walkBranches 10 = .ok (.iconst 0, 1) := by decide +kernel
theorem dX0_walkBranches_11 : decode cX0_walkBranches 11 = .ok (.istore 5, 2) := by decide +kernel
theorem dX0_walkBranches_13 : decode cX0_walkBranches 13 = .ok (.iload 5, 2) := by decide +kernel
theorem dX0_walkBranches_15 : decode cX0_walkBranches 15 = .ok (.iconst 4, 1) := by decide +kernel
theorem dX0_walkBranches_16 : decode cX0_walkBranches 16 = .ok (.if_icmp .ge 74, 3) := by decide +kernel
theorem dX0_walkBranches_19 : decode cX0_walkBranches 19 = .ok (.iload 4, 2) := by decide +kernel
theorem dX0_walkBranches_21 : decode cX0_walkBranches 21 = .ok (.iconst (-1), 1) := by decide +kernel
theorem dX0_walkBranches_22 : decode cX0_walkBranches 22 = .ok (.if_icmp .eq 68, 3) := by decide +kernel
theorem dX0_walkBranches_25 : decode cX0_walkBranches 25 = .ok (.aload_n 0, 1) := by decide +kernel
theorem dX0_walkBranches_26 : decode cX0_walkBranches 26 = .ok (.sipush 200, 3) := by decide +kernel
theorem dX0_walkBranches_29 : decode cX0_walkBranches 29 = .ok (.iload 5, 2) := by decide +kernel
theorem dX0_walkBranches_31 : decode cX0_walkBranches 31 = .ok (.iadd, 1) := by decide +kernel
theorem dX0_walkBranches_32 : decode cX0_walkBranches 32 = .ok (.invokevirtual 159, 3) := by decide +kernel
theorem dX0_walkBranches_35 : decode cX0_walkBranches 35 = .ok (.aload_n 0, 1) := by decide +kernel
theorem dX0_walkBranches_36 : decode cX0_walkBranches 36 = .ok (.iload 4, 2) := by decide +kernel
theorem dX0_walkBranches_38 : decode cX0_walkBranches 38 = .ok (.iload_n 2, 1) := by decide +kernel
theorem dX0_walkBranches_39 : decode cX0_walkBranches 39 = .ok (.invokevirtual 162, 3) := by decide +kernel
theorem dX0_walkBranches_42 : decode cX0_walkBranches 42 = .ok (.ifCond .eq 16, 3) := by decide +kernel
theorem dX0_walkBranches_45 : decode cX0_walkBranches 45 = .ok (.aload_n 0, 1) := by decide +kernel
theorem dX0_walkBranches_46 : decode cX0_walkBranches 46 = .ok (.iload 4, 2) := by decide +kernel
theorem dX0_walkBranches_48 : decode cX0_walkBranches 48 = .ok (.iload_n 2, 1) := by decide +kernel
theorem dX0_walkBranches_49 : decode cX0_walkBranches 49 = .ok (.iload_n 3, 1) := by decide +kernel
theorem dX0_walkBranches_50 : decode cX0_walkBranches 50 = .ok (.iconst 1, 1) := by decide +kernel
theorem dX0_walkBranches_51 : decode cX0_walkBranches 51 = .ok (.iadd, 1) := by decide +kernel
theorem dX0_walkBranches_52 : decode cX0_walkBranches 52 = .ok (.invokevirtual 142, 3) := by decide +kernel
theorem dX0_walkBranches_55 : decode cX0_walkBranches 55 = .ok (.goto 8, 3) := by decide +kernel
theorem dX0_walkBranches_58 : decode cX0_walkBranches 58 = .ok (.aload_n 0, 1) := by decide +kernel
theorem dX0_walkBranches_59 : decode cX0_walkBranches 59 = .ok (.iconst 4, 1) := by decide +kernel
theorem dX0_walkBranches_60 : decode cX0_walkBranches 60 = .ok (.invokevirtual 152, 3) := by decide +kernel
theorem dX0_walkBranches_63 : decode cX0_walkBranches 63 = .ok (.aload_n 0, 1) := by decide +kernel
theorem dX0_walkBranches_64 : decode cX0_walkBranches 64 = .ok (.dup, 1) := by decide +kernel
theorem dX0_walkBranches_65 : decode cX0_walkBranches 65 = .ok (.getfield 45, 3) := by decide +kernel
theorem dX0_walkBranches_68 : decode cX0_walkBranches 68 = .ok (.iconst 1, 1) := by decide +kernel
theorem dX0_walkBranches_69 : decode cX0_walkBranches 69 = .ok (.isub, 1) := by decide +kernel
theorem dX0_walkBranches_70 : decode cX0_walkBranches 70 = .ok (.putfield 45, 3) := by decide +kernel
theorem dX0_walkBranches_73 : decode cX0_walkBranches 73 = .ok (.aload_n 0, 1) := by decide +kernel
theorem dX0_walkBranches_74 : decode cX0_walkBranches 74 = .ok (.getfield 51, 3) := by decide +kernel
theorem dX0_walkBranches_77 : decode cX0_walkBranches 77 = .ok (.iload 4, 2) := by decide +kernel
theorem dX0_walkBranches_79 : decode cX0_walkBranches 79 = .ok (.invokevirtual 120, 3) := by decide +kernel
theorem dX0_walkBranches_82 : decode cX0_walkBranches 82 = .ok (.istore 4, 2) := by decide +kernel
theorem dX0_walkBranches_84 : decode cX0_walkBranches 84 = .ok (.iinc 5 1, 3) := by decide +kernel
theorem dX0_walkBranches_87 : decode cX0_walkBranches 87 = .ok (.goto (-74), 3) := by decide +kernel
theorem dX0_walkBranches_90 : decode cX0_walkBranches 90 = .ok (.return_, 1) := by decide +kernel
theorem dX0_walkFields_0 : decode cX0_walkFields 0 = .ok (.aload_n 0, 1) := by decide +kernel
theorem dX0_walkFields_1 : decode cX0_walkFields 1 = .ok (.getfield 48, 3) := by decide +kernel
theorem dX0_walkFields_4 : decode cX0_walkFields 4 = .ok (.iload_n 1, 1) := by decide +kernel
theorem dX0_walkFields_5 : decode cX0_walkFields 5 = .ok (.iload_n 2, 1) := by decide +kernel
theorem dX0_walkFields_6 : decode cX0_walkFields 6 = .ok (.invokestatic 84, 3) := by decide +kernel
theorem dX0_walkFields_9 : decode cX0_walkFields 9 = .ok (.land, 1) := by decide +kernel
theorem dX0_walkFields_10 : decode cX0_walkFields 10 = .ok (.lconst 0, 1) := by decide +kernel
theorem dX0_walkFields_11 : decode cX0_walkFields 11 = .ok (.lcmp, 1) := by decide +kernel
theorem dX0_walkFields_12 : decode cX0_walkFields 12 = .ok (.ifCond .eq 4, 3) := by decide +kernel
theorem dX0_walkFields_15 : decode cX0_walkFields 15 = .ok (.return_, 1) := by decide +kernel
theorem dX0_walkFields_16 : decode cX0_walkFields 16 = .ok (.aload_n 0, 1) := by decide +kernel
theorem dX0_walkFields_17 : decode cX0_walkFields 17 = .ok (.dup, 1) := by decide +kernel
theorem dX0_walkFields_18 : decode cX0_walkFields 18 = .ok (.getfield 48, 3) := by decide +kernel
theorem dX0_walkFields_21 : decode cX0_walkFields 21 = .ok (.iload_n 1, 1) := by decide +kernel
theorem dX0_walkFields_22 : decode cX0_walkFields 22 = .ok (.iload_n 2, 1) := by decide +kernel
theorem dX0_walkFields_23 : decode cX0_walkFields 23 = .ok (.invokestatic 84, 3) := by decide +kernel
theorem dX0_walkFields_26 : decode cX0_walkFields 26 = .ok (.lor, 1) := by decide +kernel
theorem dX0_walkFields_27 : decode cX0_walkFields 27 = .ok (.putfield 48, 3) := by decide +kernel
theorem dX0_walkFields_30 : decode cX0_walkFields 30 = .ok (.iconst 0, 1) := by decide +kernel
theorem dX0_walkFields_31 : decode cX0_walkFields 31 = .ok (.istore 4, 2) := by decide +kernel
theorem dX0_walkFields_33 : decode cX0_walkFields 33 = .ok (.iload 4, 2) := by decide +kernel
theorem dX0_walkFields_35 : decode cX0_walkFields 35 = .ok (.aload_n 0, 1) := by decide +kernel
theorem dX0_walkFields_36 : decode cX0_walkFields 36 = .ok (.getfield 51, 3) := by decide +kernel
theorem dX0_walkFields_39 : decode cX0_walkFields 39 = .ok (.iload_n 2, 1) := by decide +kernel
theorem dX0_walkFields_40 : decode cX0_walkFields 40 = .ok (.invokevirtual 97, 3) := by decide +kernel
theorem dX0_walkFields_43 : decode cX0_walkFields 43 = .ok (.if_icmp .ge 92, 3) := by decide +kernel
theorem dX0_walkFields_46 : decode cX0_walkFields 46 = .ok (.aload_n 0, 1) := by decide +kernel
theorem dX0_walkFields_47 : decode cX0_walkFields 47 = .ok (.iload 4, 2) := by decide +kernel
theorem dX0_walkFields_49 : decode cX0_walkFields 49 = .ok (.invokevirtual 159, 3) := by decide +kernel
theorem dX0_walkFields_52 : decode cX0_walkFields 52 = .ok (.aload_n 0, 1) := by decide +kernel
theorem dX0_walkFields_53 : decode cX0_walkFields 53 = .ok (.getfield 51, 3) := by decide +kernel
theorem dX0_walkFields_56 : decode cX0_walkFields 56 = .ok (.iload_n 1, 1) := by decide +kernel
theorem dX0_walkFields_57 : decode cX0_walkFields 57 = .ok (.iload_n 2, 1) := by decide +kernel
theorem dX0_walkFields_58 : decode cX0_walkFields 58 = .ok (.iload 4, 2) := by decide +kernel
theorem dX0_walkFields_60 : decode cX0_walkFields 60 = .ok (.invokevirtual 100, 3) := by decide +kernel
theorem dX0_walkFields_63 : decode cX0_walkFields 63 = .ok (.istore 5, 2) := by decide +kernel
theorem dX0_walkFields_65 : decode cX0_walkFields 65 = .ok (.iload 5, 2) := by decide +kernel
theorem dX0_walkFields_67 : decode cX0_walkFields 67 = .ok (.iconst (-1), 1) := by decide +kernel
theorem dX0_walkFields_68 : decode cX0_walkFields 68 = .ok (.if_icmp .eq 33, 3) := by decide +kernel
theorem dX0_walkFields_71 : decode cX0_walkFields 71 = .ok (.aload_n 0, 1) := by decide +kernel
theorem dX0_walkFields_72 : decode cX0_walkFields 72 = .ok (.aload_n 0, 1) := by decide +kernel
theorem dX0_walkFields_73 : decode cX0_walkFields 73 = .ok (.getfield 51, 3) := by decide +kernel
theorem dX0_walkFields_76 : decode cX0_walkFields 76 = .ok (.iload_n 1, 1) := by decide +kernel
theorem dX0_walkFields_77 : decode cX0_walkFields 77 = .ok (.iload 5, 2) := by decide +kernel
theorem dX0_walkFields_79 : decode cX0_walkFields 79 = .ok (.invokevirtual 107, 3) := by decide +kernel
theorem dX0_walkFields_82 : decode cX0_walkFields 82 = .ok (.aload_n 0, 1) := by decide +kernel
theorem dX0_walkFields_83 : decode cX0_walkFields 83 = .ok (.getfield 51, 3) := by decide +kernel
theorem dX0_walkFields_86 : decode cX0_walkFields 86 = .ok (.iload_n 2, 1) := by decide +kernel
theorem dX0_walkFields_87 : decode cX0_walkFields 87 = .ok (.iload 4, 2) := by decide +kernel
theorem dX0_walkFields_89 : decode cX0_walkFields 89 = .ok (.invokevirtual 107, 3) := by decide +kernel
theorem dX0_walkFields_92 : decode cX0_walkFields 92 = .ok (.iload_n 3, 1) := by decide +kernel
theorem dX0_walkFields_93 : decode cX0_walkFields 93 = .ok (.iconst 1, 1) := by decide +kernel
theorem dX0_walkFields_94 : decode cX0_walkFields 94 = .ok (.iadd, 1) := by decide +kernel
theorem dX0_walkFields_95 : decode cX0_walkFields 95 = .ok (.invokevirtual 142, 3) := by decide +kernel
theorem dX0_walkFields_98 : decode cX0_walkFields 98 = .ok (.goto 21, 3) := by decide +kernel
theorem dX0_walkFields_101 : decode cX0_walkFields 101 = .ok (.aload_n 0, 1) := by decide +kernel
theorem dX0_walkFields_102 : decode cX0_walkFields 102 = .ok (.getfield 51, 3) := by decide +kernel
theorem dX0_walkFields_105 : decode cX0_walkFields 105 = .ok (.iload_n 2, 1) := by decide +kernel
theorem dX0_walkFields_106 : decode cX0_walkFields 106 = .ok (.iload 4, 2) := by decide +kernel
theorem dX0_walkFields_108 : decode cX0_walkFields 108 = .ok (.invokevirtual 104, 3) := by decide +kernel
theorem dX0_walkFields_111 : decode cX0_walkFields 111 = .ok (.ifCond .ne 8, 3) := by decide +kernel
theorem dX0_walkFields_114 : decode cX0_walkFields 114 = .ok (.aload_n 0, 1) := by decide +kernel
theorem dX0_walkFields_115 : decode cX0_walkFields 115 = .ok (.iconst 1, 1) := by decide +kernel
theorem dX0_walkFields_116 : decode cX0_walkFields 116 = .ok (.invokevirtual 152, 3) := by decide +kernel
theorem dX0_walkFields_119 : decode cX0_walkFields 119 = .ok (.aload_n 0, 1) := by decide +kernel
theorem dX0_walkFields_120 : decode cX0_walkFields 120 = .ok (.dup, 1) := by decide +kernel
theorem dX0_walkFields_121 : decode cX0_walkFields 121 = .ok (.getfield 45, 3) := by decide +kernel
theorem dX0_walkFields_124 : decode cX0_walkFields 124 = .ok (.iconst 1, 1) := by decide +kernel
theorem dX0_walkFields_125 : decode cX0_walkFields 125 = .ok (.isub, 1) := by decide +kernel
theorem dX0_walkFields_126 : decode cX0_walkFields 126 = .ok (.putfield 45, 3) := by decide +kernel
theorem dX0_walkFields_129 : decode cX0_walkFields 129 = .ok (.iinc 4 1, 3) := by decide +kernel
theorem dX0_walkFields_132 : decode cX0_walkFields 132 = .ok (.goto (-99), 3) := by decide +kernel
theorem dX0_walkFields_135 : decode cX0_walkFields 135 = .ok (.return_, 1) := by decide +kernel
theorem dX5_fieldName_0 : decode cX5_fieldName 0 = .ok (.iload_n 1, 1) := by decide +kernel
theorem dX5_fieldName_1 : decode cX5_fieldName 1 = .ok (.iload_n 2, 1) := by decide +kernel
theorem dX5_fieldName_2 : decode cX5_fieldName 2 = .ok (.invokestatic 75, 3) := by decide +kernel
theorem dX5_fieldName_5 : decode cX5_fieldName 5 = .ok (.ifCond .eq 17, 3) := by decide +kernel
theorem dX5_fieldName_8 : decode cX5_fieldName 8 = .ok (.aload_n 0, 1) := by decide +kernel
theorem dX5_fieldName_9 : decode cX5_fieldName 9 = .ok (.getfield 38, 3) := by decide +kernel
theorem dX5_fieldName_12 : decode cX5_fieldName 12 = .ok (.iload_n 1, 1) := by decide +kernel
theorem dX5_fieldName_13 : decode cX5_fieldName 13 = .ok (.bipush 8, 2) := by decide +kernel
theorem dX5_fieldName_15 : decode cX5_fieldName 15 = .ok (.imul, 1) := by decide +kernel
theorem dX5_fieldName_16 : decode cX5_fieldName 16 = .ok (.iload_n 2, 1) := by decide +kernel
theorem dX5_fieldName_17 : decode cX5_fieldName 17 = .ok (.iadd, 1) := by decide +kernel
theorem dX5_fieldName_18 : decode cX5_fieldName 18 = .ok (.laload, 1) := by decide +kernel
theorem dX5_fieldName_19 : decode cX5_fieldName 19 = .ok (.goto 4, 3) := by decide +kernel
theorem dX5_fieldName_22 : decode cX5_fieldName 22 = .ok (.lconst 0, 1) := by decide +kernel
theorem dX5_fieldName_23 : decode cX5_fieldName 23 = .ok (.lreturn, 1) := by decide +kernel
theorem dX5_fieldNamed_0 : decode cX5_fieldNamed 0 = .ok (.iload_n 1, 1) := by decide +kernel
theorem dX5_fieldNamed_1 : decode cX5_fieldNamed 1 = .ok (.bipush 8, 2) := by decide +kernel
theorem dX5_fieldNamed_3 : decode cX5_fieldNamed 3 = .ok (.imul, 1) := by decide +kernel
theorem dX5_fieldNamed_4 : decode cX5_fieldNamed 4 = .ok (.istore 4, 2) := by decide +kernel
theorem dX5_fieldNamed_6 : decode cX5_fieldNamed 6 = .ok (.iload_n 1, 1) := by decide +kernel
theorem dX5_fieldNamed_7 : decode cX5_fieldNamed 7 = .ok (.iconst 0, 1) := by decide +kernel
theorem dX5_fieldNamed_8 : decode cX5_fieldNamed 8 = .ok (.invokestatic 75, 3) := by decide +kernel
theorem dX5_fieldNamed_11 : decode cX5_fieldNamed 11 = .ok (.ifCond .eq 12, 3) := by decide +kernel
theorem dX5_fieldNamed_14 : decode cX5_fieldNamed 14 = .ok (.aload_n 0, 1) := by decide +kernel
theorem dX5_fieldNamed_15 : decode cX5_fieldNamed 15 = .ok (.getfield 25, 3) := by decide +kernel
theorem dX5_fieldNamed_18 : decode cX5_fieldNamed 18 = .ok (.iload_n 1, 1) := by decide +kernel
theorem dX5_fieldNamed_19 : decode cX5_fieldNamed 19 = .ok (.iaload, 1) := by decide +kernel
theorem dX5_fieldNamed_20 : decode cX5_fieldNamed 20 = .ok (.goto 4, 3) := by decide +kernel
theorem dX5_fieldNamed_23 : decode cX5_fieldNamed 23 = .ok (.iconst 0, 1) := by decide +kernel
theorem dX5_fieldNamed_24 : decode cX5_fieldNamed 24 = .ok (.istore 5, 2) := by decide +kernel
theorem dX5_fieldNamed_26 : decode cX5_fieldNamed 26 = .ok (.iconst 0, 1) := by decide +kernel
theorem dX5_fieldNamed_27 : decode cX5_fieldNamed 27 = .ok (.istore 6, 2) := by decide +kernel
theorem dX5_fieldNamed_29 : decode cX5_fieldNamed 29 = .ok (.iload 6, 2) := by decide +kernel
theorem dX5_fieldNamed_31 : decode cX5_fieldNamed 31 = .ok (.iload 5, 2) := by decide +kernel
theorem dX5_fieldNamed_33 : decode cX5_fieldNamed 33 = .ok (.if_icmp .ge 34, 3) := by decide +kernel
theorem dX5_fieldNamed_36 : decode cX5_fieldNamed 36 = .ok (.iload 6, 2) := by decide +kernel
theorem dX5_fieldNamed_38 : decode cX5_fieldNamed 38 = .ok (.bipush 8, 2) := by decide +kernel
theorem dX5_fieldNamed_40 : decode cX5_fieldNamed 40 = .ok (.if_icmp .ge 27, 3) := by decide +kernel
theorem dX5_fieldNamed_43 : decode cX5_fieldNamed 43 = .ok (.aload_n 0, 1) := by decide +kernel
theorem dX5_fieldNamed_44 : decode cX5_fieldNamed 44 = .ok (.getfield 38, 3) := by decide +kernel
theorem dX5_fieldNamed_47 : decode cX5_fieldNamed 47 = .ok (.iload 4, 2) := by decide +kernel
theorem dX5_fieldNamed_49 : decode cX5_fieldNamed 49 = .ok (.iload 6, 2) := by decide +kernel
theorem dX5_fieldNamed_51 : decode cX5_fieldNamed 51 = .ok (.iadd, 1) := by decide +kernel
theorem dX5_fieldNamed_52 : decode cX5_fieldNamed 52 = .ok (.laload, 1) := by decide +kernel
theorem dX5_fieldNamed_53 : decode cX5_fieldNamed 53 = .ok (.lload_n 2, 1) := by decide +kernel
theorem dX5_fieldNamed_54 : decode cX5_fieldNamed 54 = .ok (.lcmp, 1) := by decide +kernel
theorem dX5_fieldNamed_55 : decode cX5_fieldNamed 55 = .ok (.ifCond .ne 6, 3) := by decide +kernel
theorem dX5_fieldNamed_58 : decode cX5_fieldNamed 58 = .ok (.iload 6, 2) := by decide +kernel
theorem dX5_fieldNamed_60 : decode cX5_fieldNamed 60 = .ok (.ireturn, 1) := by decide +kernel
theorem dX5_fieldNamed_61 : decode cX5_fieldNamed 61 = .ok (.iinc 6 1, 3) := by decide +kernel
theorem dX5_fieldNamed_64 : decode cX5_fieldNamed 64 = .ok (.goto (-35), 3) := by decide +kernel
theorem dX5_fieldNamed_67 : decode cX5_fieldNamed 67 = .ok (.iconst (-1), 1) := by decide +kernel
theorem dX5_fieldNamed_68 : decode cX5_fieldNamed 68 = .ok (.ireturn, 1) := by decide +kernel
theorem dX5_fieldsOf_0 : decode cX5_fieldsOf 0 = .ok (.iload_n 1, 1) := by decide +kernel
theorem dX5_fieldsOf_1 : decode cX5_fieldsOf 1 = .ok (.invokestatic 71, 3) := by decide +kernel
theorem dX5_fieldsOf_4 : decode cX5_fieldsOf 4 = .ok (.ifCond .eq 12, 3) := by decide +kernel
theorem dX5_fieldsOf_7 : decode cX5_fieldsOf 7 = .ok (.aload_n 0, 1) := by decide +kernel
theorem dX5_fieldsOf_8 : decode cX5_fieldsOf 8 = .ok (.getfield 25, 3) := by decide +kernel
theorem dX5_fieldsOf_11 : decode cX5_fieldsOf 11 = .ok (.iload_n 1, 1) := by decide +kernel
theorem dX5_fieldsOf_12 : decode cX5_fieldsOf 12 = .ok (.iaload, 1) := by decide +kernel
theorem dX5_fieldsOf_13 : decode cX5_fieldsOf 13 = .ok (.goto 4, 3) := by decide +kernel
theorem dX5_fieldsOf_16 : decode cX5_fieldsOf 16 = .ok (.iconst 0, 1) := by decide +kernel
theorem dX5_fieldsOf_17 : decode cX5_fieldsOf 17 = .ok (.ireturn, 1) := by decide +kernel
theorem dX5_formerName_0 : decode cX5_formerName 0 = .ok (.iload_n 1, 1) := by decide +kernel
theorem dX5_formerName_1 : decode cX5_formerName 1 = .ok (.iload_n 2, 1) := by decide +kernel
theorem dX5_formerName_2 : decode cX5_formerName 2 = .ok (.invokestatic 75, 3) := by decide +kernel
theorem dX5_formerName_5 : decode cX5_formerName 5 = .ok (.ifCond .eq 17, 3) := by decide +kernel
theorem dX5_formerName_8 : decode cX5_formerName 8 = .ok (.aload_n 0, 1) := by decide +kernel
theorem dX5_formerName_9 : decode cX5_formerName 9 = .ok (.getfield 41, 3) := by decide +kernel
theorem dX5_formerName_12 : decode cX5_formerName 12 = .ok (.iload_n 1, 1) := by decide +kernel
theorem dX5_formerName_13 : decode cX5_formerName 13 = .ok (.bipush 8, 2) := by decide +kernel
theorem dX5_formerName_15 : decode cX5_formerName 15 = .ok (.imul, 1) := by decide +kernel
theorem dX5_formerName_16 : decode cX5_formerName 16 = .ok (.iload_n 2, 1) := by decide +kernel
theorem dX5_formerName_17 : decode cX5_formerName 17 = .ok (.iadd, 1) := by decide +kernel
theorem dX5_formerName_18 : decode cX5_formerName 18 = .ok (.laload, 1) := by decide +kernel
theorem dX5_formerName_19 : decode cX5_formerName 19 = .ok (.goto 4, 3) := by decide +kernel
theorem dX5_formerName_22 : decode cX5_formerName 22 = .ok (.lconst 0, 1) := by decide +kernel
theorem dX5_formerName_23 : decode cX5_formerName 23 = .ok (.lreturn, 1) := by decide +kernel
theorem dX5_hasElse_0 : decode cX5_hasElse 0 = .ok (.iload_n 1, 1) := by decide +kernel
theorem dX5_hasElse_1 : decode cX5_hasElse 1 = .ok (.iload_n 2, 1) := by decide +kernel
theorem dX5_hasElse_2 : decode cX5_hasElse 2 = .ok (.invokestatic 75, 3) := by decide +kernel
theorem dX5_hasElse_5 : decode cX5_hasElse 5 = .ok (.ifCond .eq 20, 3) := by decide +kernel
theorem dX5_hasElse_8 : decode cX5_hasElse 8 = .ok (.aload_n 0, 1) := by decide +kernel
theorem dX5_hasElse_9 : decode cX5_hasElse 9 = .ok (.getfield 32, 3) := by decide +kernel
theorem dX5_hasElse_12 : decode cX5_hasElse 12 = .ok (.iload_n 1, 1) := by decide +kernel
theorem dX5_hasElse_13 : decode cX5_hasElse 13 = .ok (.iaload, 1) := by decide +kernel
theorem dX5_hasElse_14 : decode cX5_hasElse 14 = .ok (.iload_n 2, 1) := by decide +kernel
theorem dX5_hasElse_15 : decode cX5_hasElse 15 = .ok (.ishr, 1) := by decide +kernel
theorem dX5_hasElse_16 : decode cX5_hasElse 16 = .ok (.iconst 1, 1) := by decide +kernel
theorem dX5_hasElse_17 : decode cX5_hasElse 17 = .ok (.iand, 1) := by decide +kernel
theorem dX5_hasElse_18 : decode cX5_hasElse 18 = .ok (.ifCond .eq 7, 3) := by decide +kernel
theorem dX5_hasElse_21 : decode cX5_hasElse 21 = .ok (.iconst 1, 1) := by decide +kernel
theorem dX5_hasElse_22 : decode cX5_hasElse 22 = .ok (.goto 4, 3) := by decide +kernel
theorem dX5_hasElse_25 : decode cX5_hasElse 25 = .ok (.iconst 0, 1) := by decide +kernel
theorem dX5_hasElse_26 : decode cX5_hasElse 26 = .ok (.ireturn, 1) := by decide +kernel
theorem dX5_isFieldOf_0 : decode cX5_isFieldOf 0 = .ok (.iload_n 0, 1) := by decide +kernel
theorem dX5_isFieldOf_1 : decode cX5_isFieldOf 1 = .ok (.ifCond .lt 23, 3) := by decide +kernel
theorem dX5_isFieldOf_4 : decode cX5_isFieldOf 4 = .ok (.iload_n 0, 1) := by decide +kernel
theorem dX5_isFieldOf_5 : decode cX5_isFieldOf 5 = .ok (.bipush 36, 2) := by decide +kernel
theorem dX5_isFieldOf_7 : decode cX5_isFieldOf 7 = .ok (.if_icmp .ge 17, 3) := by decide +kernel
theorem dX5_isFieldOf_10 : decode cX5_isFieldOf 10 = .ok (.iload_n 1, 1) := by decide +kernel
theorem dX5_isFieldOf_11 : decode cX5_isFieldOf 11 = .ok (.ifCond .lt 13, 3) := by decide +kernel
theorem dX5_isFieldOf_14 : decode cX5_isFieldOf 14 = .ok (.iload_n 1, 1) := by decide +kernel
theorem dX5_isFieldOf_15 : decode cX5_isFieldOf 15 = .ok (.bipush 8, 2) := by decide +kernel
theorem dX5_isFieldOf_17 : decode cX5_isFieldOf 17 = .ok (.if_icmp .ge 7, 3) := by decide +kernel
theorem dX5_isFieldOf_20 : decode cX5_isFieldOf 20 = .ok (.iconst 1, 1) := by decide +kernel
theorem dX5_isFieldOf_21 : decode cX5_isFieldOf 21 = .ok (.goto 4, 3) := by decide +kernel
theorem dX5_isFieldOf_24 : decode cX5_isFieldOf 24 = .ok (.iconst 0, 1) := by decide +kernel
theorem dX5_isFieldOf_25 : decode cX5_isFieldOf 25 = .ok (.ireturn, 1) := by decide +kernel
theorem dX5_isRecord_0 : decode cX5_isRecord 0 = .ok (.iload_n 0, 1) := by decide +kernel
theorem dX5_isRecord_1 : decode cX5_isRecord 1 = .ok (.ifCond .lt 13, 3) := by decide +kernel
theorem dX5_isRecord_4 : decode cX5_isRecord 4 = .ok (.iload_n 0, 1) := by decide +kernel
theorem dX5_isRecord_5 : decode cX5_isRecord 5 = .ok (.bipush 36, 2) := by decide +kernel
theorem dX5_isRecord_7 : decode cX5_isRecord 7 = .ok (.if_icmp .ge 7, 3) := by decide +kernel
theorem dX5_isRecord_10 : decode cX5_isRecord 10 = .ok (.iconst 1, 1) := by decide +kernel
theorem dX5_isRecord_11 : decode cX5_isRecord 11 = .ok (.goto 4, 3) := by decide +kernel
theorem dX5_isRecord_14 : decode cX5_isRecord 14 = .ok (.iconst 0, 1) := by decide +kernel
theorem dX5_isRecord_15 : decode cX5_isRecord 15 = .ok (.ireturn, 1) := by decide +kernel
theorem dX5_recordName_0 : decode cX5_recordName 0 = .ok (.iload_n 1, 1) := by decide +kernel
theorem dX5_recordName_1 : decode cX5_recordName 1 = .ok (.invokestatic 71, 3) := by decide +kernel
theorem dX5_recordName_4 : decode cX5_recordName 4 = .ok (.ifCond .eq 12, 3) := by decide +kernel
theorem dX5_recordName_7 : decode cX5_recordName 7 = .ok (.aload_n 0, 1) := by decide +kernel
theorem dX5_recordName_8 : decode cX5_recordName 8 = .ok (.getfield 28, 3) := by decide +kernel
theorem dX5_recordName_11 : decode cX5_recordName 11 = .ok (.iload_n 1, 1) := by decide +kernel
theorem dX5_recordName_12 : decode cX5_recordName 12 = .ok (.laload, 1) := by decide +kernel
theorem dX5_recordName_13 : decode cX5_recordName 13 = .ok (.goto 4, 3) := by decide +kernel
theorem dX5_recordName_16 : decode cX5_recordName 16 = .ok (.lconst 0, 1) := by decide +kernel
theorem dX5_recordName_17 : decode cX5_recordName 17 = .ok (.lreturn, 1) := by decide +kernel
theorem dX5_sourceOf_0 : decode cX5_sourceOf 0 = .ok (.aload_n 0, 1) := by decide +kernel
theorem dX5_sourceOf_1 : decode cX5_sourceOf 1 = .ok (.iload_n 1, 1) := by decide +kernel
theorem dX5_sourceOf_2 : decode cX5_sourceOf 2 = .ok (.aload_n 0, 1) := by decide +kernel
theorem dX5_sourceOf_3 : decode cX5_sourceOf 3 = .ok (.iload_n 2, 1) := by decide +kernel
theorem dX5_sourceOf_4 : decode cX5_sourceOf 4 = .ok (.iload_n 3, 1) := by decide +kernel
theorem dX5_sourceOf_5 : decode cX5_sourceOf 5 = .ok (.invokevirtual 105, 3) := by decide +kernel
theorem dX5_sourceOf_8 : decode cX5_sourceOf 8 = .ok (.invokevirtual 109, 3) := by decide +kernel
theorem dX5_sourceOf_11 : decode cX5_sourceOf 11 = .ok (.istore 4, 2) := by decide +kernel
theorem dX5_sourceOf_13 : decode cX5_sourceOf 13 = .ok (.aload_n 0, 1) := by decide +kernel
theorem dX5_sourceOf_14 : decode cX5_sourceOf 14 = .ok (.iload_n 2, 1) := by decide +kernel
theorem dX5_sourceOf_15 : decode cX5_sourceOf 15 = .ok (.iload_n 3, 1) := by decide +kernel
theorem dX5_sourceOf_16 : decode cX5_sourceOf 16 = .ok (.invokevirtual 113, 3) := by decide +kernel
theorem dX5_sourceOf_19 : decode cX5_sourceOf 19 = .ok (.lstore 5, 2) := by decide +kernel
theorem dX5_sourceOf_21 : decode cX5_sourceOf 21 = .ok (.iload 4, 2) := by decide +kernel
theorem dX5_sourceOf_23 : decode cX5_sourceOf 23 = .ok (.iconst (-1), 1) := by decide +kernel
theorem dX5_sourceOf_24 : decode cX5_sourceOf 24 = .ok (.if_icmp .ne 20, 3) := by decide +kernel
theorem dX5_sourceOf_27 : decode cX5_sourceOf 27 = .ok (.lload 5, 2) := by decide +kernel
theorem dX5_sourceOf_29 : decode cX5_sourceOf 29 = .ok (.lconst 0, 1) := by decide +kernel
theorem dX5_sourceOf_30 : decode cX5_sourceOf 30 = .ok (.lcmp, 1) := by decide +kernel
theorem dX5_sourceOf_31 : decode cX5_sourceOf 31 = .ok (.ifCond .eq 13, 3) := by decide +kernel
theorem dX5_sourceOf_34 : decode cX5_sourceOf 34 = .ok (.aload_n 0, 1) := by decide +kernel
theorem dX5_sourceOf_35 : decode cX5_sourceOf 35 = .ok (.iload_n 1, 1) := by decide +kernel
theorem dX5_sourceOf_36 : decode cX5_sourceOf 36 = .ok (.lload 5, 2) := by decide +kernel
theorem dX5_sourceOf_38 : decode cX5_sourceOf 38 = .ok (.invokevirtual 109, 3) := by decide +kernel
theorem dX5_sourceOf_41 : decode cX5_sourceOf 41 = .ok (.goto 5, 3) := by decide +kernel
theorem dX5_sourceOf_44 : decode cX5_sourceOf 44 = .ok (.iload 4, 2) := by decide +kernel
theorem dX5_sourceOf_46 : decode cX5_sourceOf 46 = .ok (.ireturn, 1) := by decide +kernel
theorem dX5_typeOf_0 : decode cX5_typeOf 0 = .ok (.iload_n 1, 1) := by decide +kernel
theorem dX5_typeOf_1 : decode cX5_typeOf 1 = .ok (.iload_n 2, 1) := by decide +kernel
theorem dX5_typeOf_2 : decode cX5_typeOf 2 = .ok (.invokestatic 75, 3) := by decide +kernel
theorem dX5_typeOf_5 : decode cX5_typeOf 5 = .ok (.ifCond .eq 17, 3) := by decide +kernel
theorem dX5_typeOf_8 : decode cX5_typeOf 8 = .ok (.aload_n 0, 1) := by decide +kernel
theorem dX5_typeOf_9 : decode cX5_typeOf 9 = .ok (.getfield 44, 3) := by decide +kernel
theorem dX5_typeOf_12 : decode cX5_typeOf 12 = .ok (.iload_n 1, 1) := by decide +kernel
theorem dX5_typeOf_13 : decode cX5_typeOf 13 = .ok (.bipush 8, 2) := by decide +kernel
theorem dX5_typeOf_15 : decode cX5_typeOf 15 = .ok (.imul, 1) := by decide +kernel
theorem dX5_typeOf_16 : decode cX5_typeOf 16 = .ok (.iload_n 2, 1) := by decide +kernel
theorem dX5_typeOf_17 : decode cX5_typeOf 17 = .ok (.iadd, 1) := by decide +kernel
theorem dX5_typeOf_18 : decode cX5_typeOf 18 = .ok (.iaload, 1) := by decide +kernel
theorem dX5_typeOf_19 : decode cX5_typeOf 19 = .ok (.goto 4, 3) := by decide +kernel
theorem dX5_typeOf_22 : decode cX5_typeOf 22 = .ok (.iconst (-1), 1) := by decide +kernel
theorem dX5_typeOf_23 : decode cX5_typeOf 23 = .ok (.ireturn, 1) := by decide +kernel
def f_X0_clear (σ : ST) : Option (ST) := (f_J7_fill_53178 43 (-1) (stL σ 41 2 0)).bind fun q1 => some (stI (stI q1 41 5 (-1)) 41 6 0)

set_option maxRecDepth 100000 in
set_option maxHeartbeats 4000000 in
theorem b_X0_clear_e {p : Program} {l : Launch} {e : Env} {s : State} {m : MethodId} {args : Array Value} {below : List Frame} {meth : Method} {c : Code} {dC : Nat → ClassId} {dI : Nat → Nat → Nat} {a : Nat → Nat} {k : Nat → ClassId} {A : Nat → Prop} {q : ST} (hC : CxA p s m args meth c dC dI k A cX0_clear RX0 none 1)    {σ : ST} (h : f_X0_clear   σ = some q) : GoA p l e ({ frames := 1, cells := 0, slots := 0, locals := 23 } : Room) s m args below meth c (MQ below (qAv dC dI a k A q) args s 0 0 A) dC dI a k A 1 0 σ (lv_args 0 [.ref (a 41)]) [] := by
  have hC0 := hC
  obtain ⟨hx, hb, hr, hml, hown, hts, hlocks, hA, hN, hK⟩ := hC0
  intro H locs ls hP hD hS hl
  have hD0 : ∀ σ1 : ST, va_D A (wA a k σ1) := fun σ1 => wA_D hD
  replace hl : lv_has ls 1 [(0, .ref (a 41))] := hl
  unfold f_X0_clear at h
  refine lv_aload_n hx hb dX0_clear_0 rfl (lv_at hl 0 rfl) ?_
  refine lv_lconst (v := 0) hx hb dX0_clear_1 (by decide) ?_
  refine va_put (D := (dC, dI)) (ci := 0) (ty := .long) (C := RX0) (T := TX0) (N := 13) hx hb hts inlX0 tyX0 tyX0_ok nmX0 hown hK hP hD hS 41 gA_41 rfl 2 (by decide) (hts (.fieldLink RX0 15 "ShapeReader$Matcher" "related" "J") mw_0_19) (fun _ h9 => h9) rfl (by decide +kernel) rfl rfl (Nat.le_of_ble_eq_true rfl) dX0_clear_2 (fun H locs hP hD hS => ?_)
  replace hP := uA_41_2 hP
  replace hD := hD0 ((stL σ 41 2 0))
  refine lv_aload_n hx hb dX0_clear_5 rfl (lv_at hl 0 rfl) ?_
  refine va_get (D := (dC, dI)) (ci := 0) (C := RX0) (T := TX0) (N := 13) hx hb hts inlX0 hown hK hP 41 gA_41 rfl 3 (by decide) (hts (.fieldLink RX0 19 "ShapeReader$Matcher" "verdicts" "[I") mw_0_20) (fun _ h9 => h9) rfl dX0_clear_6 ?_
  refine lv_iconst (v := (-1)) hx hb dX0_clear_9 (by decide) ?_
  obtain ⟨q1, hc, h⟩ := ib h
  have hF := va_frees hD hS hA
  refine va_callv (va_runS (As := [.ref (a 43), .int (-1)]) (rest := []) ⟨hx, hb, hml, hown, hts⟩ (s_J7_fill_53178_43 hc) (va_cwS 2 hts (gS mw_1_1 mw_1_2 mw_1_3 mw_58_3) rfl rfl rfl (by decide +kernel) ⟨(Nat.le_of_ble_eq_true rfl), (Nat.le_of_ble_eq_true rfl)⟩) (vS hK hP hD hN) rfl rfl hl.1 rfl (lv_room (Nat.le_of_ble_eq_true rfl)) dX0_clear_10 ⟨(Nat.le_of_ble_eq_true rfl), (Nat.le_of_ble_eq_true rfl)⟩) hS (fun q _ h => hF q h) hF (fun u t H locs ht hvm hw hB _ _ hS => ?_)
  replace hP : va_P (dC, dI) vwCl (wA a k q1) H := by rw [← ht]; exact hB.1
  replace hD := hD0 (q1)
  clear hB hF
  refine lv_aload_n hx hb dX0_clear_13 rfl (lv_at hl 0 rfl) ?_
  refine lv_iconst (v := (-1)) hx hb dX0_clear_14 (by decide) ?_
  refine va_put (D := (dC, dI)) (ci := 0) (ty := .int) (C := RX0) (T := TX0) (N := 13) hx hb hts inlX0 tyX0 tyX0_ok nmX0 hown hK hP hD hS 41 gA_41 rfl 5 (by decide) (hts (.fieldLink RX0 26 "ShapeReader$Matcher" "missPair" "I") mw_0_22) (fun _ h9 => h9) rfl (by decide +kernel) rfl rfl (Nat.le_of_ble_eq_true rfl) dX0_clear_15 (fun H locs hP hD hS => ?_)
  replace hP := uA_41_5 hP
  replace hD := hD0 ((stI q1 41 5 (-1)))
  refine lv_aload_n hx hb dX0_clear_18 rfl (lv_at hl 0 rfl) ?_
  refine lv_iconst (v := 0) hx hb dX0_clear_19 (by decide) ?_
  refine va_put (D := (dC, dI)) (ci := 0) (ty := .int) (C := RX0) (T := TX0) (N := 13) hx hb hts inlX0 tyX0 tyX0_ok nmX0 hown hK hP hD hS 41 gA_41 rfl 6 (by decide) (hts (.fieldLink RX0 30 "ShapeReader$Matcher" "missCount" "I") mw_0_23) (fun _ h9 => h9) rfl (by decide +kernel) rfl rfl (Nat.le_of_ble_eq_true rfl) dX0_clear_20 (fun H locs hP hD hS => ?_)
  replace hP := uA_41_6 hP
  replace hD := hD0 ((stI (stI q1 41 5 (-1)) 41 6 0))
  obtain rfl := Option.some.inj h
  exact W.vret hx hb hr (fun t ht hW => ⟨⟨(), rfl, trivial, ⟨by rw [ht]; exact hP, va_K.moved hW.alike hK, hD⟩⟩, hS.F ht⟩) hS.2.2 dX0_clear_23

theorem s_X0_clear {l : Launch} {dC : Nat → ClassId} {dI : Nat → Nat → Nat} {a : Nat → Nat} {k : Nat → ClassId} {sz : Nat}  {σ : ST} {q : ST} (h : f_X0_clear   σ = some q) : Met l yX0_clear (.code yX0_clear cX0_clear 1 none :: pw) ({ frames := 1, cells := 0, slots := 0, locals := 23 } : Room) (va_Pc [.ref (a 41)] (vPre dC dI (wA a k σ) (tA k) sz)) (qAv dC dI a k (va_A (wA a k σ) sz) q) 0 0 (va_A (wA a k σ) sz) := metA (fun A => qAv dC dI a k A q) (plainFor_of_name (by decide)) (Nat.le_of_ble_eq_true rfl) (fun _ _ _ _ _ _ _ _ hC => b_X0_clear_e hC h)

def f_X0_pairOf (p0 : Int32) (p1 : Int32) (σ : ST) : Option (Int32 × ST) := if p0 < 0 then (some (0, σ)) else (if 6 ≤ p0 then (some (0, σ)) else (if p1 < 0 then (some (0, σ)) else (if 6 ≤ p1 then (some (0, σ)) else (some (((p0 * 6) + p1), σ)))))

set_option maxRecDepth 100000 in
set_option maxHeartbeats 4000000 in
theorem b_X0_pairOf_e {p : Program} {l : Launch} {e : Env} {s : State} {m : MethodId} {args : Array Value} {below : List Frame} {meth : Method} {c : Code} {dC : Nat → ClassId} {dI : Nat → Nat → Nat} {a : Nat → Nat} {k : Nat → ClassId} {A : Nat → Prop} {q : Int32 × ST} (hC : CxA p s m args meth c dC dI k A cX0_pairOf RX0 (some .int) 2)   {p0 : Int32} {p1 : Int32} {σ : ST} (h : f_X0_pairOf  p0 p1 σ = some q) : GoA p l e ({ frames := 0, cells := 0, slots := 0, locals := 0 } : Room) s m args below meth c (MQ below (qAi dC dI a k A q) args s 0 0 A) dC dI a k A 2 0 σ (lv_args 0 [.int p0, .int p1]) [] := by
  have hC0 := hC
  obtain ⟨hx, hb, hr, hml, hown, hts, hlocks, hA, hN, hK⟩ := hC0
  intro H locs ls hP hD hS hl
  have hD0 : ∀ σ1 : ST, va_D A (wA a k σ1) := fun σ1 => wA_D hD
  replace hl : lv_has ls 2 [(0, .int p0), (1, .int p1)] := hl
  unfold f_X0_pairOf at h
  refine lv_iload_n hx hb dX0_pairOf_0 rfl (lv_at hl 0 rfl) ?_
  refine lv_if_lt (tgt := 29) hx hb dX0_pairOf_1 (by decide) (fun hc => ?_) (fun hc => ?_)
  · replace h := ip hc h
    refine lv_iconst (v := 0) hx hb dX0_pairOf_29 (by decide) ?_
    obtain rfl := Option.some.inj h
    exact W.iret hx hb hr (fun t ht hW => ⟨⟨_, (), rfl, rfl, ⟨by rw [ht]; exact hP, va_K.moved hW.alike hK, hD⟩⟩, hS.F ht⟩) hS.2.2 dX0_pairOf_30
  · replace h := iq hc h
    refine lv_iload_n hx hb dX0_pairOf_4 rfl (lv_at hl 0 rfl) ?_
    refine lv_bipush (v := 6) hx hb dX0_pairOf_5 (by decide) ?_
    refine lv_icmp_ge (tgt := 29) hx hb dX0_pairOf_7 (by decide) (fun hc => ?_) (fun hc => ?_)
    · replace h := ip hc h
      refine lv_iconst (v := 0) hx hb dX0_pairOf_29 (by decide) ?_
      obtain rfl := Option.some.inj h
      exact W.iret hx hb hr (fun t ht hW => ⟨⟨_, (), rfl, rfl, ⟨by rw [ht]; exact hP, va_K.moved hW.alike hK, hD⟩⟩, hS.F ht⟩) hS.2.2 dX0_pairOf_30
    · replace h := iq hc h
      refine lv_iload_n hx hb dX0_pairOf_10 rfl (lv_at hl 1 rfl) ?_
      refine lv_if_lt (tgt := 29) hx hb dX0_pairOf_11 (by decide) (fun hc => ?_) (fun hc => ?_)
      · replace h := ip hc h
        refine lv_iconst (v := 0) hx hb dX0_pairOf_29 (by decide) ?_
        obtain rfl := Option.some.inj h
        exact W.iret hx hb hr (fun t ht hW => ⟨⟨_, (), rfl, rfl, ⟨by rw [ht]; exact hP, va_K.moved hW.alike hK, hD⟩⟩, hS.F ht⟩) hS.2.2 dX0_pairOf_30
      · replace h := iq hc h
        refine lv_iload_n hx hb dX0_pairOf_14 rfl (lv_at hl 1 rfl) ?_
        refine lv_bipush (v := 6) hx hb dX0_pairOf_15 (by decide) ?_
        refine lv_icmp_ge (tgt := 29) hx hb dX0_pairOf_17 (by decide) (fun hc => ?_) (fun hc => ?_)
        · replace h := ip hc h
          refine lv_iconst (v := 0) hx hb dX0_pairOf_29 (by decide) ?_
          obtain rfl := Option.some.inj h
          exact W.iret hx hb hr (fun t ht hW => ⟨⟨_, (), rfl, rfl, ⟨by rw [ht]; exact hP, va_K.moved hW.alike hK, hD⟩⟩, hS.F ht⟩) hS.2.2 dX0_pairOf_30
        · replace h := iq hc h
          refine lv_iload_n hx hb dX0_pairOf_20 rfl (lv_at hl 0 rfl) ?_
          refine lv_bipush (v := 6) hx hb dX0_pairOf_21 (by decide) ?_
          refine lv_imul hx hb dX0_pairOf_23 ?_
          refine lv_iload_n hx hb dX0_pairOf_24 rfl (lv_at hl 1 rfl) ?_
          refine lv_iadd hx hb dX0_pairOf_25 ?_
          refine lv_goto (tgt := 30) hx hb dX0_pairOf_26 (by decide) ?_
          obtain rfl := Option.some.inj h
          exact W.iret hx hb hr (fun t ht hW => ⟨⟨_, (), rfl, rfl, ⟨by rw [ht]; exact hP, va_K.moved hW.alike hK, hD⟩⟩, hS.F ht⟩) hS.2.2 dX0_pairOf_30

theorem s_X0_pairOf {l : Launch} {dC : Nat → ClassId} {dI : Nat → Nat → Nat} {a : Nat → Nat} {k : Nat → ClassId} {sz : Nat} {p0 : Int32} {p1 : Int32} {σ : ST} {q : Int32 × ST} (h : f_X0_pairOf  p0 p1 σ = some q) : Met l yX0_pairOf (.code yX0_pairOf cX0_pairOf 2 (some .int) :: pw) ({ frames := 0, cells := 0, slots := 0, locals := 0 } : Room) (va_Pc [.int p0, .int p1] (vPre dC dI (wA a k σ) (tA k) sz)) (qAi dC dI a k (va_A (wA a k σ) sz) q) 0 0 (va_A (wA a k σ) sz) := metA (fun A => qAi dC dI a k A q) (plainFor_of_name (by decide)) (Nat.le_of_ble_eq_true rfl) (fun _ _ _ _ _ _ _ _ hC => b_X0_pairOf_e hC h)

def f_X0_fits (p0 : Int32) (p1 : Int32) (σ : ST) : Option (Int32 × ST) := (f_T_X0_fitsWithin  p0 p1 0 σ).bind fun q1 => if q1.1 = 0 ∨ q1.1 = 1 then some (q1.1, q1.2) else none

set_option maxRecDepth 100000 in
set_option maxHeartbeats 4000000 in
theorem b_X0_fits_e {p : Program} {l : Launch} {e : Env} {s : State} {m : MethodId} {args : Array Value} {below : List Frame} {meth : Method} {c : Code} {dC : Nat → ClassId} {dI : Nat → Nat → Nat} {a : Nat → Nat} {k : Nat → ClassId} {A : Nat → Prop} {q : Int32 × ST} (hC : CxA p s m args meth c dC dI k A cX0_fits RX0 (some .boolean) 3)   {p0 : Int32} {p1 : Int32} {σ : ST} (h : f_X0_fits  p0 p1 σ = some q) : GoA p l e ({ frames := 163, cells := 0, slots := 0, locals := 4390 } : Room) s m args below meth c (MQ below (qAi dC dI a k A q) args s 0 0 A) dC dI a k A 3 0 σ (lv_args 0 [.ref (a 41), .int p0, .int p1]) [] := by
  have hC0 := hC
  obtain ⟨hx, hb, hr, hml, hown, hts, hlocks, hA, hN, hK⟩ := hC0
  intro H locs ls hP hD hS hl
  have hD0 : ∀ σ1 : ST, va_D A (wA a k σ1) := fun σ1 => wA_D hD
  replace hl : lv_has ls 3 [(0, .ref (a 41)), (1, .int p0), (2, .int p1)] := hl
  unfold f_X0_fits at h
  refine lv_aload_n hx hb dX0_fits_0 rfl (lv_at hl 0 rfl) ?_
  refine lv_iload_n hx hb dX0_fits_1 rfl (lv_at hl 1 rfl) ?_
  refine lv_iload_n hx hb dX0_fits_2 rfl (lv_at hl 2 rfl) ?_
  refine lv_iconst (v := 0) hx hb dX0_fits_3 (by decide) ?_
  obtain ⟨q1, hc, h⟩ := ib h
  have hF := va_frees hD hS hA
  refine va_calli (va_runV (As := [.int p0, .int p1, .int 0]) (rest := []) ⟨hx, hb, hml, hown, hts⟩ (s_X0_fitsWithin hc) (cwV 3 hts (gV mw_2_9 mw_2_10 mw_2_11 mw_0_4 mw_47_10) rfl rfl rfl (by decide +kernel) ⟨(Nat.le_of_ble_eq_true rfl), (Nat.le_of_ble_eq_true rfl)⟩) (vV (ci := 0) (q0 := 41) hK hP hD hN rfl gA_41) rfl rfl hl.1 rfl (lv_room (Nat.le_of_ble_eq_true rfl)) dX0_fits_4 ⟨(Nat.le_of_ble_eq_true rfl), (Nat.le_of_ble_eq_true rfl)⟩) hS (fun q _ h => hF q h) hF (fun r2 u t H locs ht hvm hw hB _ _ hS => ?_)
  obtain rfl : r2 = q1.1 := hw
  replace hP : va_P (dC, dI) vwCl (wA a k q1.2) H := by rw [← ht]; exact hB.1
  replace hD := hD0 (q1.2)
  clear hB hF
  obtain ⟨hg, h⟩ := ig h
  obtain rfl := Option.some.inj h
  exact W.zret hx hb hr (zn hg) (fun t ht hW => ⟨⟨_, (), rfl, rfl, ⟨by rw [ht]; exact hP, va_K.moved hW.alike hK, hD⟩⟩, hS.F ht⟩) hS.2.2 dX0_fits_7

theorem s_X0_fits {l : Launch} {dC : Nat → ClassId} {dI : Nat → Nat → Nat} {a : Nat → Nat} {k : Nat → ClassId} {sz : Nat} {p0 : Int32} {p1 : Int32} {σ : ST} {q : Int32 × ST} (h : f_X0_fits  p0 p1 σ = some q) : Met l yX0_fits (.code yX0_fits cX0_fits 3 (some .boolean) :: pw) ({ frames := 163, cells := 0, slots := 0, locals := 4390 } : Room) (va_Pc [.ref (a 41), .int p0, .int p1] (vPre dC dI (wA a k σ) (tA k) sz)) (qAi dC dI a k (va_A (wA a k σ) sz) q) 0 0 (va_A (wA a k σ) sz) := metA (fun A => qAi dC dI a k A q) (plainFor_of_name (by decide)) (Nat.le_of_ble_eq_true rfl) (fun _ _ _ _ _ _ _ _ hC => b_X0_fits_e hC h)

def f_X5_isRecord (p0 : Int32) (σ : ST) : Option (Int32 × ST) := if p0 < 0 then (some (0, σ)) else (if 36 ≤ p0 then (some (0, σ)) else (some (1, σ)))

set_option maxRecDepth 100000 in
set_option maxHeartbeats 4000000 in
theorem b_X5_isRecord_e {p : Program} {l : Launch} {e : Env} {s : State} {m : MethodId} {args : Array Value} {below : List Frame} {meth : Method} {c : Code} {dC : Nat → ClassId} {dI : Nat → Nat → Nat} {a : Nat → Nat} {k : Nat → ClassId} {A : Nat → Prop} {q : Int32 × ST} (hC : CxA p s m args meth c dC dI k A cX5_isRecord RX5 (some .boolean) 1)   {p0 : Int32} {σ : ST} (h : f_X5_isRecord  p0 σ = some q) : GoA p l e ({ frames := 0, cells := 0, slots := 0, locals := 0 } : Room) s m args below meth c (MQ below (qAi dC dI a k A q) args s 0 0 A) dC dI a k A 1 0 σ (lv_args 0 [.int p0]) [] := by
  have hC0 := hC
  obtain ⟨hx, hb, hr, hml, hown, hts, hlocks, hA, hN, hK⟩ := hC0
  intro H locs ls hP hD hS hl
  have hD0 : ∀ σ1 : ST, va_D A (wA a k σ1) := fun σ1 => wA_D hD
  replace hl : lv_has ls 1 [(0, .int p0)] := hl
  unfold f_X5_isRecord at h
  refine lv_iload_n hx hb dX5_isRecord_0 rfl (lv_at hl 0 rfl) ?_
  refine lv_if_lt (tgt := 14) hx hb dX5_isRecord_1 (by decide) (fun hc => ?_) (fun hc => ?_)
  · replace h := ip hc h
    refine lv_iconst (v := 0) hx hb dX5_isRecord_14 (by decide) ?_
    obtain rfl := Option.some.inj h
    exact W.zret hx hb hr rfl (fun t ht hW => ⟨⟨_, (), rfl, rfl, ⟨by rw [ht]; exact hP, va_K.moved hW.alike hK, hD⟩⟩, hS.F ht⟩) hS.2.2 dX5_isRecord_15
  · replace h := iq hc h
    refine lv_iload_n hx hb dX5_isRecord_4 rfl (lv_at hl 0 rfl) ?_
    refine lv_bipush (v := 36) hx hb dX5_isRecord_5 (by decide) ?_
    refine lv_icmp_ge (tgt := 14) hx hb dX5_isRecord_7 (by decide) (fun hc => ?_) (fun hc => ?_)
    · replace h := ip hc h
      refine lv_iconst (v := 0) hx hb dX5_isRecord_14 (by decide) ?_
      obtain rfl := Option.some.inj h
      exact W.zret hx hb hr rfl (fun t ht hW => ⟨⟨_, (), rfl, rfl, ⟨by rw [ht]; exact hP, va_K.moved hW.alike hK, hD⟩⟩, hS.F ht⟩) hS.2.2 dX5_isRecord_15
    · replace h := iq hc h
      refine lv_iconst (v := 1) hx hb dX5_isRecord_10 (by decide) ?_
      refine lv_goto (tgt := 15) hx hb dX5_isRecord_11 (by decide) ?_
      obtain rfl := Option.some.inj h
      exact W.zret hx hb hr rfl (fun t ht hW => ⟨⟨_, (), rfl, rfl, ⟨by rw [ht]; exact hP, va_K.moved hW.alike hK, hD⟩⟩, hS.F ht⟩) hS.2.2 dX5_isRecord_15

theorem s_X5_isRecord {l : Launch} {dC : Nat → ClassId} {dI : Nat → Nat → Nat} {a : Nat → Nat} {k : Nat → ClassId} {sz : Nat} {p0 : Int32} {σ : ST} {q : Int32 × ST} (h : f_X5_isRecord  p0 σ = some q) : Met l yX5_isRecord (.code yX5_isRecord cX5_isRecord 1 (some .boolean) :: pw) ({ frames := 0, cells := 0, slots := 0, locals := 0 } : Room) (va_Pc [.int p0] (vPre dC dI (wA a k σ) (tA k) sz)) (qAi dC dI a k (va_A (wA a k σ) sz) q) 0 0 (va_A (wA a k σ) sz) := metA (fun A => qAi dC dI a k A q) (plainFor_of_name (by decide)) (Nat.le_of_ble_eq_true rfl) (fun _ _ _ _ _ _ _ _ hC => b_X5_isRecord_e hC h)

def f_X5_recordName (b : Nat) (p0 : Int32) (σ : ST) : Option (Int64 × ST) := (f_X5_isRecord  p0 σ).bind fun q1 => if q1.1 = 0 then (some (0, q1.2)) else (if 0 ≤ p0.toInt ∧ p0.toInt < 36 then (some ((q1.2.2.1 (b + 4) p0.toNatClampNeg), q1.2)) else none)

set_option maxRecDepth 100000 in
set_option maxHeartbeats 4000000 in
theorem b_X5_recordName_e_4 {p : Program} {l : Launch} {e : Env} {s : State} {m : MethodId} {args : Array Value} {below : List Frame} {meth : Method} {c : Code} {dC : Nat → ClassId} {dI : Nat → Nat → Nat} {a : Nat → Nat} {k : Nat → ClassId} {A : Nat → Prop} {q : Int64 × ST} (hC : CxA p s m args meth c dC dI k A cX5_recordName RX5 (some .long) 2)   {p0 : Int32} {σ : ST} (h : f_X5_recordName 4 p0 σ = some q) : GoA p l e ({ frames := 1, cells := 0, slots := 0, locals := 20 } : Room) s m args below meth c (MQ below (qAl dC dI a k A q) args s 0 0 A) dC dI a k A 2 0 σ (lv_args 0 [.ref (a 4), .int p0]) [] := by
  have hC0 := hC
  obtain ⟨hx, hb, hr, hml, hown, hts, hlocks, hA, hN, hK⟩ := hC0
  intro H locs ls hP hD hS hl
  have hD0 : ∀ σ1 : ST, va_D A (wA a k σ1) := fun σ1 => wA_D hD
  replace hl : lv_has ls 2 [(0, .ref (a 4)), (1, .int p0)] := hl
  unfold f_X5_recordName at h
  refine lv_iload_n hx hb dX5_recordName_0 rfl (lv_at hl 1 rfl) ?_
  obtain ⟨q1, hc, h⟩ := ib h
  have hF := va_frees hD hS hA
  refine va_calli (va_runS (As := [.int p0]) (rest := []) ⟨hx, hb, hml, hown, hts⟩ (s_X5_isRecord hc) (va_cwS 1 hts (gS mw_15_5 mw_15_6 mw_0_9 mw_49_24) rfl rfl rfl (by decide +kernel) ⟨(Nat.le_of_ble_eq_true rfl), (Nat.le_of_ble_eq_true rfl)⟩) (vS hK hP hD hN) rfl rfl hl.1 rfl (lv_room (Nat.le_of_ble_eq_true rfl)) dX5_recordName_1 ⟨(Nat.le_of_ble_eq_true rfl), (Nat.le_of_ble_eq_true rfl)⟩) hS (fun q _ h => hF q h) hF (fun r2 u t H locs ht hvm hw hB _ _ hS => ?_)
  obtain rfl : r2 = q1.1 := hw
  replace hP : va_P (dC, dI) vwCl (wA a k q1.2) H := by rw [← ht]; exact hB.1
  replace hD := hD0 (q1.2)
  clear hB hF
  refine lv_if_eq (tgt := 16) hx hb dX5_recordName_4 (by decide) (fun hc => ?_) (fun hc => ?_)
  · replace h := ip hc h
    refine lv_lconst (v := 0) hx hb dX5_recordName_16 (by decide) ?_
    obtain rfl := Option.some.inj h
    exact W.lret hx hb hr (fun t ht hW => ⟨⟨_, (), rfl, rfl, ⟨by rw [ht]; exact hP, va_K.moved hW.alike hK, hD⟩⟩, hS.F ht⟩) hS.2.2 dX5_recordName_17
  · replace h := iq hc h
    refine lv_aload_n hx hb dX5_recordName_7 rfl (lv_at hl 0 rfl) ?_
    refine va_get (D := (dC, dI)) (ci := 5) (C := RX5) (T := TX5) (N := 17) hx hb hts inlX5 hown hK hP 4 gA_4 rfl 5 (by decide) (hts (.fieldLink RX5 28 "ShapeReader$Shapes" "recordNames" "[J") mw_14_22) (fun _ h9 => h9) rfl dX5_recordName_8 ?_
    refine lv_iload_n hx hb dX5_recordName_11 rfl (lv_at hl 1 rfl) ?_
    obtain ⟨hg3, h⟩ := ig h
    refine va_lald hx hb hK hP 8 5 gA_8 yA_8 (vp_in_iff.mpr hg3) dX5_recordName_12 ?_
    refine lv_goto (tgt := 17) hx hb dX5_recordName_13 (by decide) ?_
    obtain rfl := Option.some.inj h
    exact W.lret hx hb hr (fun t ht hW => ⟨⟨_, (), rfl, rfl, ⟨by rw [ht]; exact hP, va_K.moved hW.alike hK, hD⟩⟩, hS.F ht⟩) hS.2.2 dX5_recordName_17

theorem s_X5_recordName_4 {l : Launch} {dC : Nat → ClassId} {dI : Nat → Nat → Nat} {a : Nat → Nat} {k : Nat → ClassId} {sz : Nat} {p0 : Int32} {σ : ST} {q : Int64 × ST} (h : f_X5_recordName 4 p0 σ = some q) : Met l yX5_recordName (.code yX5_recordName cX5_recordName 2 (some .long) :: pw) ({ frames := 1, cells := 0, slots := 0, locals := 20 } : Room) (va_Pc [.ref (a 4), .int p0] (vPre dC dI (wA a k σ) (tA k) sz)) (qAl dC dI a k (va_A (wA a k σ) sz) q) 0 0 (va_A (wA a k σ) sz) := metA (fun A => qAl dC dI a k A q) (plainFor_of_name (by decide)) (Nat.le_of_ble_eq_true rfl) (fun _ _ _ _ _ _ _ _ hC => b_X5_recordName_e_4 hC h)

set_option maxRecDepth 100000 in
set_option maxHeartbeats 4000000 in
theorem b_X5_recordName_e_20 {p : Program} {l : Launch} {e : Env} {s : State} {m : MethodId} {args : Array Value} {below : List Frame} {meth : Method} {c : Code} {dC : Nat → ClassId} {dI : Nat → Nat → Nat} {a : Nat → Nat} {k : Nat → ClassId} {A : Nat → Prop} {q : Int64 × ST} (hC : CxA p s m args meth c dC dI k A cX5_recordName RX5 (some .long) 2)   {p0 : Int32} {σ : ST} (h : f_X5_recordName 20 p0 σ = some q) : GoA p l e ({ frames := 1, cells := 0, slots := 0, locals := 20 } : Room) s m args below meth c (MQ below (qAl dC dI a k A q) args s 0 0 A) dC dI a k A 2 0 σ (lv_args 0 [.ref (a 20), .int p0]) [] := by
  have hC0 := hC
  obtain ⟨hx, hb, hr, hml, hown, hts, hlocks, hA, hN, hK⟩ := hC0
  intro H locs ls hP hD hS hl
  have hD0 : ∀ σ1 : ST, va_D A (wA a k σ1) := fun σ1 => wA_D hD
  replace hl : lv_has ls 2 [(0, .ref (a 20)), (1, .int p0)] := hl
  unfold f_X5_recordName at h
  refine lv_iload_n hx hb dX5_recordName_0 rfl (lv_at hl 1 rfl) ?_
  obtain ⟨q1, hc, h⟩ := ib h
  have hF := va_frees hD hS hA
  refine va_calli (va_runS (As := [.int p0]) (rest := []) ⟨hx, hb, hml, hown, hts⟩ (s_X5_isRecord hc) (va_cwS 1 hts (gS mw_15_5 mw_15_6 mw_0_9 mw_49_24) rfl rfl rfl (by decide +kernel) ⟨(Nat.le_of_ble_eq_true rfl), (Nat.le_of_ble_eq_true rfl)⟩) (vS hK hP hD hN) rfl rfl hl.1 rfl (lv_room (Nat.le_of_ble_eq_true rfl)) dX5_recordName_1 ⟨(Nat.le_of_ble_eq_true rfl), (Nat.le_of_ble_eq_true rfl)⟩) hS (fun q _ h => hF q h) hF (fun r2 u t H locs ht hvm hw hB _ _ hS => ?_)
  obtain rfl : r2 = q1.1 := hw
  replace hP : va_P (dC, dI) vwCl (wA a k q1.2) H := by rw [← ht]; exact hB.1
  replace hD := hD0 (q1.2)
  clear hB hF
  refine lv_if_eq (tgt := 16) hx hb dX5_recordName_4 (by decide) (fun hc => ?_) (fun hc => ?_)
  · replace h := ip hc h
    refine lv_lconst (v := 0) hx hb dX5_recordName_16 (by decide) ?_
    obtain rfl := Option.some.inj h
    exact W.lret hx hb hr (fun t ht hW => ⟨⟨_, (), rfl, rfl, ⟨by rw [ht]; exact hP, va_K.moved hW.alike hK, hD⟩⟩, hS.F ht⟩) hS.2.2 dX5_recordName_17
  · replace h := iq hc h
    refine lv_aload_n hx hb dX5_recordName_7 rfl (lv_at hl 0 rfl) ?_
    refine va_get (D := (dC, dI)) (ci := 5) (C := RX5) (T := TX5) (N := 17) hx hb hts inlX5 hown hK hP 20 gA_20 rfl 5 (by decide) (hts (.fieldLink RX5 28 "ShapeReader$Shapes" "recordNames" "[J") mw_14_22) (fun _ h9 => h9) rfl dX5_recordName_8 ?_
    refine lv_iload_n hx hb dX5_recordName_11 rfl (lv_at hl 1 rfl) ?_
    obtain ⟨hg3, h⟩ := ig h
    refine va_lald hx hb hK hP 24 20 gA_24 yA_24 (vp_in_iff.mpr hg3) dX5_recordName_12 ?_
    refine lv_goto (tgt := 17) hx hb dX5_recordName_13 (by decide) ?_
    obtain rfl := Option.some.inj h
    exact W.lret hx hb hr (fun t ht hW => ⟨⟨_, (), rfl, rfl, ⟨by rw [ht]; exact hP, va_K.moved hW.alike hK, hD⟩⟩, hS.F ht⟩) hS.2.2 dX5_recordName_17

theorem s_X5_recordName_20 {l : Launch} {dC : Nat → ClassId} {dI : Nat → Nat → Nat} {a : Nat → Nat} {k : Nat → ClassId} {sz : Nat} {p0 : Int32} {σ : ST} {q : Int64 × ST} (h : f_X5_recordName 20 p0 σ = some q) : Met l yX5_recordName (.code yX5_recordName cX5_recordName 2 (some .long) :: pw) ({ frames := 1, cells := 0, slots := 0, locals := 20 } : Room) (va_Pc [.ref (a 20), .int p0] (vPre dC dI (wA a k σ) (tA k) sz)) (qAl dC dI a k (va_A (wA a k σ) sz) q) 0 0 (va_A (wA a k σ) sz) := metA (fun A => qAl dC dI a k A q) (plainFor_of_name (by decide)) (Nat.le_of_ble_eq_true rfl) (fun _ _ _ _ _ _ _ _ hC => b_X5_recordName_e_20 hC h)

def f_X0_mayPair_38 (σ : ST) : Option (Int32 × ST) := some (1, σ)
def f_X0_mayPair_18 (x1 : Int32) (x2 : Int32) (σ : ST) : Option (Int32 × ST) := (f_X5_recordName 4 x1 σ).bind fun q1 => (f_X5_recordName 4 x2 q1.2).bind fun q3 => if (lg_cmp q1.1 q3.1) = 0 then (f_X0_mayPair_38   q3.2) else (some (0, q3.2))
def f_X0_mayPair (p0 : Int32) (p1 : Int32) (σ : ST) : Option (Int32 × ST) := (f_J9_floorMod_7cf53  p0 6 σ).bind fun q1 => if q1.1 = 0 then ((f_J9_floorMod_7cf53  p1 6 q1.2).bind fun q3 => if q3.1 = 0 then (f_X0_mayPair_38   q3.2) else (f_X0_mayPair_18  p0 p1 q3.2)) else (f_X0_mayPair_18  p0 p1 q1.2)

set_option maxRecDepth 100000 in
set_option maxHeartbeats 4000000 in
theorem b_X0_mayPair_38 {p : Program} {l : Launch} {e : Env} {s : State} {m : MethodId} {args : Array Value} {below : List Frame} {meth : Method} {c : Code} {dC : Nat → ClassId} {dI : Nat → Nat → Nat} {a : Nat → Nat} {k : Nat → ClassId} {A : Nat → Prop} {q : Int32 × ST} (hC : CxA p s m args meth c dC dI k A cX0_mayPair RX0 (some .boolean) 3)    {σ : ST} (h : f_X0_mayPair_38   σ = some q) : GoA p l e ({ frames := 2, cells := 0, slots := 0, locals := 41 } : Room) s m args below meth c (MQ below (qAi dC dI a k A q) args s 0 0 A) dC dI a k A 3 38 σ [] [] := by
  have hC0 := hC
  obtain ⟨hx, hb, hr, hml, hown, hts, hlocks, hA, hN, hK⟩ := hC0
  intro H locs ls hP hD hS hl
  have hD0 : ∀ σ1 : ST, va_D A (wA a k σ1) := fun σ1 => wA_D hD
  unfold f_X0_mayPair_38 at h
  refine lv_iconst (v := 1) hx hb dX0_mayPair_38 (by decide) ?_
  refine lv_goto (tgt := 43) hx hb dX0_mayPair_39 (by decide) ?_
  obtain rfl := Option.some.inj h
  exact W.zret hx hb hr rfl (fun t ht hW => ⟨⟨_, (), rfl, rfl, ⟨by rw [ht]; exact hP, va_K.moved hW.alike hK, hD⟩⟩, hS.F ht⟩) hS.2.2 dX0_mayPair_43

set_option maxRecDepth 100000 in
set_option maxHeartbeats 4000000 in
theorem b_X0_mayPair_18 {p : Program} {l : Launch} {e : Env} {s : State} {m : MethodId} {args : Array Value} {below : List Frame} {meth : Method} {c : Code} {dC : Nat → ClassId} {dI : Nat → Nat → Nat} {a : Nat → Nat} {k : Nat → ClassId} {A : Nat → Prop} {q : Int32 × ST} (hC : CxA p s m args meth c dC dI k A cX0_mayPair RX0 (some .boolean) 3)   {x1 : Int32} {x2 : Int32} {σ : ST} (h : f_X0_mayPair_18  x1 x2 σ = some q) : GoA p l e ({ frames := 2, cells := 0, slots := 0, locals := 41 } : Room) s m args below meth c (MQ below (qAi dC dI a k A q) args s 0 0 A) dC dI a k A 3 18 σ [(0, .ref (a 41)), (1, .int x1), (2, .int x2)] [] := by
  have hC0 := hC
  obtain ⟨hx, hb, hr, hml, hown, hts, hlocks, hA, hN, hK⟩ := hC0
  intro H locs ls hP hD hS hl
  have hD0 : ∀ σ1 : ST, va_D A (wA a k σ1) := fun σ1 => wA_D hD
  unfold f_X0_mayPair_18 at h
  refine lv_aload_n hx hb dX0_mayPair_18 rfl (lv_at hl 0 rfl) ?_
  refine va_get (D := (dC, dI)) (ci := 0) (C := RX0) (T := TX0) (N := 13) hx hb hts inlX0 hown hK hP 41 gA_41 rfl 0 (by decide) (hts (.fieldLink RX0 51 "ShapeReader$Matcher" "shapes" "LShapeReader$Shapes;") mw_1_0) (fun _ h9 => h9) rfl dX0_mayPair_19 ?_
  refine lv_iload_n hx hb dX0_mayPair_22 rfl (lv_at hl 1 rfl) ?_
  obtain ⟨q1, hc, h⟩ := ib h
  have hF := va_frees hD hS hA
  refine va_calll (va_runV (As := [.int x1]) (rest := []) ⟨hx, hb, hml, hown, hts⟩ (s_X5_recordName_4 hc) (cwV 1 hts (gV mw_1_24 mw_1_25 mw_1_26 mw_0_9 mw_50_0) rfl rfl rfl (by decide +kernel) ⟨(Nat.le_of_ble_eq_true rfl), (Nat.le_of_ble_eq_true rfl)⟩) (vV (ci := 5) (q0 := 4) hK hP hD hN rfl gA_4) rfl rfl hl.1 rfl (lv_room (Nat.le_of_ble_eq_true rfl)) dX0_mayPair_23 ⟨(Nat.le_of_ble_eq_true rfl), (Nat.le_of_ble_eq_true rfl)⟩) hS (fun q _ h => hF q h) hF (fun r2 u t H locs ht hvm hw hB _ _ hS => ?_)
  obtain rfl : r2 = q1.1 := hw
  replace hP : va_P (dC, dI) vwCl (wA a k q1.2) H := by rw [← ht]; exact hB.1
  replace hD := hD0 (q1.2)
  clear hB hF
  refine lv_aload_n hx hb dX0_mayPair_26 rfl (lv_at hl 0 rfl) ?_
  refine va_get (D := (dC, dI)) (ci := 0) (C := RX0) (T := TX0) (N := 13) hx hb hts inlX0 hown hK hP 41 gA_41 rfl 0 (by decide) (hts (.fieldLink RX0 51 "ShapeReader$Matcher" "shapes" "LShapeReader$Shapes;") mw_1_0) (fun _ h9 => h9) rfl dX0_mayPair_27 ?_
  refine lv_iload_n hx hb dX0_mayPair_30 rfl (lv_at hl 2 rfl) ?_
  obtain ⟨q3, hc, h⟩ := ib h
  have hF := va_frees hD hS hA
  refine va_calll (va_runV (As := [.int x2]) (rest := [.long q1.1]) ⟨hx, hb, hml, hown, hts⟩ (s_X5_recordName_4 hc) (cwV 1 hts (gV mw_1_24 mw_1_25 mw_1_26 mw_0_9 mw_50_0) rfl rfl rfl (by decide +kernel) ⟨(Nat.le_of_ble_eq_true rfl), (Nat.le_of_ble_eq_true rfl)⟩) (vV (ci := 5) (q0 := 4) hK hP hD hN rfl gA_4) rfl rfl hl.1 rfl (lv_room (Nat.le_of_ble_eq_true rfl)) dX0_mayPair_31 ⟨(Nat.le_of_ble_eq_true rfl), (Nat.le_of_ble_eq_true rfl)⟩) hS (fun q _ h => hF q h) hF (fun r4 u t H locs ht hvm hw hB _ _ hS => ?_)
  obtain rfl : r4 = q3.1 := hw
  replace hP : va_P (dC, dI) vwCl (wA a k q3.2) H := by rw [← ht]; exact hB.1
  replace hD := hD0 (q3.2)
  clear hB hF
  refine W.lcmp hx hb dX0_mayPair_34 ?_
  refine lv_if_ne (tgt := 42) hx hb dX0_mayPair_35 (by decide) (fun hc => ?_) (fun hc => ?_)
  · replace h := iq hc h
    refine lv_iconst (v := 0) hx hb dX0_mayPair_42 (by decide) ?_
    obtain rfl := Option.some.inj h
    exact W.zret hx hb hr rfl (fun t ht hW => ⟨⟨_, (), rfl, rfl, ⟨by rw [ht]; exact hP, va_K.moved hW.alike hK, hD⟩⟩, hS.F ht⟩) hS.2.2 dX0_mayPair_43
  · replace h := ip hc h
    exact b_X0_mayPair_38 hC h _ _ _ hP hD hS (lv_sub hl [] rfl)

set_option maxRecDepth 100000 in
set_option maxHeartbeats 4000000 in
theorem b_X0_mayPair_e {p : Program} {l : Launch} {e : Env} {s : State} {m : MethodId} {args : Array Value} {below : List Frame} {meth : Method} {c : Code} {dC : Nat → ClassId} {dI : Nat → Nat → Nat} {a : Nat → Nat} {k : Nat → ClassId} {A : Nat → Prop} {q : Int32 × ST} (hC : CxA p s m args meth c dC dI k A cX0_mayPair RX0 (some .boolean) 3)   {p0 : Int32} {p1 : Int32} {σ : ST} (h : f_X0_mayPair  p0 p1 σ = some q) : GoA p l e ({ frames := 2, cells := 0, slots := 0, locals := 41 } : Room) s m args below meth c (MQ below (qAi dC dI a k A q) args s 0 0 A) dC dI a k A 3 0 σ (lv_args 0 [.ref (a 41), .int p0, .int p1]) [] := by
  have hC0 := hC
  obtain ⟨hx, hb, hr, hml, hown, hts, hlocks, hA, hN, hK⟩ := hC0
  intro H locs ls hP hD hS hl
  have hD0 : ∀ σ1 : ST, va_D A (wA a k σ1) := fun σ1 => wA_D hD
  replace hl : lv_has ls 3 [(0, .ref (a 41)), (1, .int p0), (2, .int p1)] := hl
  unfold f_X0_mayPair at h
  refine lv_iload_n hx hb dX0_mayPair_0 rfl (lv_at hl 1 rfl) ?_
  refine lv_bipush (v := 6) hx hb dX0_mayPair_1 (by decide) ?_
  obtain ⟨q1, hc, h⟩ := ib h
  have hF := va_frees hD hS hA
  refine va_calli (va_runS (As := [.int p0, .int 6]) (rest := []) ⟨hx, hb, hml, hown, hts⟩ (s_J9_floorMod_7cf53 hc) (va_cwS 2 hts (gS mw_1_4 mw_1_5 mw_1_6 mw_57_22) rfl rfl rfl (by decide +kernel) ⟨(Nat.le_of_ble_eq_true rfl), (Nat.le_of_ble_eq_true rfl)⟩) (vS hK hP hD hN) rfl rfl hl.1 rfl (lv_room (Nat.le_of_ble_eq_true rfl)) dX0_mayPair_3 ⟨(Nat.le_of_ble_eq_true rfl), (Nat.le_of_ble_eq_true rfl)⟩) hS (fun q _ h => hF q h) hF (fun r2 u t H locs ht hvm hw hB _ _ hS => ?_)
  obtain rfl : r2 = q1.1 := hw
  replace hP : va_P (dC, dI) vwCl (wA a k q1.2) H := by rw [← ht]; exact hB.1
  replace hD := hD0 (q1.2)
  clear hB hF
  refine lv_if_ne (tgt := 18) hx hb dX0_mayPair_6 (by decide) (fun hc => ?_) (fun hc => ?_)
  · replace h := iq hc h
    exact b_X0_mayPair_18 hC h _ _ _ hP hD hS (lv_sub hl [0, 1, 2] rfl)
  · replace h := ip hc h
    refine lv_iload_n hx hb dX0_mayPair_9 rfl (lv_at hl 2 rfl) ?_
    refine lv_bipush (v := 6) hx hb dX0_mayPair_10 (by decide) ?_
    obtain ⟨q3, hc, h⟩ := ib h
    have hF := va_frees hD hS hA
    refine va_calli (va_runS (As := [.int p1, .int 6]) (rest := []) ⟨hx, hb, hml, hown, hts⟩ (s_J9_floorMod_7cf53 hc) (va_cwS 2 hts (gS mw_1_4 mw_1_5 mw_1_6 mw_57_22) rfl rfl rfl (by decide +kernel) ⟨(Nat.le_of_ble_eq_true rfl), (Nat.le_of_ble_eq_true rfl)⟩) (vS hK hP hD hN) rfl rfl hl.1 rfl (lv_room (Nat.le_of_ble_eq_true rfl)) dX0_mayPair_12 ⟨(Nat.le_of_ble_eq_true rfl), (Nat.le_of_ble_eq_true rfl)⟩) hS (fun q _ h => hF q h) hF (fun r4 u t H locs ht hvm hw hB _ _ hS => ?_)
    obtain rfl : r4 = q3.1 := hw
    replace hP : va_P (dC, dI) vwCl (wA a k q3.2) H := by rw [← ht]; exact hB.1
    replace hD := hD0 (q3.2)
    clear hB hF
    refine lv_if_eq (tgt := 38) hx hb dX0_mayPair_15 (by decide) (fun hc => ?_) (fun hc => ?_)
    · replace h := ip hc h
      exact b_X0_mayPair_38 hC h _ _ _ hP hD hS (lv_sub hl [] rfl)
    · replace h := iq hc h
      exact b_X0_mayPair_18 hC h _ _ _ hP hD hS (lv_sub hl [0, 1, 2] rfl)

theorem s_X0_mayPair {l : Launch} {dC : Nat → ClassId} {dI : Nat → Nat → Nat} {a : Nat → Nat} {k : Nat → ClassId} {sz : Nat} {p0 : Int32} {p1 : Int32} {σ : ST} {q : Int32 × ST} (h : f_X0_mayPair  p0 p1 σ = some q) : Met l yX0_mayPair (.code yX0_mayPair cX0_mayPair 3 (some .boolean) :: pw) ({ frames := 2, cells := 0, slots := 0, locals := 41 } : Room) (va_Pc [.ref (a 41), .int p0, .int p1] (vPre dC dI (wA a k σ) (tA k) sz)) (qAi dC dI a k (va_A (wA a k σ) sz) q) 0 0 (va_A (wA a k σ) sz) := metA (fun A => qAi dC dI a k A q) (plainFor_of_name (by decide)) (Nat.le_of_ble_eq_true rfl) (fun _ _ _ _ _ _ _ _ hC => b_X0_mayPair_e hC h)

def f_X0_step_26 (σ : ST) : Option (ST) := some (stI σ 41 11 ((σ.1 41 11) + 1))
def f_X0_step (p0 : Int32) (σ : ST) : Option (ST) := if (σ.1 41 11) < 0 then (f_X0_step_26   σ) else (if 32 ≤ (σ.1 41 11) then (f_X0_step_26   σ) else (if 0 ≤ (σ.1 41 11).toInt ∧ (σ.1 41 11).toInt < 32 then (f_X0_step_26   (stI σ 47 (σ.1 41 11).toNatClampNeg p0)) else none))

set_option maxRecDepth 100000 in
set_option maxHeartbeats 4000000 in
theorem b_X0_step_26 {p : Program} {l : Launch} {e : Env} {s : State} {m : MethodId} {args : Array Value} {below : List Frame} {meth : Method} {c : Code} {dC : Nat → ClassId} {dI : Nat → Nat → Nat} {a : Nat → Nat} {k : Nat → ClassId} {A : Nat → Prop} {q : ST} (hC : CxA p s m args meth c dC dI k A cX0_step RX0 none 2)    {σ : ST} (h : f_X0_step_26   σ = some q) : GoA p l e ({ frames := 0, cells := 0, slots := 0, locals := 0 } : Room) s m args below meth c (MQ below (qAv dC dI a k A q) args s 0 0 A) dC dI a k A 2 26 σ [(0, .ref (a 41))] [] := by
  have hC0 := hC
  obtain ⟨hx, hb, hr, hml, hown, hts, hlocks, hA, hN, hK⟩ := hC0
  intro H locs ls hP hD hS hl
  have hD0 : ∀ σ1 : ST, va_D A (wA a k σ1) := fun σ1 => wA_D hD
  unfold f_X0_step_26 at h
  refine lv_aload_n hx hb dX0_step_26 rfl (lv_at hl 0 rfl) ?_
  refine lv_dup hx hb dX0_step_27 rfl ?_
  refine va_get (D := (dC, dI)) (ci := 0) (C := RX0) (T := TX0) (N := 13) hx hb hts inlX0 hown hK hP 41 gA_41 rfl 11 (by decide) (hts (.fieldLink RX0 45 "ShapeReader$Matcher" "steps" "I") mw_0_28) (fun _ h9 => h9) rfl dX0_step_28 ?_
  refine lv_iconst (v := 1) hx hb dX0_step_31 (by decide) ?_
  refine lv_iadd hx hb dX0_step_32 ?_
  refine va_put (D := (dC, dI)) (ci := 0) (ty := .int) (C := RX0) (T := TX0) (N := 13) hx hb hts inlX0 tyX0 tyX0_ok nmX0 hown hK hP hD hS 41 gA_41 rfl 11 (by decide) (hts (.fieldLink RX0 45 "ShapeReader$Matcher" "steps" "I") mw_0_28) (fun _ h9 => h9) rfl (by decide +kernel) rfl rfl (Nat.le_of_ble_eq_true rfl) dX0_step_33 (fun H locs hP hD hS => ?_)
  replace hP := uA_41_11 hP
  replace hD := hD0 ((stI σ 41 11 ((σ.1 41 11) + 1)))
  obtain rfl := Option.some.inj h
  exact W.vret hx hb hr (fun t ht hW => ⟨⟨(), rfl, trivial, ⟨by rw [ht]; exact hP, va_K.moved hW.alike hK, hD⟩⟩, hS.F ht⟩) hS.2.2 dX0_step_36

set_option maxRecDepth 100000 in
set_option maxHeartbeats 4000000 in
theorem b_X0_step_e {p : Program} {l : Launch} {e : Env} {s : State} {m : MethodId} {args : Array Value} {below : List Frame} {meth : Method} {c : Code} {dC : Nat → ClassId} {dI : Nat → Nat → Nat} {a : Nat → Nat} {k : Nat → ClassId} {A : Nat → Prop} {q : ST} (hC : CxA p s m args meth c dC dI k A cX0_step RX0 none 2)   {p0 : Int32} {σ : ST} (h : f_X0_step  p0 σ = some q) : GoA p l e ({ frames := 0, cells := 0, slots := 0, locals := 0 } : Room) s m args below meth c (MQ below (qAv dC dI a k A q) args s 0 0 A) dC dI a k A 2 0 σ (lv_args 0 [.ref (a 41), .int p0]) [] := by
  have hC0 := hC
  obtain ⟨hx, hb, hr, hml, hown, hts, hlocks, hA, hN, hK⟩ := hC0
  intro H locs ls hP hD hS hl
  have hD0 : ∀ σ1 : ST, va_D A (wA a k σ1) := fun σ1 => wA_D hD
  replace hl : lv_has ls 2 [(0, .ref (a 41)), (1, .int p0)] := hl
  unfold f_X0_step at h
  refine lv_aload_n hx hb dX0_step_0 rfl (lv_at hl 0 rfl) ?_
  refine va_get (D := (dC, dI)) (ci := 0) (C := RX0) (T := TX0) (N := 13) hx hb hts inlX0 hown hK hP 41 gA_41 rfl 11 (by decide) (hts (.fieldLink RX0 45 "ShapeReader$Matcher" "steps" "I") mw_0_28) (fun _ h9 => h9) rfl dX0_step_1 ?_
  refine lv_if_lt (tgt := 26) hx hb dX0_step_4 (by decide) (fun hc => ?_) (fun hc => ?_)
  · replace h := ip hc h
    exact b_X0_step_26 hC h _ _ _ hP hD hS (lv_sub hl [0] rfl)
  · replace h := iq hc h
    refine lv_aload_n hx hb dX0_step_7 rfl (lv_at hl 0 rfl) ?_
    refine va_get (D := (dC, dI)) (ci := 0) (C := RX0) (T := TX0) (N := 13) hx hb hts inlX0 hown hK hP 41 gA_41 rfl 11 (by decide) (hts (.fieldLink RX0 45 "ShapeReader$Matcher" "steps" "I") mw_0_28) (fun _ h9 => h9) rfl dX0_step_8 ?_
    refine lv_bipush (v := 32) hx hb dX0_step_11 (by decide) ?_
    refine lv_icmp_ge (tgt := 26) hx hb dX0_step_13 (by decide) (fun hc => ?_) (fun hc => ?_)
    · replace h := ip hc h
      exact b_X0_step_26 hC h _ _ _ hP hD hS (lv_sub hl [0] rfl)
    · replace h := iq hc h
      refine lv_aload_n hx hb dX0_step_16 rfl (lv_at hl 0 rfl) ?_
      refine va_get (D := (dC, dI)) (ci := 0) (C := RX0) (T := TX0) (N := 13) hx hb hts inlX0 hown hK hP 41 gA_41 rfl 10 (by decide) (hts (.fieldLink RX0 42 "ShapeReader$Matcher" "path" "[I") mw_0_27) (fun _ h9 => h9) rfl dX0_step_17 ?_
      refine lv_aload_n hx hb dX0_step_20 rfl (lv_at hl 0 rfl) ?_
      refine va_get (D := (dC, dI)) (ci := 0) (C := RX0) (T := TX0) (N := 13) hx hb hts inlX0 hown hK hP 41 gA_41 rfl 11 (by decide) (hts (.fieldLink RX0 45 "ShapeReader$Matcher" "steps" "I") mw_0_28) (fun _ h9 => h9) rfl dX0_step_21 ?_
      refine lv_iload_n hx hb dX0_step_24 rfl (lv_at hl 1 rfl) ?_
      obtain ⟨hg1, h⟩ := ig h
      refine va_iast hx hb hK hP hD hS 47 40 gA_47 yA_47 (vp_in_iff.mpr hg1) dX0_step_25 (fun H locs hP hD hS => ?_)
      replace hP := uA_47 hP
      replace hD := hD0 ((stI σ 47 (σ.1 41 11).toNatClampNeg p0))
      exact b_X0_step_26 hC h _ _ _ hP hD hS (lv_sub hl [0] rfl)

theorem s_X0_step {l : Launch} {dC : Nat → ClassId} {dI : Nat → Nat → Nat} {a : Nat → Nat} {k : Nat → ClassId} {sz : Nat} {p0 : Int32} {σ : ST} {q : ST} (h : f_X0_step  p0 σ = some q) : Met l yX0_step (.code yX0_step cX0_step 2 none :: pw) ({ frames := 0, cells := 0, slots := 0, locals := 0 } : Room) (va_Pc [.ref (a 41), .int p0] (vPre dC dI (wA a k σ) (tA k) sz)) (qAv dC dI a k (va_A (wA a k σ) sz) q) 0 0 (va_A (wA a k σ) sz) := metA (fun A => qAv dC dI a k A q) (plainFor_of_name (by decide)) (Nat.le_of_ble_eq_true rfl) (fun _ _ _ _ _ _ _ _ hC => b_X0_step_e hC h)

def f_X5_fieldsOf (b : Nat) (p0 : Int32) (σ : ST) : Option (Int32 × ST) := (f_X5_isRecord  p0 σ).bind fun q1 => if q1.1 = 0 then (some (0, q1.2)) else (if 0 ≤ p0.toInt ∧ p0.toInt < 36 then (some ((q1.2.1 (b + 3) p0.toNatClampNeg), q1.2)) else none)

set_option maxRecDepth 100000 in
set_option maxHeartbeats 4000000 in
theorem b_X5_fieldsOf_e_4 {p : Program} {l : Launch} {e : Env} {s : State} {m : MethodId} {args : Array Value} {below : List Frame} {meth : Method} {c : Code} {dC : Nat → ClassId} {dI : Nat → Nat → Nat} {a : Nat → Nat} {k : Nat → ClassId} {A : Nat → Prop} {q : Int32 × ST} (hC : CxA p s m args meth c dC dI k A cX5_fieldsOf RX5 (some .int) 2)   {p0 : Int32} {σ : ST} (h : f_X5_fieldsOf 4 p0 σ = some q) : GoA p l e ({ frames := 1, cells := 0, slots := 0, locals := 20 } : Room) s m args below meth c (MQ below (qAi dC dI a k A q) args s 0 0 A) dC dI a k A 2 0 σ (lv_args 0 [.ref (a 4), .int p0]) [] := by
  have hC0 := hC
  obtain ⟨hx, hb, hr, hml, hown, hts, hlocks, hA, hN, hK⟩ := hC0
  intro H locs ls hP hD hS hl
  have hD0 : ∀ σ1 : ST, va_D A (wA a k σ1) := fun σ1 => wA_D hD
  replace hl : lv_has ls 2 [(0, .ref (a 4)), (1, .int p0)] := hl
  unfold f_X5_fieldsOf at h
  refine lv_iload_n hx hb dX5_fieldsOf_0 rfl (lv_at hl 1 rfl) ?_
  obtain ⟨q1, hc, h⟩ := ib h
  have hF := va_frees hD hS hA
  refine va_calli (va_runS (As := [.int p0]) (rest := []) ⟨hx, hb, hml, hown, hts⟩ (s_X5_isRecord hc) (va_cwS 1 hts (gS mw_15_5 mw_15_6 mw_0_9 mw_49_24) rfl rfl rfl (by decide +kernel) ⟨(Nat.le_of_ble_eq_true rfl), (Nat.le_of_ble_eq_true rfl)⟩) (vS hK hP hD hN) rfl rfl hl.1 rfl (lv_room (Nat.le_of_ble_eq_true rfl)) dX5_fieldsOf_1 ⟨(Nat.le_of_ble_eq_true rfl), (Nat.le_of_ble_eq_true rfl)⟩) hS (fun q _ h => hF q h) hF (fun r2 u t H locs ht hvm hw hB _ _ hS => ?_)
  obtain rfl : r2 = q1.1 := hw
  replace hP : va_P (dC, dI) vwCl (wA a k q1.2) H := by rw [← ht]; exact hB.1
  replace hD := hD0 (q1.2)
  clear hB hF
  refine lv_if_eq (tgt := 16) hx hb dX5_fieldsOf_4 (by decide) (fun hc => ?_) (fun hc => ?_)
  · replace h := ip hc h
    refine lv_iconst (v := 0) hx hb dX5_fieldsOf_16 (by decide) ?_
    obtain rfl := Option.some.inj h
    exact W.iret hx hb hr (fun t ht hW => ⟨⟨_, (), rfl, rfl, ⟨by rw [ht]; exact hP, va_K.moved hW.alike hK, hD⟩⟩, hS.F ht⟩) hS.2.2 dX5_fieldsOf_17
  · replace h := iq hc h
    refine lv_aload_n hx hb dX5_fieldsOf_7 rfl (lv_at hl 0 rfl) ?_
    refine va_get (D := (dC, dI)) (ci := 5) (C := RX5) (T := TX5) (N := 17) hx hb hts inlX5 hown hK hP 4 gA_4 rfl 4 (by decide) (hts (.fieldLink RX5 25 "ShapeReader$Shapes" "fieldCounts" "[I") mw_14_21) (fun _ h9 => h9) rfl dX5_fieldsOf_8 ?_
    refine lv_iload_n hx hb dX5_fieldsOf_11 rfl (lv_at hl 1 rfl) ?_
    obtain ⟨hg3, h⟩ := ig h
    refine va_iald hx hb hK hP 7 4 gA_7 yA_7 (vp_in_iff.mpr hg3) dX5_fieldsOf_12 ?_
    refine lv_goto (tgt := 17) hx hb dX5_fieldsOf_13 (by decide) ?_
    obtain rfl := Option.some.inj h
    exact W.iret hx hb hr (fun t ht hW => ⟨⟨_, (), rfl, rfl, ⟨by rw [ht]; exact hP, va_K.moved hW.alike hK, hD⟩⟩, hS.F ht⟩) hS.2.2 dX5_fieldsOf_17

theorem s_X5_fieldsOf_4 {l : Launch} {dC : Nat → ClassId} {dI : Nat → Nat → Nat} {a : Nat → Nat} {k : Nat → ClassId} {sz : Nat} {p0 : Int32} {σ : ST} {q : Int32 × ST} (h : f_X5_fieldsOf 4 p0 σ = some q) : Met l yX5_fieldsOf (.code yX5_fieldsOf cX5_fieldsOf 2 (some .int) :: pw) ({ frames := 1, cells := 0, slots := 0, locals := 20 } : Room) (va_Pc [.ref (a 4), .int p0] (vPre dC dI (wA a k σ) (tA k) sz)) (qAi dC dI a k (va_A (wA a k σ) sz) q) 0 0 (va_A (wA a k σ) sz) := metA (fun A => qAi dC dI a k A q) (plainFor_of_name (by decide)) (Nat.le_of_ble_eq_true rfl) (fun _ _ _ _ _ _ _ _ hC => b_X5_fieldsOf_e_4 hC h)

set_option maxRecDepth 100000 in
set_option maxHeartbeats 4000000 in
theorem b_X5_fieldsOf_e_20 {p : Program} {l : Launch} {e : Env} {s : State} {m : MethodId} {args : Array Value} {below : List Frame} {meth : Method} {c : Code} {dC : Nat → ClassId} {dI : Nat → Nat → Nat} {a : Nat → Nat} {k : Nat → ClassId} {A : Nat → Prop} {q : Int32 × ST} (hC : CxA p s m args meth c dC dI k A cX5_fieldsOf RX5 (some .int) 2)   {p0 : Int32} {σ : ST} (h : f_X5_fieldsOf 20 p0 σ = some q) : GoA p l e ({ frames := 1, cells := 0, slots := 0, locals := 20 } : Room) s m args below meth c (MQ below (qAi dC dI a k A q) args s 0 0 A) dC dI a k A 2 0 σ (lv_args 0 [.ref (a 20), .int p0]) [] := by
  have hC0 := hC
  obtain ⟨hx, hb, hr, hml, hown, hts, hlocks, hA, hN, hK⟩ := hC0
  intro H locs ls hP hD hS hl
  have hD0 : ∀ σ1 : ST, va_D A (wA a k σ1) := fun σ1 => wA_D hD
  replace hl : lv_has ls 2 [(0, .ref (a 20)), (1, .int p0)] := hl
  unfold f_X5_fieldsOf at h
  refine lv_iload_n hx hb dX5_fieldsOf_0 rfl (lv_at hl 1 rfl) ?_
  obtain ⟨q1, hc, h⟩ := ib h
  have hF := va_frees hD hS hA
  refine va_calli (va_runS (As := [.int p0]) (rest := []) ⟨hx, hb, hml, hown, hts⟩ (s_X5_isRecord hc) (va_cwS 1 hts (gS mw_15_5 mw_15_6 mw_0_9 mw_49_24) rfl rfl rfl (by decide +kernel) ⟨(Nat.le_of_ble_eq_true rfl), (Nat.le_of_ble_eq_true rfl)⟩) (vS hK hP hD hN) rfl rfl hl.1 rfl (lv_room (Nat.le_of_ble_eq_true rfl)) dX5_fieldsOf_1 ⟨(Nat.le_of_ble_eq_true rfl), (Nat.le_of_ble_eq_true rfl)⟩) hS (fun q _ h => hF q h) hF (fun r2 u t H locs ht hvm hw hB _ _ hS => ?_)
  obtain rfl : r2 = q1.1 := hw
  replace hP : va_P (dC, dI) vwCl (wA a k q1.2) H := by rw [← ht]; exact hB.1
  replace hD := hD0 (q1.2)
  clear hB hF
  refine lv_if_eq (tgt := 16) hx hb dX5_fieldsOf_4 (by decide) (fun hc => ?_) (fun hc => ?_)
  · replace h := ip hc h
    refine lv_iconst (v := 0) hx hb dX5_fieldsOf_16 (by decide) ?_
    obtain rfl := Option.some.inj h
    exact W.iret hx hb hr (fun t ht hW => ⟨⟨_, (), rfl, rfl, ⟨by rw [ht]; exact hP, va_K.moved hW.alike hK, hD⟩⟩, hS.F ht⟩) hS.2.2 dX5_fieldsOf_17
  · replace h := iq hc h
    refine lv_aload_n hx hb dX5_fieldsOf_7 rfl (lv_at hl 0 rfl) ?_
    refine va_get (D := (dC, dI)) (ci := 5) (C := RX5) (T := TX5) (N := 17) hx hb hts inlX5 hown hK hP 20 gA_20 rfl 4 (by decide) (hts (.fieldLink RX5 25 "ShapeReader$Shapes" "fieldCounts" "[I") mw_14_21) (fun _ h9 => h9) rfl dX5_fieldsOf_8 ?_
    refine lv_iload_n hx hb dX5_fieldsOf_11 rfl (lv_at hl 1 rfl) ?_
    obtain ⟨hg3, h⟩ := ig h
    refine va_iald hx hb hK hP 23 19 gA_23 yA_23 (vp_in_iff.mpr hg3) dX5_fieldsOf_12 ?_
    refine lv_goto (tgt := 17) hx hb dX5_fieldsOf_13 (by decide) ?_
    obtain rfl := Option.some.inj h
    exact W.iret hx hb hr (fun t ht hW => ⟨⟨_, (), rfl, rfl, ⟨by rw [ht]; exact hP, va_K.moved hW.alike hK, hD⟩⟩, hS.F ht⟩) hS.2.2 dX5_fieldsOf_17

theorem s_X5_fieldsOf_20 {l : Launch} {dC : Nat → ClassId} {dI : Nat → Nat → Nat} {a : Nat → Nat} {k : Nat → ClassId} {sz : Nat} {p0 : Int32} {σ : ST} {q : Int32 × ST} (h : f_X5_fieldsOf 20 p0 σ = some q) : Met l yX5_fieldsOf (.code yX5_fieldsOf cX5_fieldsOf 2 (some .int) :: pw) ({ frames := 1, cells := 0, slots := 0, locals := 20 } : Room) (va_Pc [.ref (a 20), .int p0] (vPre dC dI (wA a k σ) (tA k) sz)) (qAi dC dI a k (va_A (wA a k σ) sz) q) 0 0 (va_A (wA a k σ) sz) := metA (fun A => qAi dC dI a k A q) (plainFor_of_name (by decide)) (Nat.le_of_ble_eq_true rfl) (fun _ _ _ _ _ _ _ _ hC => b_X5_fieldsOf_e_20 hC h)

def f_X5_isFieldOf (p0 : Int32) (p1 : Int32) (σ : ST) : Option (Int32 × ST) := if p0 < 0 then (some (0, σ)) else (if 36 ≤ p0 then (some (0, σ)) else (if p1 < 0 then (some (0, σ)) else (if 8 ≤ p1 then (some (0, σ)) else (some (1, σ)))))

set_option maxRecDepth 100000 in
set_option maxHeartbeats 4000000 in
theorem b_X5_isFieldOf_e {p : Program} {l : Launch} {e : Env} {s : State} {m : MethodId} {args : Array Value} {below : List Frame} {meth : Method} {c : Code} {dC : Nat → ClassId} {dI : Nat → Nat → Nat} {a : Nat → Nat} {k : Nat → ClassId} {A : Nat → Prop} {q : Int32 × ST} (hC : CxA p s m args meth c dC dI k A cX5_isFieldOf RX5 (some .boolean) 2)   {p0 : Int32} {p1 : Int32} {σ : ST} (h : f_X5_isFieldOf  p0 p1 σ = some q) : GoA p l e ({ frames := 0, cells := 0, slots := 0, locals := 0 } : Room) s m args below meth c (MQ below (qAi dC dI a k A q) args s 0 0 A) dC dI a k A 2 0 σ (lv_args 0 [.int p0, .int p1]) [] := by
  have hC0 := hC
  obtain ⟨hx, hb, hr, hml, hown, hts, hlocks, hA, hN, hK⟩ := hC0
  intro H locs ls hP hD hS hl
  have hD0 : ∀ σ1 : ST, va_D A (wA a k σ1) := fun σ1 => wA_D hD
  replace hl : lv_has ls 2 [(0, .int p0), (1, .int p1)] := hl
  unfold f_X5_isFieldOf at h
  refine lv_iload_n hx hb dX5_isFieldOf_0 rfl (lv_at hl 0 rfl) ?_
  refine lv_if_lt (tgt := 24) hx hb dX5_isFieldOf_1 (by decide) (fun hc => ?_) (fun hc => ?_)
  · replace h := ip hc h
    refine lv_iconst (v := 0) hx hb dX5_isFieldOf_24 (by decide) ?_
    obtain rfl := Option.some.inj h
    exact W.zret hx hb hr rfl (fun t ht hW => ⟨⟨_, (), rfl, rfl, ⟨by rw [ht]; exact hP, va_K.moved hW.alike hK, hD⟩⟩, hS.F ht⟩) hS.2.2 dX5_isFieldOf_25
  · replace h := iq hc h
    refine lv_iload_n hx hb dX5_isFieldOf_4 rfl (lv_at hl 0 rfl) ?_
    refine lv_bipush (v := 36) hx hb dX5_isFieldOf_5 (by decide) ?_
    refine lv_icmp_ge (tgt := 24) hx hb dX5_isFieldOf_7 (by decide) (fun hc => ?_) (fun hc => ?_)
    · replace h := ip hc h
      refine lv_iconst (v := 0) hx hb dX5_isFieldOf_24 (by decide) ?_
      obtain rfl := Option.some.inj h
      exact W.zret hx hb hr rfl (fun t ht hW => ⟨⟨_, (), rfl, rfl, ⟨by rw [ht]; exact hP, va_K.moved hW.alike hK, hD⟩⟩, hS.F ht⟩) hS.2.2 dX5_isFieldOf_25
    · replace h := iq hc h
      refine lv_iload_n hx hb dX5_isFieldOf_10 rfl (lv_at hl 1 rfl) ?_
      refine lv_if_lt (tgt := 24) hx hb dX5_isFieldOf_11 (by decide) (fun hc => ?_) (fun hc => ?_)
      · replace h := ip hc h
        refine lv_iconst (v := 0) hx hb dX5_isFieldOf_24 (by decide) ?_
        obtain rfl := Option.some.inj h
        exact W.zret hx hb hr rfl (fun t ht hW => ⟨⟨_, (), rfl, rfl, ⟨by rw [ht]; exact hP, va_K.moved hW.alike hK, hD⟩⟩, hS.F ht⟩) hS.2.2 dX5_isFieldOf_25
      · replace h := iq hc h
        refine lv_iload_n hx hb dX5_isFieldOf_14 rfl (lv_at hl 1 rfl) ?_
        refine lv_bipush (v := 8) hx hb dX5_isFieldOf_15 (by decide) ?_
        refine lv_icmp_ge (tgt := 24) hx hb dX5_isFieldOf_17 (by decide) (fun hc => ?_) (fun hc => ?_)
        · replace h := ip hc h
          refine lv_iconst (v := 0) hx hb dX5_isFieldOf_24 (by decide) ?_
          obtain rfl := Option.some.inj h
          exact W.zret hx hb hr rfl (fun t ht hW => ⟨⟨_, (), rfl, rfl, ⟨by rw [ht]; exact hP, va_K.moved hW.alike hK, hD⟩⟩, hS.F ht⟩) hS.2.2 dX5_isFieldOf_25
        · replace h := iq hc h
          refine lv_iconst (v := 1) hx hb dX5_isFieldOf_20 (by decide) ?_
          refine lv_goto (tgt := 25) hx hb dX5_isFieldOf_21 (by decide) ?_
          obtain rfl := Option.some.inj h
          exact W.zret hx hb hr rfl (fun t ht hW => ⟨⟨_, (), rfl, rfl, ⟨by rw [ht]; exact hP, va_K.moved hW.alike hK, hD⟩⟩, hS.F ht⟩) hS.2.2 dX5_isFieldOf_25

theorem s_X5_isFieldOf {l : Launch} {dC : Nat → ClassId} {dI : Nat → Nat → Nat} {a : Nat → Nat} {k : Nat → ClassId} {sz : Nat} {p0 : Int32} {p1 : Int32} {σ : ST} {q : Int32 × ST} (h : f_X5_isFieldOf  p0 p1 σ = some q) : Met l yX5_isFieldOf (.code yX5_isFieldOf cX5_isFieldOf 2 (some .boolean) :: pw) ({ frames := 0, cells := 0, slots := 0, locals := 0 } : Room) (va_Pc [.int p0, .int p1] (vPre dC dI (wA a k σ) (tA k) sz)) (qAi dC dI a k (va_A (wA a k σ) sz) q) 0 0 (va_A (wA a k σ) sz) := metA (fun A => qAi dC dI a k A q) (plainFor_of_name (by decide)) (Nat.le_of_ble_eq_true rfl) (fun _ _ _ _ _ _ _ _ hC => b_X5_isFieldOf_e hC h)

def f_X5_hasElse (b : Nat) (p0 : Int32) (p1 : Int32) (σ : ST) : Option (Int32 × ST) := (f_X5_isFieldOf  p0 p1 σ).bind fun q1 => if q1.1 = 0 then (some (0, q1.2)) else (if 0 ≤ p0.toInt ∧ p0.toInt < 36 then (if (((q1.2.1 (b + 5) p0.toNatClampNeg) >>> (p1 &&& 31)) &&& 1) = 0 then (some (0, q1.2)) else (some (1, q1.2))) else none)

set_option maxRecDepth 100000 in
set_option maxHeartbeats 4000000 in
theorem b_X5_hasElse_e_4 {p : Program} {l : Launch} {e : Env} {s : State} {m : MethodId} {args : Array Value} {below : List Frame} {meth : Method} {c : Code} {dC : Nat → ClassId} {dI : Nat → Nat → Nat} {a : Nat → Nat} {k : Nat → ClassId} {A : Nat → Prop} {q : Int32 × ST} (hC : CxA p s m args meth c dC dI k A cX5_hasElse RX5 (some .boolean) 3)   {p0 : Int32} {p1 : Int32} {σ : ST} (h : f_X5_hasElse 4 p0 p1 σ = some q) : GoA p l e ({ frames := 1, cells := 0, slots := 0, locals := 21 } : Room) s m args below meth c (MQ below (qAi dC dI a k A q) args s 0 0 A) dC dI a k A 3 0 σ (lv_args 0 [.ref (a 4), .int p0, .int p1]) [] := by
  have hC0 := hC
  obtain ⟨hx, hb, hr, hml, hown, hts, hlocks, hA, hN, hK⟩ := hC0
  intro H locs ls hP hD hS hl
  have hD0 : ∀ σ1 : ST, va_D A (wA a k σ1) := fun σ1 => wA_D hD
  replace hl : lv_has ls 3 [(0, .ref (a 4)), (1, .int p0), (2, .int p1)] := hl
  unfold f_X5_hasElse at h
  refine lv_iload_n hx hb dX5_hasElse_0 rfl (lv_at hl 1 rfl) ?_
  refine lv_iload_n hx hb dX5_hasElse_1 rfl (lv_at hl 2 rfl) ?_
  obtain ⟨q1, hc, h⟩ := ib h
  have hF := va_frees hD hS hA
  refine va_calli (va_runS (As := [.int p0, .int p1]) (rest := []) ⟨hx, hb, hml, hown, hts⟩ (s_X5_isFieldOf hc) (va_cwS 2 hts (gS mw_15_7 mw_15_8 mw_0_9 mw_49_25) rfl rfl rfl (by decide +kernel) ⟨(Nat.le_of_ble_eq_true rfl), (Nat.le_of_ble_eq_true rfl)⟩) (vS hK hP hD hN) rfl rfl hl.1 rfl (lv_room (Nat.le_of_ble_eq_true rfl)) dX5_hasElse_2 ⟨(Nat.le_of_ble_eq_true rfl), (Nat.le_of_ble_eq_true rfl)⟩) hS (fun q _ h => hF q h) hF (fun r2 u t H locs ht hvm hw hB _ _ hS => ?_)
  obtain rfl : r2 = q1.1 := hw
  replace hP : va_P (dC, dI) vwCl (wA a k q1.2) H := by rw [← ht]; exact hB.1
  replace hD := hD0 (q1.2)
  clear hB hF
  refine lv_if_eq (tgt := 25) hx hb dX5_hasElse_5 (by decide) (fun hc => ?_) (fun hc => ?_)
  · replace h := ip hc h
    refine lv_iconst (v := 0) hx hb dX5_hasElse_25 (by decide) ?_
    obtain rfl := Option.some.inj h
    exact W.zret hx hb hr rfl (fun t ht hW => ⟨⟨_, (), rfl, rfl, ⟨by rw [ht]; exact hP, va_K.moved hW.alike hK, hD⟩⟩, hS.F ht⟩) hS.2.2 dX5_hasElse_26
  · replace h := iq hc h
    refine lv_aload_n hx hb dX5_hasElse_8 rfl (lv_at hl 0 rfl) ?_
    refine va_get (D := (dC, dI)) (ci := 5) (C := RX5) (T := TX5) (N := 17) hx hb hts inlX5 hown hK hP 4 gA_4 rfl 6 (by decide) (hts (.fieldLink RX5 32 "ShapeReader$Shapes" "elseBits" "[I") mw_14_23) (fun _ h9 => h9) rfl dX5_hasElse_9 ?_
    refine lv_iload_n hx hb dX5_hasElse_12 rfl (lv_at hl 1 rfl) ?_
    obtain ⟨hg3, h⟩ := ig h
    refine va_iald hx hb hK hP 9 6 gA_9 yA_9 (vp_in_iff.mpr hg3) dX5_hasElse_13 ?_
    refine lv_iload_n hx hb dX5_hasElse_14 rfl (lv_at hl 2 rfl) ?_
    refine lv_ishr hx hb dX5_hasElse_15 ?_
    refine lv_iconst (v := 1) hx hb dX5_hasElse_16 (by decide) ?_
    refine lv_iand hx hb dX5_hasElse_17 ?_
    refine lv_if_eq (tgt := 25) hx hb dX5_hasElse_18 (by decide) (fun hc => ?_) (fun hc => ?_)
    · replace h := ip hc h
      refine lv_iconst (v := 0) hx hb dX5_hasElse_25 (by decide) ?_
      obtain rfl := Option.some.inj h
      exact W.zret hx hb hr rfl (fun t ht hW => ⟨⟨_, (), rfl, rfl, ⟨by rw [ht]; exact hP, va_K.moved hW.alike hK, hD⟩⟩, hS.F ht⟩) hS.2.2 dX5_hasElse_26
    · replace h := iq hc h
      refine lv_iconst (v := 1) hx hb dX5_hasElse_21 (by decide) ?_
      refine lv_goto (tgt := 26) hx hb dX5_hasElse_22 (by decide) ?_
      obtain rfl := Option.some.inj h
      exact W.zret hx hb hr rfl (fun t ht hW => ⟨⟨_, (), rfl, rfl, ⟨by rw [ht]; exact hP, va_K.moved hW.alike hK, hD⟩⟩, hS.F ht⟩) hS.2.2 dX5_hasElse_26

theorem s_X5_hasElse_4 {l : Launch} {dC : Nat → ClassId} {dI : Nat → Nat → Nat} {a : Nat → Nat} {k : Nat → ClassId} {sz : Nat} {p0 : Int32} {p1 : Int32} {σ : ST} {q : Int32 × ST} (h : f_X5_hasElse 4 p0 p1 σ = some q) : Met l yX5_hasElse (.code yX5_hasElse cX5_hasElse 3 (some .boolean) :: pw) ({ frames := 1, cells := 0, slots := 0, locals := 21 } : Room) (va_Pc [.ref (a 4), .int p0, .int p1] (vPre dC dI (wA a k σ) (tA k) sz)) (qAi dC dI a k (va_A (wA a k σ) sz) q) 0 0 (va_A (wA a k σ) sz) := metA (fun A => qAi dC dI a k A q) (plainFor_of_name (by decide)) (Nat.le_of_ble_eq_true rfl) (fun _ _ _ _ _ _ _ _ hC => b_X5_hasElse_e_4 hC h)

def f_X5_fieldName (b : Nat) (p0 : Int32) (p1 : Int32) (σ : ST) : Option (Int64 × ST) := (f_X5_isFieldOf  p0 p1 σ).bind fun q1 => if q1.1 = 0 then (some (0, q1.2)) else (if 0 ≤ ((p0 * 8) + p1).toInt ∧ ((p0 * 8) + p1).toInt < 288 then (some ((q1.2.2.1 (b + 7) ((p0 * 8) + p1).toNatClampNeg), q1.2)) else none)

set_option maxRecDepth 100000 in
set_option maxHeartbeats 4000000 in
theorem b_X5_fieldName_e_4 {p : Program} {l : Launch} {e : Env} {s : State} {m : MethodId} {args : Array Value} {below : List Frame} {meth : Method} {c : Code} {dC : Nat → ClassId} {dI : Nat → Nat → Nat} {a : Nat → Nat} {k : Nat → ClassId} {A : Nat → Prop} {q : Int64 × ST} (hC : CxA p s m args meth c dC dI k A cX5_fieldName RX5 (some .long) 3)   {p0 : Int32} {p1 : Int32} {σ : ST} (h : f_X5_fieldName 4 p0 p1 σ = some q) : GoA p l e ({ frames := 1, cells := 0, slots := 0, locals := 21 } : Room) s m args below meth c (MQ below (qAl dC dI a k A q) args s 0 0 A) dC dI a k A 3 0 σ (lv_args 0 [.ref (a 4), .int p0, .int p1]) [] := by
  have hC0 := hC
  obtain ⟨hx, hb, hr, hml, hown, hts, hlocks, hA, hN, hK⟩ := hC0
  intro H locs ls hP hD hS hl
  have hD0 : ∀ σ1 : ST, va_D A (wA a k σ1) := fun σ1 => wA_D hD
  replace hl : lv_has ls 3 [(0, .ref (a 4)), (1, .int p0), (2, .int p1)] := hl
  unfold f_X5_fieldName at h
  refine lv_iload_n hx hb dX5_fieldName_0 rfl (lv_at hl 1 rfl) ?_
  refine lv_iload_n hx hb dX5_fieldName_1 rfl (lv_at hl 2 rfl) ?_
  obtain ⟨q1, hc, h⟩ := ib h
  have hF := va_frees hD hS hA
  refine va_calli (va_runS (As := [.int p0, .int p1]) (rest := []) ⟨hx, hb, hml, hown, hts⟩ (s_X5_isFieldOf hc) (va_cwS 2 hts (gS mw_15_7 mw_15_8 mw_0_9 mw_49_25) rfl rfl rfl (by decide +kernel) ⟨(Nat.le_of_ble_eq_true rfl), (Nat.le_of_ble_eq_true rfl)⟩) (vS hK hP hD hN) rfl rfl hl.1 rfl (lv_room (Nat.le_of_ble_eq_true rfl)) dX5_fieldName_2 ⟨(Nat.le_of_ble_eq_true rfl), (Nat.le_of_ble_eq_true rfl)⟩) hS (fun q _ h => hF q h) hF (fun r2 u t H locs ht hvm hw hB _ _ hS => ?_)
  obtain rfl : r2 = q1.1 := hw
  replace hP : va_P (dC, dI) vwCl (wA a k q1.2) H := by rw [← ht]; exact hB.1
  replace hD := hD0 (q1.2)
  clear hB hF
  refine lv_if_eq (tgt := 22) hx hb dX5_fieldName_5 (by decide) (fun hc => ?_) (fun hc => ?_)
  · replace h := ip hc h
    refine lv_lconst (v := 0) hx hb dX5_fieldName_22 (by decide) ?_
    obtain rfl := Option.some.inj h
    exact W.lret hx hb hr (fun t ht hW => ⟨⟨_, (), rfl, rfl, ⟨by rw [ht]; exact hP, va_K.moved hW.alike hK, hD⟩⟩, hS.F ht⟩) hS.2.2 dX5_fieldName_23
  · replace h := iq hc h
    refine lv_aload_n hx hb dX5_fieldName_8 rfl (lv_at hl 0 rfl) ?_
    refine va_get (D := (dC, dI)) (ci := 5) (C := RX5) (T := TX5) (N := 17) hx hb hts inlX5 hown hK hP 4 gA_4 rfl 8 (by decide) (hts (.fieldLink RX5 38 "ShapeReader$Shapes" "fieldNames" "[J") mw_14_25) (fun _ h9 => h9) rfl dX5_fieldName_9 ?_
    refine lv_iload_n hx hb dX5_fieldName_12 rfl (lv_at hl 1 rfl) ?_
    refine lv_bipush (v := 8) hx hb dX5_fieldName_13 (by decide) ?_
    refine lv_imul hx hb dX5_fieldName_15 ?_
    refine lv_iload_n hx hb dX5_fieldName_16 rfl (lv_at hl 2 rfl) ?_
    refine lv_iadd hx hb dX5_fieldName_17 ?_
    obtain ⟨hg3, h⟩ := ig h
    refine va_lald hx hb hK hP 11 8 gA_11 yA_11 (vp_in_iff.mpr hg3) dX5_fieldName_18 ?_
    refine lv_goto (tgt := 23) hx hb dX5_fieldName_19 (by decide) ?_
    obtain rfl := Option.some.inj h
    exact W.lret hx hb hr (fun t ht hW => ⟨⟨_, (), rfl, rfl, ⟨by rw [ht]; exact hP, va_K.moved hW.alike hK, hD⟩⟩, hS.F ht⟩) hS.2.2 dX5_fieldName_23

theorem s_X5_fieldName_4 {l : Launch} {dC : Nat → ClassId} {dI : Nat → Nat → Nat} {a : Nat → Nat} {k : Nat → ClassId} {sz : Nat} {p0 : Int32} {p1 : Int32} {σ : ST} {q : Int64 × ST} (h : f_X5_fieldName 4 p0 p1 σ = some q) : Met l yX5_fieldName (.code yX5_fieldName cX5_fieldName 3 (some .long) :: pw) ({ frames := 1, cells := 0, slots := 0, locals := 21 } : Room) (va_Pc [.ref (a 4), .int p0, .int p1] (vPre dC dI (wA a k σ) (tA k) sz)) (qAl dC dI a k (va_A (wA a k σ) sz) q) 0 0 (va_A (wA a k σ) sz) := metA (fun A => qAl dC dI a k A q) (plainFor_of_name (by decide)) (Nat.le_of_ble_eq_true rfl) (fun _ _ _ _ _ _ _ _ hC => b_X5_fieldName_e_4 hC h)

set_option maxRecDepth 100000 in
set_option maxHeartbeats 4000000 in
theorem b_X5_fieldName_e_20 {p : Program} {l : Launch} {e : Env} {s : State} {m : MethodId} {args : Array Value} {below : List Frame} {meth : Method} {c : Code} {dC : Nat → ClassId} {dI : Nat → Nat → Nat} {a : Nat → Nat} {k : Nat → ClassId} {A : Nat → Prop} {q : Int64 × ST} (hC : CxA p s m args meth c dC dI k A cX5_fieldName RX5 (some .long) 3)   {p0 : Int32} {p1 : Int32} {σ : ST} (h : f_X5_fieldName 20 p0 p1 σ = some q) : GoA p l e ({ frames := 1, cells := 0, slots := 0, locals := 21 } : Room) s m args below meth c (MQ below (qAl dC dI a k A q) args s 0 0 A) dC dI a k A 3 0 σ (lv_args 0 [.ref (a 20), .int p0, .int p1]) [] := by
  have hC0 := hC
  obtain ⟨hx, hb, hr, hml, hown, hts, hlocks, hA, hN, hK⟩ := hC0
  intro H locs ls hP hD hS hl
  have hD0 : ∀ σ1 : ST, va_D A (wA a k σ1) := fun σ1 => wA_D hD
  replace hl : lv_has ls 3 [(0, .ref (a 20)), (1, .int p0), (2, .int p1)] := hl
  unfold f_X5_fieldName at h
  refine lv_iload_n hx hb dX5_fieldName_0 rfl (lv_at hl 1 rfl) ?_
  refine lv_iload_n hx hb dX5_fieldName_1 rfl (lv_at hl 2 rfl) ?_
  obtain ⟨q1, hc, h⟩ := ib h
  have hF := va_frees hD hS hA
  refine va_calli (va_runS (As := [.int p0, .int p1]) (rest := []) ⟨hx, hb, hml, hown, hts⟩ (s_X5_isFieldOf hc) (va_cwS 2 hts (gS mw_15_7 mw_15_8 mw_0_9 mw_49_25) rfl rfl rfl (by decide +kernel) ⟨(Nat.le_of_ble_eq_true rfl), (Nat.le_of_ble_eq_true rfl)⟩) (vS hK hP hD hN) rfl rfl hl.1 rfl (lv_room (Nat.le_of_ble_eq_true rfl)) dX5_fieldName_2 ⟨(Nat.le_of_ble_eq_true rfl), (Nat.le_of_ble_eq_true rfl)⟩) hS (fun q _ h => hF q h) hF (fun r2 u t H locs ht hvm hw hB _ _ hS => ?_)
  obtain rfl : r2 = q1.1 := hw
  replace hP : va_P (dC, dI) vwCl (wA a k q1.2) H := by rw [← ht]; exact hB.1
  replace hD := hD0 (q1.2)
  clear hB hF
  refine lv_if_eq (tgt := 22) hx hb dX5_fieldName_5 (by decide) (fun hc => ?_) (fun hc => ?_)
  · replace h := ip hc h
    refine lv_lconst (v := 0) hx hb dX5_fieldName_22 (by decide) ?_
    obtain rfl := Option.some.inj h
    exact W.lret hx hb hr (fun t ht hW => ⟨⟨_, (), rfl, rfl, ⟨by rw [ht]; exact hP, va_K.moved hW.alike hK, hD⟩⟩, hS.F ht⟩) hS.2.2 dX5_fieldName_23
  · replace h := iq hc h
    refine lv_aload_n hx hb dX5_fieldName_8 rfl (lv_at hl 0 rfl) ?_
    refine va_get (D := (dC, dI)) (ci := 5) (C := RX5) (T := TX5) (N := 17) hx hb hts inlX5 hown hK hP 20 gA_20 rfl 8 (by decide) (hts (.fieldLink RX5 38 "ShapeReader$Shapes" "fieldNames" "[J") mw_14_25) (fun _ h9 => h9) rfl dX5_fieldName_9 ?_
    refine lv_iload_n hx hb dX5_fieldName_12 rfl (lv_at hl 1 rfl) ?_
    refine lv_bipush (v := 8) hx hb dX5_fieldName_13 (by decide) ?_
    refine lv_imul hx hb dX5_fieldName_15 ?_
    refine lv_iload_n hx hb dX5_fieldName_16 rfl (lv_at hl 2 rfl) ?_
    refine lv_iadd hx hb dX5_fieldName_17 ?_
    obtain ⟨hg3, h⟩ := ig h
    refine va_lald hx hb hK hP 27 23 gA_27 yA_27 (vp_in_iff.mpr hg3) dX5_fieldName_18 ?_
    refine lv_goto (tgt := 23) hx hb dX5_fieldName_19 (by decide) ?_
    obtain rfl := Option.some.inj h
    exact W.lret hx hb hr (fun t ht hW => ⟨⟨_, (), rfl, rfl, ⟨by rw [ht]; exact hP, va_K.moved hW.alike hK, hD⟩⟩, hS.F ht⟩) hS.2.2 dX5_fieldName_23

theorem s_X5_fieldName_20 {l : Launch} {dC : Nat → ClassId} {dI : Nat → Nat → Nat} {a : Nat → Nat} {k : Nat → ClassId} {sz : Nat} {p0 : Int32} {p1 : Int32} {σ : ST} {q : Int64 × ST} (h : f_X5_fieldName 20 p0 p1 σ = some q) : Met l yX5_fieldName (.code yX5_fieldName cX5_fieldName 3 (some .long) :: pw) ({ frames := 1, cells := 0, slots := 0, locals := 21 } : Room) (va_Pc [.ref (a 20), .int p0, .int p1] (vPre dC dI (wA a k σ) (tA k) sz)) (qAl dC dI a k (va_A (wA a k σ) sz) q) 0 0 (va_A (wA a k σ) sz) := metA (fun A => qAl dC dI a k A q) (plainFor_of_name (by decide)) (Nat.le_of_ble_eq_true rfl) (fun _ _ _ _ _ _ _ _ hC => b_X5_fieldName_e_20 hC h)

def f_X5_fieldNamed_29 (b : Nat) : Nat → Int64 → Int32 → Int32 → Int32 → ST → Option (Int32 × ST)
  | 0, _, _, _, _, _ => none
  | n + 1, x2, x4, x5, x6, σ => if x5 ≤ x6 then (some ((-1), σ)) else (if 8 ≤ x6 then (some ((-1), σ)) else (if 0 ≤ (x4 + x6).toInt ∧ (x4 + x6).toInt < 288 then (if (lg_cmp (σ.2.1 (b + 7) (x4 + x6).toNatClampNeg) x2) = 0 then (some (x6, σ)) else (f_X5_fieldNamed_29 b n x2 x4 x5 (x6 + 1) σ)) else none))
def f_X5_fieldNamed_24 (b : Nat) (x2 : Int64) (x4 : Int32) (y0 : Int32) (σ : ST) : Option (Int32 × ST) := f_X5_fieldNamed_29 b FU x2 x4 y0 0 σ
def f_X5_fieldNamed (b : Nat) (p0 : Int32) (p1 : Int64) (σ : ST) : Option (Int32 × ST) := (f_X5_isFieldOf  p0 0 σ).bind fun q1 => if q1.1 = 0 then (f_X5_fieldNamed_24 b p1 (p0 * 8) 0 q1.2) else (if 0 ≤ p0.toInt ∧ p0.toInt < 36 then (f_X5_fieldNamed_24 b p1 (p0 * 8) (q1.2.1 (b + 3) p0.toNatClampNeg) q1.2) else none)

set_option maxRecDepth 100000 in
set_option maxHeartbeats 4000000 in
theorem b_X5_fieldNamed_29_4 {p : Program} {l : Launch} {e : Env} {s : State} {m : MethodId} {args : Array Value} {below : List Frame} {meth : Method} {c : Code} {dC : Nat → ClassId} {dI : Nat → Nat → Nat} {a : Nat → Nat} {k : Nat → ClassId} {A : Nat → Prop} {q : Int32 × ST} (hC : CxA p s m args meth c dC dI k A cX5_fieldNamed RX5 (some .int) 7)   : ∀ (n : Nat) (x2 : Int64) (x4 : Int32) (x5 : Int32) (x6 : Int32) (σ : ST), f_X5_fieldNamed_29 4 n x2 x4 x5 x6 σ = some q → GoA p l e ({ frames := 1, cells := 0, slots := 0, locals := 21 } : Room) s m args below meth c (MQ below (qAi dC dI a k A q) args s 0 0 A) dC dI a k A 7 29 σ [(0, .ref (a 4)), (2, .long x2), (4, .int x4), (5, .int x5), (6, .int x6)] [] := by
  intro n
  induction n with
  | zero =>
    intro x2 x4 x5 x6 σ h
    rw [f_X5_fieldNamed_29] at h
    cases h
  | succ n ih =>
    intro x2 x4 x5 x6 σ h
    have hC0 := hC
    obtain ⟨hx, hb, hr, hml, hown, hts, hlocks, hA, hN, hK⟩ := hC0
    intro H locs ls hP hD hS hl
    have hD0 : ∀ σ1 : ST, va_D A (wA a k σ1) := fun σ1 => wA_D hD
    rw [f_X5_fieldNamed_29] at h
    refine lv_iload hx hb dX5_fieldNamed_29 (lv_at hl 4 rfl) ?_
    refine lv_iload hx hb dX5_fieldNamed_31 (lv_at hl 3 rfl) ?_
    refine lv_icmp_ge (tgt := 67) hx hb dX5_fieldNamed_33 (by decide) (fun hc => ?_) (fun hc => ?_)
    · replace h := ip hc h
      refine lv_iconst (v := (-1)) hx hb dX5_fieldNamed_67 (by decide) ?_
      obtain rfl := Option.some.inj h
      exact W.iret hx hb hr (fun t ht hW => ⟨⟨_, (), rfl, rfl, ⟨by rw [ht]; exact hP, va_K.moved hW.alike hK, hD⟩⟩, hS.F ht⟩) hS.2.2 dX5_fieldNamed_68
    · replace h := iq hc h
      refine lv_iload hx hb dX5_fieldNamed_36 (lv_at hl 4 rfl) ?_
      refine lv_bipush (v := 8) hx hb dX5_fieldNamed_38 (by decide) ?_
      refine lv_icmp_ge (tgt := 67) hx hb dX5_fieldNamed_40 (by decide) (fun hc => ?_) (fun hc => ?_)
      · replace h := ip hc h
        refine lv_iconst (v := (-1)) hx hb dX5_fieldNamed_67 (by decide) ?_
        obtain rfl := Option.some.inj h
        exact W.iret hx hb hr (fun t ht hW => ⟨⟨_, (), rfl, rfl, ⟨by rw [ht]; exact hP, va_K.moved hW.alike hK, hD⟩⟩, hS.F ht⟩) hS.2.2 dX5_fieldNamed_68
      · replace h := iq hc h
        refine lv_aload_n hx hb dX5_fieldNamed_43 rfl (lv_at hl 0 rfl) ?_
        refine va_get (D := (dC, dI)) (ci := 5) (C := RX5) (T := TX5) (N := 17) hx hb hts inlX5 hown hK hP 4 gA_4 rfl 8 (by decide) (hts (.fieldLink RX5 38 "ShapeReader$Shapes" "fieldNames" "[J") mw_14_25) (fun _ h9 => h9) rfl dX5_fieldNamed_44 ?_
        refine lv_iload hx hb dX5_fieldNamed_47 (lv_at hl 2 rfl) ?_
        refine lv_iload hx hb dX5_fieldNamed_49 (lv_at hl 4 rfl) ?_
        refine lv_iadd hx hb dX5_fieldNamed_51 ?_
        obtain ⟨hg1, h⟩ := ig h
        refine va_lald hx hb hK hP 11 8 gA_11 yA_11 (vp_in_iff.mpr hg1) dX5_fieldNamed_52 ?_
        refine lv_lload_n hx hb dX5_fieldNamed_53 rfl (lv_at hl 1 rfl) ?_
        refine W.lcmp hx hb dX5_fieldNamed_54 ?_
        refine lv_if_ne (tgt := 61) hx hb dX5_fieldNamed_55 (by decide) (fun hc => ?_) (fun hc => ?_)
        · replace h := iq hc h
          refine lv_iinc (v := (x6 + 1)) (lv' := [(6, .int (x6 + 1)), (0, .ref (a 4)), (2, .long x2), (4, .int x4), (5, .int x5)]) hx hb dX5_fieldNamed_61 hl (k := 4) rfl rfl (by decide) rfl (fun ls hl => ?_)
          refine lv_goto (tgt := 29) hx hb dX5_fieldNamed_64 (by decide) ?_
          exact ih _ _ _ _ _ h _ _ _ hP hD hS (lv_sub hl [1, 2, 3, 4, 0] rfl)
        · replace h := ip hc h
          refine lv_iload hx hb dX5_fieldNamed_58 (lv_at hl 4 rfl) ?_
          obtain rfl := Option.some.inj h
          exact W.iret hx hb hr (fun t ht hW => ⟨⟨_, (), rfl, rfl, ⟨by rw [ht]; exact hP, va_K.moved hW.alike hK, hD⟩⟩, hS.F ht⟩) hS.2.2 dX5_fieldNamed_60

set_option maxRecDepth 100000 in
set_option maxHeartbeats 4000000 in
theorem b_X5_fieldNamed_24_4 {p : Program} {l : Launch} {e : Env} {s : State} {m : MethodId} {args : Array Value} {below : List Frame} {meth : Method} {c : Code} {dC : Nat → ClassId} {dI : Nat → Nat → Nat} {a : Nat → Nat} {k : Nat → ClassId} {A : Nat → Prop} {q : Int32 × ST} (hC : CxA p s m args meth c dC dI k A cX5_fieldNamed RX5 (some .int) 7)   {x2 : Int64} {x4 : Int32} {y0 : Int32} {σ : ST} (h : f_X5_fieldNamed_24 4 x2 x4 y0 σ = some q) : GoA p l e ({ frames := 1, cells := 0, slots := 0, locals := 21 } : Room) s m args below meth c (MQ below (qAi dC dI a k A q) args s 0 0 A) dC dI a k A 7 24 σ [(0, .ref (a 4)), (2, .long x2), (4, .int x4)] [.int y0] := by
  have hC0 := hC
  obtain ⟨hx, hb, hr, hml, hown, hts, hlocks, hA, hN, hK⟩ := hC0
  intro H locs ls hP hD hS hl
  have hD0 : ∀ σ1 : ST, va_D A (wA a k σ1) := fun σ1 => wA_D hD
  unfold f_X5_fieldNamed_24 at h
  refine lv_istore (lv' := [(5, .int y0), (0, .ref (a 4)), (2, .long x2), (4, .int x4)]) hx hb dX5_fieldNamed_24 hl (by decide) rfl (fun ls hl => ?_)
  refine lv_iconst (v := 0) hx hb dX5_fieldNamed_26 (by decide) ?_
  refine lv_istore (lv' := [(6, .int 0), (5, .int y0), (0, .ref (a 4)), (2, .long x2), (4, .int x4)]) hx hb dX5_fieldNamed_27 hl (by decide) rfl (fun ls hl => ?_)
  exact b_X5_fieldNamed_29_4 hC FU _ _ _ _ _ h _ _ _ hP hD hS (lv_sub hl [2, 3, 4, 1, 0] rfl)

set_option maxRecDepth 100000 in
set_option maxHeartbeats 4000000 in
theorem b_X5_fieldNamed_e_4 {p : Program} {l : Launch} {e : Env} {s : State} {m : MethodId} {args : Array Value} {below : List Frame} {meth : Method} {c : Code} {dC : Nat → ClassId} {dI : Nat → Nat → Nat} {a : Nat → Nat} {k : Nat → ClassId} {A : Nat → Prop} {q : Int32 × ST} (hC : CxA p s m args meth c dC dI k A cX5_fieldNamed RX5 (some .int) 7)   {p0 : Int32} {p1 : Int64} {σ : ST} (h : f_X5_fieldNamed 4 p0 p1 σ = some q) : GoA p l e ({ frames := 1, cells := 0, slots := 0, locals := 21 } : Room) s m args below meth c (MQ below (qAi dC dI a k A q) args s 0 0 A) dC dI a k A 7 0 σ (lv_args 0 [.ref (a 4), .int p0, .long p1]) [] := by
  have hC0 := hC
  obtain ⟨hx, hb, hr, hml, hown, hts, hlocks, hA, hN, hK⟩ := hC0
  intro H locs ls hP hD hS hl
  have hD0 : ∀ σ1 : ST, va_D A (wA a k σ1) := fun σ1 => wA_D hD
  replace hl : lv_has ls 7 [(0, .ref (a 4)), (1, .int p0), (2, .long p1)] := hl
  unfold f_X5_fieldNamed at h
  refine lv_iload_n hx hb dX5_fieldNamed_0 rfl (lv_at hl 1 rfl) ?_
  refine lv_bipush (v := 8) hx hb dX5_fieldNamed_1 (by decide) ?_
  refine lv_imul hx hb dX5_fieldNamed_3 ?_
  refine lv_istore (lv' := [(4, .int (p0 * 8)), (0, .ref (a 4)), (1, .int p0), (2, .long p1)]) hx hb dX5_fieldNamed_4 hl (by decide) rfl (fun ls hl => ?_)
  refine lv_iload_n hx hb dX5_fieldNamed_6 rfl (lv_at hl 2 rfl) ?_
  refine lv_iconst (v := 0) hx hb dX5_fieldNamed_7 (by decide) ?_
  obtain ⟨q1, hc, h⟩ := ib h
  have hF := va_frees hD hS hA
  refine va_calli (va_runS (As := [.int p0, .int 0]) (rest := []) ⟨hx, hb, hml, hown, hts⟩ (s_X5_isFieldOf hc) (va_cwS 2 hts (gS mw_15_7 mw_15_8 mw_0_9 mw_49_25) rfl rfl rfl (by decide +kernel) ⟨(Nat.le_of_ble_eq_true rfl), (Nat.le_of_ble_eq_true rfl)⟩) (vS hK hP hD hN) rfl rfl hl.1 rfl (lv_room (Nat.le_of_ble_eq_true rfl)) dX5_fieldNamed_8 ⟨(Nat.le_of_ble_eq_true rfl), (Nat.le_of_ble_eq_true rfl)⟩) hS (fun q _ h => hF q h) hF (fun r2 u t H locs ht hvm hw hB _ _ hS => ?_)
  obtain rfl : r2 = q1.1 := hw
  replace hP : va_P (dC, dI) vwCl (wA a k q1.2) H := by rw [← ht]; exact hB.1
  replace hD := hD0 (q1.2)
  clear hB hF
  refine lv_if_eq (tgt := 23) hx hb dX5_fieldNamed_11 (by decide) (fun hc => ?_) (fun hc => ?_)
  · replace h := ip hc h
    refine lv_iconst (v := 0) hx hb dX5_fieldNamed_23 (by decide) ?_
    exact b_X5_fieldNamed_24_4 hC h _ _ _ hP hD hS (lv_sub hl [1, 3, 0] rfl)
  · replace h := iq hc h
    refine lv_aload_n hx hb dX5_fieldNamed_14 rfl (lv_at hl 1 rfl) ?_
    refine va_get (D := (dC, dI)) (ci := 5) (C := RX5) (T := TX5) (N := 17) hx hb hts inlX5 hown hK hP 4 gA_4 rfl 4 (by decide) (hts (.fieldLink RX5 25 "ShapeReader$Shapes" "fieldCounts" "[I") mw_14_21) (fun _ h9 => h9) rfl dX5_fieldNamed_15 ?_
    refine lv_iload_n hx hb dX5_fieldNamed_18 rfl (lv_at hl 2 rfl) ?_
    obtain ⟨hg3, h⟩ := ig h
    refine va_iald hx hb hK hP 7 4 gA_7 yA_7 (vp_in_iff.mpr hg3) dX5_fieldNamed_19 ?_
    refine lv_goto (tgt := 24) hx hb dX5_fieldNamed_20 (by decide) ?_
    exact b_X5_fieldNamed_24_4 hC h _ _ _ hP hD hS (lv_sub hl [1, 3, 0] rfl)

theorem s_X5_fieldNamed_4 {l : Launch} {dC : Nat → ClassId} {dI : Nat → Nat → Nat} {a : Nat → Nat} {k : Nat → ClassId} {sz : Nat} {p0 : Int32} {p1 : Int64} {σ : ST} {q : Int32 × ST} (h : f_X5_fieldNamed 4 p0 p1 σ = some q) : Met l yX5_fieldNamed (.code yX5_fieldNamed cX5_fieldNamed 7 (some .int) :: pw) ({ frames := 1, cells := 0, slots := 0, locals := 21 } : Room) (va_Pc [.ref (a 4), .int p0, .long p1] (vPre dC dI (wA a k σ) (tA k) sz)) (qAi dC dI a k (va_A (wA a k σ) sz) q) 0 0 (va_A (wA a k σ) sz) := metA (fun A => qAi dC dI a k A q) (plainFor_of_name (by decide)) (Nat.le_of_ble_eq_true rfl) (fun _ _ _ _ _ _ _ _ hC => b_X5_fieldNamed_e_4 hC h)

set_option maxRecDepth 100000 in
set_option maxHeartbeats 4000000 in
theorem b_X5_fieldNamed_29_20 {p : Program} {l : Launch} {e : Env} {s : State} {m : MethodId} {args : Array Value} {below : List Frame} {meth : Method} {c : Code} {dC : Nat → ClassId} {dI : Nat → Nat → Nat} {a : Nat → Nat} {k : Nat → ClassId} {A : Nat → Prop} {q : Int32 × ST} (hC : CxA p s m args meth c dC dI k A cX5_fieldNamed RX5 (some .int) 7)   : ∀ (n : Nat) (x2 : Int64) (x4 : Int32) (x5 : Int32) (x6 : Int32) (σ : ST), f_X5_fieldNamed_29 20 n x2 x4 x5 x6 σ = some q → GoA p l e ({ frames := 1, cells := 0, slots := 0, locals := 21 } : Room) s m args below meth c (MQ below (qAi dC dI a k A q) args s 0 0 A) dC dI a k A 7 29 σ [(0, .ref (a 20)), (2, .long x2), (4, .int x4), (5, .int x5), (6, .int x6)] [] := by
  intro n
  induction n with
  | zero =>
    intro x2 x4 x5 x6 σ h
    rw [f_X5_fieldNamed_29] at h
    cases h
  | succ n ih =>
    intro x2 x4 x5 x6 σ h
    have hC0 := hC
    obtain ⟨hx, hb, hr, hml, hown, hts, hlocks, hA, hN, hK⟩ := hC0
    intro H locs ls hP hD hS hl
    have hD0 : ∀ σ1 : ST, va_D A (wA a k σ1) := fun σ1 => wA_D hD
    rw [f_X5_fieldNamed_29] at h
    refine lv_iload hx hb dX5_fieldNamed_29 (lv_at hl 4 rfl) ?_
    refine lv_iload hx hb dX5_fieldNamed_31 (lv_at hl 3 rfl) ?_
    refine lv_icmp_ge (tgt := 67) hx hb dX5_fieldNamed_33 (by decide) (fun hc => ?_) (fun hc => ?_)
    · replace h := ip hc h
      refine lv_iconst (v := (-1)) hx hb dX5_fieldNamed_67 (by decide) ?_
      obtain rfl := Option.some.inj h
      exact W.iret hx hb hr (fun t ht hW => ⟨⟨_, (), rfl, rfl, ⟨by rw [ht]; exact hP, va_K.moved hW.alike hK, hD⟩⟩, hS.F ht⟩) hS.2.2 dX5_fieldNamed_68
    · replace h := iq hc h
      refine lv_iload hx hb dX5_fieldNamed_36 (lv_at hl 4 rfl) ?_
      refine lv_bipush (v := 8) hx hb dX5_fieldNamed_38 (by decide) ?_
      refine lv_icmp_ge (tgt := 67) hx hb dX5_fieldNamed_40 (by decide) (fun hc => ?_) (fun hc => ?_)
      · replace h := ip hc h
        refine lv_iconst (v := (-1)) hx hb dX5_fieldNamed_67 (by decide) ?_
        obtain rfl := Option.some.inj h
        exact W.iret hx hb hr (fun t ht hW => ⟨⟨_, (), rfl, rfl, ⟨by rw [ht]; exact hP, va_K.moved hW.alike hK, hD⟩⟩, hS.F ht⟩) hS.2.2 dX5_fieldNamed_68
      · replace h := iq hc h
        refine lv_aload_n hx hb dX5_fieldNamed_43 rfl (lv_at hl 0 rfl) ?_
        refine va_get (D := (dC, dI)) (ci := 5) (C := RX5) (T := TX5) (N := 17) hx hb hts inlX5 hown hK hP 20 gA_20 rfl 8 (by decide) (hts (.fieldLink RX5 38 "ShapeReader$Shapes" "fieldNames" "[J") mw_14_25) (fun _ h9 => h9) rfl dX5_fieldNamed_44 ?_
        refine lv_iload hx hb dX5_fieldNamed_47 (lv_at hl 2 rfl) ?_
        refine lv_iload hx hb dX5_fieldNamed_49 (lv_at hl 4 rfl) ?_
        refine lv_iadd hx hb dX5_fieldNamed_51 ?_
        obtain ⟨hg1, h⟩ := ig h
        refine va_lald hx hb hK hP 27 23 gA_27 yA_27 (vp_in_iff.mpr hg1) dX5_fieldNamed_52 ?_
        refine lv_lload_n hx hb dX5_fieldNamed_53 rfl (lv_at hl 1 rfl) ?_
        refine W.lcmp hx hb dX5_fieldNamed_54 ?_
        refine lv_if_ne (tgt := 61) hx hb dX5_fieldNamed_55 (by decide) (fun hc => ?_) (fun hc => ?_)
        · replace h := iq hc h
          refine lv_iinc (v := (x6 + 1)) (lv' := [(6, .int (x6 + 1)), (0, .ref (a 20)), (2, .long x2), (4, .int x4), (5, .int x5)]) hx hb dX5_fieldNamed_61 hl (k := 4) rfl rfl (by decide) rfl (fun ls hl => ?_)
          refine lv_goto (tgt := 29) hx hb dX5_fieldNamed_64 (by decide) ?_
          exact ih _ _ _ _ _ h _ _ _ hP hD hS (lv_sub hl [1, 2, 3, 4, 0] rfl)
        · replace h := ip hc h
          refine lv_iload hx hb dX5_fieldNamed_58 (lv_at hl 4 rfl) ?_
          obtain rfl := Option.some.inj h
          exact W.iret hx hb hr (fun t ht hW => ⟨⟨_, (), rfl, rfl, ⟨by rw [ht]; exact hP, va_K.moved hW.alike hK, hD⟩⟩, hS.F ht⟩) hS.2.2 dX5_fieldNamed_60

set_option maxRecDepth 100000 in
set_option maxHeartbeats 4000000 in
theorem b_X5_fieldNamed_24_20 {p : Program} {l : Launch} {e : Env} {s : State} {m : MethodId} {args : Array Value} {below : List Frame} {meth : Method} {c : Code} {dC : Nat → ClassId} {dI : Nat → Nat → Nat} {a : Nat → Nat} {k : Nat → ClassId} {A : Nat → Prop} {q : Int32 × ST} (hC : CxA p s m args meth c dC dI k A cX5_fieldNamed RX5 (some .int) 7)   {x2 : Int64} {x4 : Int32} {y0 : Int32} {σ : ST} (h : f_X5_fieldNamed_24 20 x2 x4 y0 σ = some q) : GoA p l e ({ frames := 1, cells := 0, slots := 0, locals := 21 } : Room) s m args below meth c (MQ below (qAi dC dI a k A q) args s 0 0 A) dC dI a k A 7 24 σ [(0, .ref (a 20)), (2, .long x2), (4, .int x4)] [.int y0] := by
  have hC0 := hC
  obtain ⟨hx, hb, hr, hml, hown, hts, hlocks, hA, hN, hK⟩ := hC0
  intro H locs ls hP hD hS hl
  have hD0 : ∀ σ1 : ST, va_D A (wA a k σ1) := fun σ1 => wA_D hD
  unfold f_X5_fieldNamed_24 at h
  refine lv_istore (lv' := [(5, .int y0), (0, .ref (a 20)), (2, .long x2), (4, .int x4)]) hx hb dX5_fieldNamed_24 hl (by decide) rfl (fun ls hl => ?_)
  refine lv_iconst (v := 0) hx hb dX5_fieldNamed_26 (by decide) ?_
  refine lv_istore (lv' := [(6, .int 0), (5, .int y0), (0, .ref (a 20)), (2, .long x2), (4, .int x4)]) hx hb dX5_fieldNamed_27 hl (by decide) rfl (fun ls hl => ?_)
  exact b_X5_fieldNamed_29_20 hC FU _ _ _ _ _ h _ _ _ hP hD hS (lv_sub hl [2, 3, 4, 1, 0] rfl)

set_option maxRecDepth 100000 in
set_option maxHeartbeats 4000000 in
theorem b_X5_fieldNamed_e_20 {p : Program} {l : Launch} {e : Env} {s : State} {m : MethodId} {args : Array Value} {below : List Frame} {meth : Method} {c : Code} {dC : Nat → ClassId} {dI : Nat → Nat → Nat} {a : Nat → Nat} {k : Nat → ClassId} {A : Nat → Prop} {q : Int32 × ST} (hC : CxA p s m args meth c dC dI k A cX5_fieldNamed RX5 (some .int) 7)   {p0 : Int32} {p1 : Int64} {σ : ST} (h : f_X5_fieldNamed 20 p0 p1 σ = some q) : GoA p l e ({ frames := 1, cells := 0, slots := 0, locals := 21 } : Room) s m args below meth c (MQ below (qAi dC dI a k A q) args s 0 0 A) dC dI a k A 7 0 σ (lv_args 0 [.ref (a 20), .int p0, .long p1]) [] := by
  have hC0 := hC
  obtain ⟨hx, hb, hr, hml, hown, hts, hlocks, hA, hN, hK⟩ := hC0
  intro H locs ls hP hD hS hl
  have hD0 : ∀ σ1 : ST, va_D A (wA a k σ1) := fun σ1 => wA_D hD
  replace hl : lv_has ls 7 [(0, .ref (a 20)), (1, .int p0), (2, .long p1)] := hl
  unfold f_X5_fieldNamed at h
  refine lv_iload_n hx hb dX5_fieldNamed_0 rfl (lv_at hl 1 rfl) ?_
  refine lv_bipush (v := 8) hx hb dX5_fieldNamed_1 (by decide) ?_
  refine lv_imul hx hb dX5_fieldNamed_3 ?_
  refine lv_istore (lv' := [(4, .int (p0 * 8)), (0, .ref (a 20)), (1, .int p0), (2, .long p1)]) hx hb dX5_fieldNamed_4 hl (by decide) rfl (fun ls hl => ?_)
  refine lv_iload_n hx hb dX5_fieldNamed_6 rfl (lv_at hl 2 rfl) ?_
  refine lv_iconst (v := 0) hx hb dX5_fieldNamed_7 (by decide) ?_
  obtain ⟨q1, hc, h⟩ := ib h
  have hF := va_frees hD hS hA
  refine va_calli (va_runS (As := [.int p0, .int 0]) (rest := []) ⟨hx, hb, hml, hown, hts⟩ (s_X5_isFieldOf hc) (va_cwS 2 hts (gS mw_15_7 mw_15_8 mw_0_9 mw_49_25) rfl rfl rfl (by decide +kernel) ⟨(Nat.le_of_ble_eq_true rfl), (Nat.le_of_ble_eq_true rfl)⟩) (vS hK hP hD hN) rfl rfl hl.1 rfl (lv_room (Nat.le_of_ble_eq_true rfl)) dX5_fieldNamed_8 ⟨(Nat.le_of_ble_eq_true rfl), (Nat.le_of_ble_eq_true rfl)⟩) hS (fun q _ h => hF q h) hF (fun r2 u t H locs ht hvm hw hB _ _ hS => ?_)
  obtain rfl : r2 = q1.1 := hw
  replace hP : va_P (dC, dI) vwCl (wA a k q1.2) H := by rw [← ht]; exact hB.1
  replace hD := hD0 (q1.2)
  clear hB hF
  refine lv_if_eq (tgt := 23) hx hb dX5_fieldNamed_11 (by decide) (fun hc => ?_) (fun hc => ?_)
  · replace h := ip hc h
    refine lv_iconst (v := 0) hx hb dX5_fieldNamed_23 (by decide) ?_
    exact b_X5_fieldNamed_24_20 hC h _ _ _ hP hD hS (lv_sub hl [1, 3, 0] rfl)
  · replace h := iq hc h
    refine lv_aload_n hx hb dX5_fieldNamed_14 rfl (lv_at hl 1 rfl) ?_
    refine va_get (D := (dC, dI)) (ci := 5) (C := RX5) (T := TX5) (N := 17) hx hb hts inlX5 hown hK hP 20 gA_20 rfl 4 (by decide) (hts (.fieldLink RX5 25 "ShapeReader$Shapes" "fieldCounts" "[I") mw_14_21) (fun _ h9 => h9) rfl dX5_fieldNamed_15 ?_
    refine lv_iload_n hx hb dX5_fieldNamed_18 rfl (lv_at hl 2 rfl) ?_
    obtain ⟨hg3, h⟩ := ig h
    refine va_iald hx hb hK hP 23 19 gA_23 yA_23 (vp_in_iff.mpr hg3) dX5_fieldNamed_19 ?_
    refine lv_goto (tgt := 24) hx hb dX5_fieldNamed_20 (by decide) ?_
    exact b_X5_fieldNamed_24_20 hC h _ _ _ hP hD hS (lv_sub hl [1, 3, 0] rfl)

theorem s_X5_fieldNamed_20 {l : Launch} {dC : Nat → ClassId} {dI : Nat → Nat → Nat} {a : Nat → Nat} {k : Nat → ClassId} {sz : Nat} {p0 : Int32} {p1 : Int64} {σ : ST} {q : Int32 × ST} (h : f_X5_fieldNamed 20 p0 p1 σ = some q) : Met l yX5_fieldNamed (.code yX5_fieldNamed cX5_fieldNamed 7 (some .int) :: pw) ({ frames := 1, cells := 0, slots := 0, locals := 21 } : Room) (va_Pc [.ref (a 20), .int p0, .long p1] (vPre dC dI (wA a k σ) (tA k) sz)) (qAi dC dI a k (va_A (wA a k σ) sz) q) 0 0 (va_A (wA a k σ) sz) := metA (fun A => qAi dC dI a k A q) (plainFor_of_name (by decide)) (Nat.le_of_ble_eq_true rfl) (fun _ _ _ _ _ _ _ _ hC => b_X5_fieldNamed_e_20 hC h)

def f_X5_formerName (b : Nat) (p0 : Int32) (p1 : Int32) (σ : ST) : Option (Int64 × ST) := (f_X5_isFieldOf  p0 p1 σ).bind fun q1 => if q1.1 = 0 then (some (0, q1.2)) else (if 0 ≤ ((p0 * 8) + p1).toInt ∧ ((p0 * 8) + p1).toInt < 288 then (some ((q1.2.2.1 (b + 8) ((p0 * 8) + p1).toNatClampNeg), q1.2)) else none)

set_option maxRecDepth 100000 in
set_option maxHeartbeats 4000000 in
theorem b_X5_formerName_e_4 {p : Program} {l : Launch} {e : Env} {s : State} {m : MethodId} {args : Array Value} {below : List Frame} {meth : Method} {c : Code} {dC : Nat → ClassId} {dI : Nat → Nat → Nat} {a : Nat → Nat} {k : Nat → ClassId} {A : Nat → Prop} {q : Int64 × ST} (hC : CxA p s m args meth c dC dI k A cX5_formerName RX5 (some .long) 3)   {p0 : Int32} {p1 : Int32} {σ : ST} (h : f_X5_formerName 4 p0 p1 σ = some q) : GoA p l e ({ frames := 1, cells := 0, slots := 0, locals := 21 } : Room) s m args below meth c (MQ below (qAl dC dI a k A q) args s 0 0 A) dC dI a k A 3 0 σ (lv_args 0 [.ref (a 4), .int p0, .int p1]) [] := by
  have hC0 := hC
  obtain ⟨hx, hb, hr, hml, hown, hts, hlocks, hA, hN, hK⟩ := hC0
  intro H locs ls hP hD hS hl
  have hD0 : ∀ σ1 : ST, va_D A (wA a k σ1) := fun σ1 => wA_D hD
  replace hl : lv_has ls 3 [(0, .ref (a 4)), (1, .int p0), (2, .int p1)] := hl
  unfold f_X5_formerName at h
  refine lv_iload_n hx hb dX5_formerName_0 rfl (lv_at hl 1 rfl) ?_
  refine lv_iload_n hx hb dX5_formerName_1 rfl (lv_at hl 2 rfl) ?_
  obtain ⟨q1, hc, h⟩ := ib h
  have hF := va_frees hD hS hA
  refine va_calli (va_runS (As := [.int p0, .int p1]) (rest := []) ⟨hx, hb, hml, hown, hts⟩ (s_X5_isFieldOf hc) (va_cwS 2 hts (gS mw_15_7 mw_15_8 mw_0_9 mw_49_25) rfl rfl rfl (by decide +kernel) ⟨(Nat.le_of_ble_eq_true rfl), (Nat.le_of_ble_eq_true rfl)⟩) (vS hK hP hD hN) rfl rfl hl.1 rfl (lv_room (Nat.le_of_ble_eq_true rfl)) dX5_formerName_2 ⟨(Nat.le_of_ble_eq_true rfl), (Nat.le_of_ble_eq_true rfl)⟩) hS (fun q _ h => hF q h) hF (fun r2 u t H locs ht hvm hw hB _ _ hS => ?_)
  obtain rfl : r2 = q1.1 := hw
  replace hP : va_P (dC, dI) vwCl (wA a k q1.2) H := by rw [← ht]; exact hB.1
  replace hD := hD0 (q1.2)
  clear hB hF
  refine lv_if_eq (tgt := 22) hx hb dX5_formerName_5 (by decide) (fun hc => ?_) (fun hc => ?_)
  · replace h := ip hc h
    refine lv_lconst (v := 0) hx hb dX5_formerName_22 (by decide) ?_
    obtain rfl := Option.some.inj h
    exact W.lret hx hb hr (fun t ht hW => ⟨⟨_, (), rfl, rfl, ⟨by rw [ht]; exact hP, va_K.moved hW.alike hK, hD⟩⟩, hS.F ht⟩) hS.2.2 dX5_formerName_23
  · replace h := iq hc h
    refine lv_aload_n hx hb dX5_formerName_8 rfl (lv_at hl 0 rfl) ?_
    refine va_get (D := (dC, dI)) (ci := 5) (C := RX5) (T := TX5) (N := 17) hx hb hts inlX5 hown hK hP 4 gA_4 rfl 9 (by decide) (hts (.fieldLink RX5 41 "ShapeReader$Shapes" "formerNames" "[J") mw_14_26) (fun _ h9 => h9) rfl dX5_formerName_9 ?_
    refine lv_iload_n hx hb dX5_formerName_12 rfl (lv_at hl 1 rfl) ?_
    refine lv_bipush (v := 8) hx hb dX5_formerName_13 (by decide) ?_
    refine lv_imul hx hb dX5_formerName_15 ?_
    refine lv_iload_n hx hb dX5_formerName_16 rfl (lv_at hl 2 rfl) ?_
    refine lv_iadd hx hb dX5_formerName_17 ?_
    obtain ⟨hg3, h⟩ := ig h
    refine va_lald hx hb hK hP 12 9 gA_12 yA_12 (vp_in_iff.mpr hg3) dX5_formerName_18 ?_
    refine lv_goto (tgt := 23) hx hb dX5_formerName_19 (by decide) ?_
    obtain rfl := Option.some.inj h
    exact W.lret hx hb hr (fun t ht hW => ⟨⟨_, (), rfl, rfl, ⟨by rw [ht]; exact hP, va_K.moved hW.alike hK, hD⟩⟩, hS.F ht⟩) hS.2.2 dX5_formerName_23

theorem s_X5_formerName_4 {l : Launch} {dC : Nat → ClassId} {dI : Nat → Nat → Nat} {a : Nat → Nat} {k : Nat → ClassId} {sz : Nat} {p0 : Int32} {p1 : Int32} {σ : ST} {q : Int64 × ST} (h : f_X5_formerName 4 p0 p1 σ = some q) : Met l yX5_formerName (.code yX5_formerName cX5_formerName 3 (some .long) :: pw) ({ frames := 1, cells := 0, slots := 0, locals := 21 } : Room) (va_Pc [.ref (a 4), .int p0, .int p1] (vPre dC dI (wA a k σ) (tA k) sz)) (qAl dC dI a k (va_A (wA a k σ) sz) q) 0 0 (va_A (wA a k σ) sz) := metA (fun A => qAl dC dI a k A q) (plainFor_of_name (by decide)) (Nat.le_of_ble_eq_true rfl) (fun _ _ _ _ _ _ _ _ hC => b_X5_formerName_e_4 hC h)

def f_X5_sourceOf (b : Nat) (p0 : Int32) (p1 : Int32) (p2 : Int32) (σ : ST) : Option (Int32 × ST) := (f_X5_fieldName b p1 p2 σ).bind fun q1 => (f_X5_fieldNamed b p0 q1.1 q1.2).bind fun q3 => (f_X5_formerName b p1 p2 q3.2).bind fun q5 => if q3.1 = (-1) then (if (lg_cmp q5.1 0) = 0 then (some (q3.1, q5.2)) else ((f_X5_fieldNamed b p0 q5.1 q5.2).bind fun q7 => some (q7.1, q7.2))) else (some (q3.1, q5.2))

set_option maxRecDepth 100000 in
set_option maxHeartbeats 4000000 in
theorem b_X5_sourceOf_e_4 {p : Program} {l : Launch} {e : Env} {s : State} {m : MethodId} {args : Array Value} {below : List Frame} {meth : Method} {c : Code} {dC : Nat → ClassId} {dI : Nat → Nat → Nat} {a : Nat → Nat} {k : Nat → ClassId} {A : Nat → Prop} {q : Int32 × ST} (hC : CxA p s m args meth c dC dI k A cX5_sourceOf RX5 (some .int) 7)   {p0 : Int32} {p1 : Int32} {p2 : Int32} {σ : ST} (h : f_X5_sourceOf 4 p0 p1 p2 σ = some q) : GoA p l e ({ frames := 2, cells := 0, slots := 0, locals := 47 } : Room) s m args below meth c (MQ below (qAi dC dI a k A q) args s 0 0 A) dC dI a k A 7 0 σ (lv_args 0 [.ref (a 4), .int p0, .int p1, .int p2]) [] := by
  have hC0 := hC
  obtain ⟨hx, hb, hr, hml, hown, hts, hlocks, hA, hN, hK⟩ := hC0
  intro H locs ls hP hD hS hl
  have hD0 : ∀ σ1 : ST, va_D A (wA a k σ1) := fun σ1 => wA_D hD
  replace hl : lv_has ls 7 [(0, .ref (a 4)), (1, .int p0), (2, .int p1), (3, .int p2)] := hl
  unfold f_X5_sourceOf at h
  refine lv_aload_n hx hb dX5_sourceOf_0 rfl (lv_at hl 0 rfl) ?_
  refine lv_iload_n hx hb dX5_sourceOf_1 rfl (lv_at hl 1 rfl) ?_
  refine lv_aload_n hx hb dX5_sourceOf_2 rfl (lv_at hl 0 rfl) ?_
  refine lv_iload_n hx hb dX5_sourceOf_3 rfl (lv_at hl 2 rfl) ?_
  refine lv_iload_n hx hb dX5_sourceOf_4 rfl (lv_at hl 3 rfl) ?_
  obtain ⟨q1, hc, h⟩ := ib h
  have hF := va_frees hD hS hA
  refine va_calll (va_runV (As := [.int p1, .int p2]) (rest := [.int p0, .ref (a 4)]) ⟨hx, hb, hml, hown, hts⟩ (s_X5_fieldName_4 hc) (cwV 2 hts (gV mw_15_18 mw_10_0 mw_10_1 mw_0_9 mw_50_1) rfl rfl rfl (by decide +kernel) ⟨(Nat.le_of_ble_eq_true rfl), (Nat.le_of_ble_eq_true rfl)⟩) (vV (ci := 5) (q0 := 4) hK hP hD hN rfl gA_4) rfl rfl hl.1 rfl (lv_room (Nat.le_of_ble_eq_true rfl)) dX5_sourceOf_5 ⟨(Nat.le_of_ble_eq_true rfl), (Nat.le_of_ble_eq_true rfl)⟩) hS (fun q _ h => hF q h) hF (fun r2 u t H locs ht hvm hw hB _ _ hS => ?_)
  obtain rfl : r2 = q1.1 := hw
  replace hP : va_P (dC, dI) vwCl (wA a k q1.2) H := by rw [← ht]; exact hB.1
  replace hD := hD0 (q1.2)
  clear hB hF
  obtain ⟨q3, hc, h⟩ := ib h
  have hF := va_frees hD hS hA
  refine va_calli (va_runV (As := [.int p0, .long q1.1]) (rest := []) ⟨hx, hb, hml, hown, hts⟩ (s_X5_fieldNamed_4 hc) (cwV 2 hts (gV mw_15_19 mw_8_19 mw_8_20 mw_0_9 mw_50_14) rfl rfl rfl (by decide +kernel) ⟨(Nat.le_of_ble_eq_true rfl), (Nat.le_of_ble_eq_true rfl)⟩) (vV (ci := 5) (q0 := 4) hK hP hD hN rfl gA_4) rfl rfl hl.1 rfl (lv_room (Nat.le_of_ble_eq_true rfl)) dX5_sourceOf_8 ⟨(Nat.le_of_ble_eq_true rfl), (Nat.le_of_ble_eq_true rfl)⟩) hS (fun q _ h => hF q h) hF (fun r4 u t H locs ht hvm hw hB _ _ hS => ?_)
  obtain rfl : r4 = q3.1 := hw
  replace hP : va_P (dC, dI) vwCl (wA a k q3.2) H := by rw [← ht]; exact hB.1
  replace hD := hD0 (q3.2)
  clear hB hF
  refine lv_istore (lv' := [(4, .int q3.1), (0, .ref (a 4)), (1, .int p0), (2, .int p1), (3, .int p2)]) hx hb dX5_sourceOf_11 hl (by decide) rfl (fun ls hl => ?_)
  refine lv_aload_n hx hb dX5_sourceOf_13 rfl (lv_at hl 1 rfl) ?_
  refine lv_iload_n hx hb dX5_sourceOf_14 rfl (lv_at hl 3 rfl) ?_
  refine lv_iload_n hx hb dX5_sourceOf_15 rfl (lv_at hl 4 rfl) ?_
  obtain ⟨q5, hc, h⟩ := ib h
  have hF := va_frees hD hS hA
  refine va_calll (va_runV (As := [.int p1, .int p2]) (rest := []) ⟨hx, hb, hml, hown, hts⟩ (s_X5_formerName_4 hc) (cwV 2 hts (gV mw_15_20 mw_15_21 mw_15_22 mw_0_9 mw_50_2) rfl rfl rfl (by decide +kernel) ⟨(Nat.le_of_ble_eq_true rfl), (Nat.le_of_ble_eq_true rfl)⟩) (vV (ci := 5) (q0 := 4) hK hP hD hN rfl gA_4) rfl rfl hl.1 rfl (lv_room (Nat.le_of_ble_eq_true rfl)) dX5_sourceOf_16 ⟨(Nat.le_of_ble_eq_true rfl), (Nat.le_of_ble_eq_true rfl)⟩) hS (fun q _ h => hF q h) hF (fun r6 u t H locs ht hvm hw hB _ _ hS => ?_)
  obtain rfl : r6 = q5.1 := hw
  replace hP : va_P (dC, dI) vwCl (wA a k q5.2) H := by rw [← ht]; exact hB.1
  replace hD := hD0 (q5.2)
  clear hB hF
  refine lv_lstore (lv' := [(5, .long q5.1), (4, .int q3.1), (0, .ref (a 4)), (1, .int p0), (2, .int p1), (3, .int p2)]) hx hb dX5_sourceOf_19 hl (by decide) rfl (fun ls hl => ?_)
  refine lv_iload hx hb dX5_sourceOf_21 (lv_at hl 1 rfl) ?_
  refine lv_iconst (v := (-1)) hx hb dX5_sourceOf_23 (by decide) ?_
  refine lv_icmp_ne (tgt := 44) hx hb dX5_sourceOf_24 (by decide) (fun hc => ?_) (fun hc => ?_)
  · replace h := iq hc h
    refine lv_iload hx hb dX5_sourceOf_44 (lv_at hl 1 rfl) ?_
    obtain rfl := Option.some.inj h
    exact W.iret hx hb hr (fun t ht hW => ⟨⟨_, (), rfl, rfl, ⟨by rw [ht]; exact hP, va_K.moved hW.alike hK, hD⟩⟩, hS.F ht⟩) hS.2.2 dX5_sourceOf_46
  · replace h := ip hc h
    refine lv_lload hx hb dX5_sourceOf_27 (lv_at hl 0 rfl) ?_
    refine lv_lconst (v := 0) hx hb dX5_sourceOf_29 (by decide) ?_
    refine W.lcmp hx hb dX5_sourceOf_30 ?_
    refine lv_if_eq (tgt := 44) hx hb dX5_sourceOf_31 (by decide) (fun hc => ?_) (fun hc => ?_)
    · replace h := ip hc h
      refine lv_iload hx hb dX5_sourceOf_44 (lv_at hl 1 rfl) ?_
      obtain rfl := Option.some.inj h
      exact W.iret hx hb hr (fun t ht hW => ⟨⟨_, (), rfl, rfl, ⟨by rw [ht]; exact hP, va_K.moved hW.alike hK, hD⟩⟩, hS.F ht⟩) hS.2.2 dX5_sourceOf_46
    · replace h := iq hc h
      refine lv_aload_n hx hb dX5_sourceOf_34 rfl (lv_at hl 2 rfl) ?_
      refine lv_iload_n hx hb dX5_sourceOf_35 rfl (lv_at hl 3 rfl) ?_
      refine lv_lload hx hb dX5_sourceOf_36 (lv_at hl 0 rfl) ?_
      obtain ⟨q7, hc, h⟩ := ib h
      have hF := va_frees hD hS hA
      refine va_calli (va_runV (As := [.int p0, .long q5.1]) (rest := []) ⟨hx, hb, hml, hown, hts⟩ (s_X5_fieldNamed_4 hc) (cwV 2 hts (gV mw_15_19 mw_8_19 mw_8_20 mw_0_9 mw_50_14) rfl rfl rfl (by decide +kernel) ⟨(Nat.le_of_ble_eq_true rfl), (Nat.le_of_ble_eq_true rfl)⟩) (vV (ci := 5) (q0 := 4) hK hP hD hN rfl gA_4) rfl rfl hl.1 rfl (lv_room (Nat.le_of_ble_eq_true rfl)) dX5_sourceOf_38 ⟨(Nat.le_of_ble_eq_true rfl), (Nat.le_of_ble_eq_true rfl)⟩) hS (fun q _ h => hF q h) hF (fun r8 u t H locs ht hvm hw hB _ _ hS => ?_)
      obtain rfl : r8 = q7.1 := hw
      replace hP : va_P (dC, dI) vwCl (wA a k q7.2) H := by rw [← ht]; exact hB.1
      replace hD := hD0 (q7.2)
      clear hB hF
      refine lv_goto (tgt := 46) hx hb dX5_sourceOf_41 (by decide) ?_
      obtain rfl := Option.some.inj h
      exact W.iret hx hb hr (fun t ht hW => ⟨⟨_, (), rfl, rfl, ⟨by rw [ht]; exact hP, va_K.moved hW.alike hK, hD⟩⟩, hS.F ht⟩) hS.2.2 dX5_sourceOf_46

theorem s_X5_sourceOf_4 {l : Launch} {dC : Nat → ClassId} {dI : Nat → Nat → Nat} {a : Nat → Nat} {k : Nat → ClassId} {sz : Nat} {p0 : Int32} {p1 : Int32} {p2 : Int32} {σ : ST} {q : Int32 × ST} (h : f_X5_sourceOf 4 p0 p1 p2 σ = some q) : Met l yX5_sourceOf (.code yX5_sourceOf cX5_sourceOf 7 (some .int) :: pw) ({ frames := 2, cells := 0, slots := 0, locals := 47 } : Room) (va_Pc [.ref (a 4), .int p0, .int p1, .int p2] (vPre dC dI (wA a k σ) (tA k) sz)) (qAi dC dI a k (va_A (wA a k σ) sz) q) 0 0 (va_A (wA a k σ) sz) := metA (fun A => qAi dC dI a k A q) (plainFor_of_name (by decide)) (Nat.le_of_ble_eq_true rfl) (fun _ _ _ _ _ _ _ _ hC => b_X5_sourceOf_e_4 hC h)

def f_X5_typeOf (b : Nat) (p0 : Int32) (p1 : Int32) (σ : ST) : Option (Int32 × ST) := (f_X5_isFieldOf  p0 p1 σ).bind fun q1 => if q1.1 = 0 then (some ((-1), q1.2)) else (if 0 ≤ ((p0 * 8) + p1).toInt ∧ ((p0 * 8) + p1).toInt < 288 then (some ((q1.2.1 (b + 9) ((p0 * 8) + p1).toNatClampNeg), q1.2)) else none)

set_option maxRecDepth 100000 in
set_option maxHeartbeats 4000000 in
theorem b_X5_typeOf_e_4 {p : Program} {l : Launch} {e : Env} {s : State} {m : MethodId} {args : Array Value} {below : List Frame} {meth : Method} {c : Code} {dC : Nat → ClassId} {dI : Nat → Nat → Nat} {a : Nat → Nat} {k : Nat → ClassId} {A : Nat → Prop} {q : Int32 × ST} (hC : CxA p s m args meth c dC dI k A cX5_typeOf RX5 (some .int) 3)   {p0 : Int32} {p1 : Int32} {σ : ST} (h : f_X5_typeOf 4 p0 p1 σ = some q) : GoA p l e ({ frames := 1, cells := 0, slots := 0, locals := 21 } : Room) s m args below meth c (MQ below (qAi dC dI a k A q) args s 0 0 A) dC dI a k A 3 0 σ (lv_args 0 [.ref (a 4), .int p0, .int p1]) [] := by
  have hC0 := hC
  obtain ⟨hx, hb, hr, hml, hown, hts, hlocks, hA, hN, hK⟩ := hC0
  intro H locs ls hP hD hS hl
  have hD0 : ∀ σ1 : ST, va_D A (wA a k σ1) := fun σ1 => wA_D hD
  replace hl : lv_has ls 3 [(0, .ref (a 4)), (1, .int p0), (2, .int p1)] := hl
  unfold f_X5_typeOf at h
  refine lv_iload_n hx hb dX5_typeOf_0 rfl (lv_at hl 1 rfl) ?_
  refine lv_iload_n hx hb dX5_typeOf_1 rfl (lv_at hl 2 rfl) ?_
  obtain ⟨q1, hc, h⟩ := ib h
  have hF := va_frees hD hS hA
  refine va_calli (va_runS (As := [.int p0, .int p1]) (rest := []) ⟨hx, hb, hml, hown, hts⟩ (s_X5_isFieldOf hc) (va_cwS 2 hts (gS mw_15_7 mw_15_8 mw_0_9 mw_49_25) rfl rfl rfl (by decide +kernel) ⟨(Nat.le_of_ble_eq_true rfl), (Nat.le_of_ble_eq_true rfl)⟩) (vS hK hP hD hN) rfl rfl hl.1 rfl (lv_room (Nat.le_of_ble_eq_true rfl)) dX5_typeOf_2 ⟨(Nat.le_of_ble_eq_true rfl), (Nat.le_of_ble_eq_true rfl)⟩) hS (fun q _ h => hF q h) hF (fun r2 u t H locs ht hvm hw hB _ _ hS => ?_)
  obtain rfl : r2 = q1.1 := hw
  replace hP : va_P (dC, dI) vwCl (wA a k q1.2) H := by rw [← ht]; exact hB.1
  replace hD := hD0 (q1.2)
  clear hB hF
  refine lv_if_eq (tgt := 22) hx hb dX5_typeOf_5 (by decide) (fun hc => ?_) (fun hc => ?_)
  · replace h := ip hc h
    refine lv_iconst (v := (-1)) hx hb dX5_typeOf_22 (by decide) ?_
    obtain rfl := Option.some.inj h
    exact W.iret hx hb hr (fun t ht hW => ⟨⟨_, (), rfl, rfl, ⟨by rw [ht]; exact hP, va_K.moved hW.alike hK, hD⟩⟩, hS.F ht⟩) hS.2.2 dX5_typeOf_23
  · replace h := iq hc h
    refine lv_aload_n hx hb dX5_typeOf_8 rfl (lv_at hl 0 rfl) ?_
    refine va_get (D := (dC, dI)) (ci := 5) (C := RX5) (T := TX5) (N := 17) hx hb hts inlX5 hown hK hP 4 gA_4 rfl 10 (by decide) (hts (.fieldLink RX5 44 "ShapeReader$Shapes" "fieldTypes" "[I") mw_14_27) (fun _ h9 => h9) rfl dX5_typeOf_9 ?_
    refine lv_iload_n hx hb dX5_typeOf_12 rfl (lv_at hl 1 rfl) ?_
    refine lv_bipush (v := 8) hx hb dX5_typeOf_13 (by decide) ?_
    refine lv_imul hx hb dX5_typeOf_15 ?_
    refine lv_iload_n hx hb dX5_typeOf_16 rfl (lv_at hl 2 rfl) ?_
    refine lv_iadd hx hb dX5_typeOf_17 ?_
    obtain ⟨hg3, h⟩ := ig h
    refine va_iald hx hb hK hP 13 10 gA_13 yA_13 (vp_in_iff.mpr hg3) dX5_typeOf_18 ?_
    refine lv_goto (tgt := 23) hx hb dX5_typeOf_19 (by decide) ?_
    obtain rfl := Option.some.inj h
    exact W.iret hx hb hr (fun t ht hW => ⟨⟨_, (), rfl, rfl, ⟨by rw [ht]; exact hP, va_K.moved hW.alike hK, hD⟩⟩, hS.F ht⟩) hS.2.2 dX5_typeOf_23

theorem s_X5_typeOf_4 {l : Launch} {dC : Nat → ClassId} {dI : Nat → Nat → Nat} {a : Nat → Nat} {k : Nat → ClassId} {sz : Nat} {p0 : Int32} {p1 : Int32} {σ : ST} {q : Int32 × ST} (h : f_X5_typeOf 4 p0 p1 σ = some q) : Met l yX5_typeOf (.code yX5_typeOf cX5_typeOf 3 (some .int) :: pw) ({ frames := 1, cells := 0, slots := 0, locals := 21 } : Room) (va_Pc [.ref (a 4), .int p0, .int p1] (vPre dC dI (wA a k σ) (tA k) sz)) (qAi dC dI a k (va_A (wA a k σ) sz) q) 0 0 (va_A (wA a k σ) sz) := metA (fun A => qAi dC dI a k A q) (plainFor_of_name (by decide)) (Nat.le_of_ble_eq_true rfl) (fun _ _ _ _ _ _ _ _ hC => b_X5_typeOf_e_4 hC h)

set_option maxRecDepth 100000 in
set_option maxHeartbeats 4000000 in
theorem b_X5_typeOf_e_20 {p : Program} {l : Launch} {e : Env} {s : State} {m : MethodId} {args : Array Value} {below : List Frame} {meth : Method} {c : Code} {dC : Nat → ClassId} {dI : Nat → Nat → Nat} {a : Nat → Nat} {k : Nat → ClassId} {A : Nat → Prop} {q : Int32 × ST} (hC : CxA p s m args meth c dC dI k A cX5_typeOf RX5 (some .int) 3)   {p0 : Int32} {p1 : Int32} {σ : ST} (h : f_X5_typeOf 20 p0 p1 σ = some q) : GoA p l e ({ frames := 1, cells := 0, slots := 0, locals := 21 } : Room) s m args below meth c (MQ below (qAi dC dI a k A q) args s 0 0 A) dC dI a k A 3 0 σ (lv_args 0 [.ref (a 20), .int p0, .int p1]) [] := by
  have hC0 := hC
  obtain ⟨hx, hb, hr, hml, hown, hts, hlocks, hA, hN, hK⟩ := hC0
  intro H locs ls hP hD hS hl
  have hD0 : ∀ σ1 : ST, va_D A (wA a k σ1) := fun σ1 => wA_D hD
  replace hl : lv_has ls 3 [(0, .ref (a 20)), (1, .int p0), (2, .int p1)] := hl
  unfold f_X5_typeOf at h
  refine lv_iload_n hx hb dX5_typeOf_0 rfl (lv_at hl 1 rfl) ?_
  refine lv_iload_n hx hb dX5_typeOf_1 rfl (lv_at hl 2 rfl) ?_
  obtain ⟨q1, hc, h⟩ := ib h
  have hF := va_frees hD hS hA
  refine va_calli (va_runS (As := [.int p0, .int p1]) (rest := []) ⟨hx, hb, hml, hown, hts⟩ (s_X5_isFieldOf hc) (va_cwS 2 hts (gS mw_15_7 mw_15_8 mw_0_9 mw_49_25) rfl rfl rfl (by decide +kernel) ⟨(Nat.le_of_ble_eq_true rfl), (Nat.le_of_ble_eq_true rfl)⟩) (vS hK hP hD hN) rfl rfl hl.1 rfl (lv_room (Nat.le_of_ble_eq_true rfl)) dX5_typeOf_2 ⟨(Nat.le_of_ble_eq_true rfl), (Nat.le_of_ble_eq_true rfl)⟩) hS (fun q _ h => hF q h) hF (fun r2 u t H locs ht hvm hw hB _ _ hS => ?_)
  obtain rfl : r2 = q1.1 := hw
  replace hP : va_P (dC, dI) vwCl (wA a k q1.2) H := by rw [← ht]; exact hB.1
  replace hD := hD0 (q1.2)
  clear hB hF
  refine lv_if_eq (tgt := 22) hx hb dX5_typeOf_5 (by decide) (fun hc => ?_) (fun hc => ?_)
  · replace h := ip hc h
    refine lv_iconst (v := (-1)) hx hb dX5_typeOf_22 (by decide) ?_
    obtain rfl := Option.some.inj h
    exact W.iret hx hb hr (fun t ht hW => ⟨⟨_, (), rfl, rfl, ⟨by rw [ht]; exact hP, va_K.moved hW.alike hK, hD⟩⟩, hS.F ht⟩) hS.2.2 dX5_typeOf_23
  · replace h := iq hc h
    refine lv_aload_n hx hb dX5_typeOf_8 rfl (lv_at hl 0 rfl) ?_
    refine va_get (D := (dC, dI)) (ci := 5) (C := RX5) (T := TX5) (N := 17) hx hb hts inlX5 hown hK hP 20 gA_20 rfl 10 (by decide) (hts (.fieldLink RX5 44 "ShapeReader$Shapes" "fieldTypes" "[I") mw_14_27) (fun _ h9 => h9) rfl dX5_typeOf_9 ?_
    refine lv_iload_n hx hb dX5_typeOf_12 rfl (lv_at hl 1 rfl) ?_
    refine lv_bipush (v := 8) hx hb dX5_typeOf_13 (by decide) ?_
    refine lv_imul hx hb dX5_typeOf_15 ?_
    refine lv_iload_n hx hb dX5_typeOf_16 rfl (lv_at hl 2 rfl) ?_
    refine lv_iadd hx hb dX5_typeOf_17 ?_
    obtain ⟨hg3, h⟩ := ig h
    refine va_iald hx hb hK hP 29 25 gA_29 yA_29 (vp_in_iff.mpr hg3) dX5_typeOf_18 ?_
    refine lv_goto (tgt := 23) hx hb dX5_typeOf_19 (by decide) ?_
    obtain rfl := Option.some.inj h
    exact W.iret hx hb hr (fun t ht hW => ⟨⟨_, (), rfl, rfl, ⟨by rw [ht]; exact hP, va_K.moved hW.alike hK, hD⟩⟩, hS.F ht⟩) hS.2.2 dX5_typeOf_23

theorem s_X5_typeOf_20 {l : Launch} {dC : Nat → ClassId} {dI : Nat → Nat → Nat} {a : Nat → Nat} {k : Nat → ClassId} {sz : Nat} {p0 : Int32} {p1 : Int32} {σ : ST} {q : Int32 × ST} (h : f_X5_typeOf 20 p0 p1 σ = some q) : Met l yX5_typeOf (.code yX5_typeOf cX5_typeOf 3 (some .int) :: pw) ({ frames := 1, cells := 0, slots := 0, locals := 21 } : Room) (va_Pc [.ref (a 20), .int p0, .int p1] (vPre dC dI (wA a k σ) (tA k) sz)) (qAi dC dI a k (va_A (wA a k σ) sz) q) 0 0 (va_A (wA a k σ) sz) := metA (fun A => qAi dC dI a k A q) (plainFor_of_name (by decide)) (Nat.le_of_ble_eq_true rfl) (fun _ _ _ _ _ _ _ _ hC => b_X5_typeOf_e_20 hC h)
