theorem dX0_collectMisses_0 : decode cX0_collectMisses 0 = .ok (.iload_n 1, 1) := by decide +kernel
theorem dX0_collectMisses_1 : decode cX0_collectMisses 1 = .ok (.iload_n 2, 1) := by decide +kernel
theorem dX0_collectMisses_2 : decode cX0_collectMisses 2 = .ok (.invokestatic 67, 3) := by decide +kernel
theorem dX0_collectMisses_5 : decode cX0_collectMisses 5 = .ok (.istore_n 3, 1) := by decide +kernel
theorem dX0_collectMisses_6 : decode cX0_collectMisses 6 = .ok (.aload_n 0, 1) := by decide +kernel
theorem dX0_collectMisses_7 : decode cX0_collectMisses 7 = .ok (.getfield 26, 3) := by decide +kernel
theorem dX0_collectMisses_10 : decode cX0_collectMisses 10 = .ok (.iload_n 3, 1) := by decide +kernel
theorem dX0_collectMisses_11 : decode cX0_collectMisses 11 = .ok (.if_icmp .ne 4, 3) := by decide +kernel
theorem dX0_collectMisses_14 : decode cX0_collectMisses 14 = .ok (.return_, 1) := by decide +kernel
theorem dX0_collectMisses_15 : decode cX0_collectMisses 15 = .ok (.aload_n 0, 1) := by decide +kernel
theorem dX0_collectMisses_16 : decode cX0_collectMisses 16 = .ok (.iload_n 3, 1) := by decide +kernel
theorem dX0_collectMisses_17 : decode cX0_collectMisses 17 = .ok (.putfield 26, 3) := by decide +kernel
theorem dX0_collectMisses_20 : decode cX0_collectMisses 20 = .ok (.aload_n 0, 1) := by decide +kernel
theorem dX0_collectMisses_21 : decode cX0_collectMisses 21 = .ok (.iconst 0, 1) := by decide +kernel
theorem dX0_collectMisses_22 : decode cX0_collectMisses 22 = .ok (.putfield 30, 3) := by decide +kernel
theorem dX0_collectMisses_25 : decode cX0_collectMisses 25 = .ok (.aload_n 0, 1) := by decide +kernel
theorem dX0_collectMisses_26 : decode cX0_collectMisses 26 = .ok (.iconst 0, 1) := by decide +kernel
theorem dX0_collectMisses_27 : decode cX0_collectMisses 27 = .ok (.putfield 45, 3) := by decide +kernel
theorem dX0_collectMisses_30 : decode cX0_collectMisses 30 = .ok (.aload_n 0, 1) := by decide +kernel
theorem dX0_collectMisses_31 : decode cX0_collectMisses 31 = .ok (.lconst 0, 1) := by decide +kernel
theorem dX0_collectMisses_32 : decode cX0_collectMisses 32 = .ok (.putfield 48, 3) := by decide +kernel
theorem dX0_collectMisses_35 : decode cX0_collectMisses 35 = .ok (.aload_n 0, 1) := by decide +kernel
theorem dX0_collectMisses_36 : decode cX0_collectMisses 36 = .ok (.aload_n 0, 1) := by decide +kernel
theorem dX0_collectMisses_37 : decode cX0_collectMisses 37 = .ok (.getfield 51, 3) := by decide +kernel
theorem dX0_collectMisses_40 : decode cX0_collectMisses 40 = .ok (.iload_n 1, 1) := by decide +kernel
theorem dX0_collectMisses_41 : decode cX0_collectMisses 41 = .ok (.invokevirtual 139, 3) := by decide +kernel
theorem dX0_collectMisses_44 : decode cX0_collectMisses 44 = .ok (.aload_n 0, 1) := by decide +kernel
theorem dX0_collectMisses_45 : decode cX0_collectMisses 45 = .ok (.getfield 51, 3) := by decide +kernel
theorem dX0_collectMisses_48 : decode cX0_collectMisses 48 = .ok (.iload_n 2, 1) := by decide +kernel
theorem dX0_collectMisses_49 : decode cX0_collectMisses 49 = .ok (.invokevirtual 139, 3) := by decide +kernel
theorem dX0_collectMisses_52 : decode cX0_collectMisses 52 = .ok (.iconst 0, 1) := by decide +kernel
theorem dX0_collectMisses_53 : decode cX0_collectMisses 53 = .ok (.invokevirtual 142, 3) := by decide +kernel
theorem dX0_collectMisses_56 : decode cX0_collectMisses 56 = .ok (.return_, 1) := by decide +kernel
theorem dX0_fieldsFit_0 : decode cX0_fieldsFit 0 = .ok (.iconst 0, 1) := by decide +kernel
theorem dX0_fieldsFit_1 : decode cX0_fieldsFit 1 = .ok (.istore_n 3, 1) := by decide +kernel
theorem dX0_fieldsFit_2 : decode cX0_fieldsFit 2 = .ok (.iload_n 3, 1) := by decide +kernel
theorem dX0_fieldsFit_3 : decode cX0_fieldsFit 3 = .ok (.aload_n 0, 1) := by decide +kernel
theorem dX0_fieldsFit_4 : decode cX0_fieldsFit 4 = .ok (.getfield 51, 3) := by decide +kernel
theorem dX0_fieldsFit_7 : decode cX0_fieldsFit 7 = .ok (.iload_n 2, 1) := by decide +kernel
theorem dX0_fieldsFit_8 : decode cX0_fieldsFit 8 = .ok (.invokevirtual 97, 3) := by decide +kernel
theorem dX0_fieldsFit_11 : decode cX0_fieldsFit 11 = .ok (.if_icmp .ge 72, 3) := by decide +kernel
theorem dX0_fieldsFit_14 : decode cX0_fieldsFit 14 = .ok (.aload_n 0, 1) := by decide +kernel
theorem dX0_fieldsFit_15 : decode cX0_fieldsFit 15 = .ok (.getfield 51, 3) := by decide +kernel
theorem dX0_fieldsFit_18 : decode cX0_fieldsFit 18 = .ok (.iload_n 1, 1) := by decide +kernel
theorem dX0_fieldsFit_19 : decode cX0_fieldsFit 19 = .ok (.iload_n 2, 1) := by decide +kernel
theorem dX0_fieldsFit_20 : decode cX0_fieldsFit 20 = .ok (.iload_n 3, 1) := by decide +kernel
theorem dX0_fieldsFit_21 : decode cX0_fieldsFit 21 = .ok (.invokevirtual 100, 3) := by decide +kernel
theorem dX0_fieldsFit_24 : decode cX0_fieldsFit 24 = .ok (.istore 4, 2) := by decide +kernel
theorem dX0_fieldsFit_26 : decode cX0_fieldsFit 26 = .ok (.iload 4, 2) := by decide +kernel
theorem dX0_fieldsFit_28 : decode cX0_fieldsFit 28 = .ok (.iconst (-1), 1) := by decide +kernel
theorem dX0_fieldsFit_29 : decode cX0_fieldsFit 29 = .ok (.if_icmp .ne 15, 3) := by decide +kernel
theorem dX0_fieldsFit_32 : decode cX0_fieldsFit 32 = .ok (.aload_n 0, 1) := by decide +kernel
theorem dX0_fieldsFit_33 : decode cX0_fieldsFit 33 = .ok (.getfield 51, 3) := by decide +kernel
theorem dX0_fieldsFit_36 : decode cX0_fieldsFit 36 = .ok (.iload_n 2, 1) := by decide +kernel
theorem dX0_fieldsFit_37 : decode cX0_fieldsFit 37 = .ok (.iload_n 3, 1) := by decide +kernel
theorem dX0_fieldsFit_38 : decode cX0_fieldsFit 38 = .ok (.invokevirtual 104, 3) := by decide +kernel
theorem dX0_fieldsFit_41 : decode cX0_fieldsFit 41 = .ok (.goto 27, 3) := by decide +kernel
theorem dX0_fieldsFit_44 : decode cX0_fieldsFit 44 = .ok (.aload_n 0, 1) := by decide +kernel
theorem dX0_fieldsFit_45 : decode cX0_fieldsFit 45 = .ok (.aload_n 0, 1) := by decide +kernel
theorem dX0_fieldsFit_46 : decode cX0_fieldsFit 46 = .ok (.getfield 51, 3) := by decide +kernel
theorem dX0_fieldsFit_49 : decode cX0_fieldsFit 49 = .ok (.iload_n 1, 1) := by decide +kernel
theorem dX0_fieldsFit_50 : decode cX0_fieldsFit 50 = .ok (.iload 4, 2) := by decide +kernel
theorem dX0_fieldsFit_52 : decode cX0_fieldsFit 52 = .ok (.invokevirtual 107, 3) := by decide +kernel
theorem dX0_fieldsFit_55 : decode cX0_fieldsFit 55 = .ok (.aload_n 0, 1) := by decide +kernel
theorem dX0_fieldsFit_56 : decode cX0_fieldsFit 56 = .ok (.getfield 51, 3) := by decide +kernel
theorem dX0_fieldsFit_59 : decode cX0_fieldsFit 59 = .ok (.iload_n 2, 1) := by decide +kernel
theorem dX0_fieldsFit_60 : decode cX0_fieldsFit 60 = .ok (.iload_n 3, 1) := by decide +kernel
theorem dX0_fieldsFit_61 : decode cX0_fieldsFit 61 = .ok (.invokevirtual 107, 3) := by decide +kernel
theorem dX0_fieldsFit_64 : decode cX0_fieldsFit 64 = .ok (.iconst 0, 1) := by decide +kernel
theorem dX0_fieldsFit_65 : decode cX0_fieldsFit 65 = .ok (.invokevirtual 110, 3) := by decide +kernel
theorem dX0_fieldsFit_68 : decode cX0_fieldsFit 68 = .ok (.istore 5, 2) := by decide +kernel
theorem dX0_fieldsFit_70 : decode cX0_fieldsFit 70 = .ok (.iload 5, 2) := by decide +kernel
theorem dX0_fieldsFit_72 : decode cX0_fieldsFit 72 = .ok (.ifCond .ne 5, 3) := by decide +kernel
theorem dX0_fieldsFit_75 : decode cX0_fieldsFit 75 = .ok (.iconst 0, 1) := by decide +kernel
theorem dX0_fieldsFit_76 : decode cX0_fieldsFit 76 = .ok (.ireturn, 1) := by decide +kernel
theorem dX0_fieldsFit_77 : decode cX0_fieldsFit 77 = .ok (.iinc 3 1, 3) := by decide +kernel
theorem dX0_fieldsFit_80 : decode cX0_fieldsFit 80 = .ok (.goto (-78), 3) := by decide +kernel
theorem dX0_fieldsFit_83 : decode cX0_fieldsFit 83 = .ok (.iconst 1, 1) := by decide +kernel
theorem dX0_fieldsFit_84 : decode cX0_fieldsFit 84 = .ok (.ireturn, 1) := by decide +kernel
theorem dX0_relate_0 : decode cX0_relate 0 = .ok (.aload_n 0, 1) := by decide +kernel
theorem dX0_relate_1 : decode cX0_relate 1 = .ok (.lconst 0, 1) := by decide +kernel
theorem dX0_relate_2 : decode cX0_relate 2 = .ok (.putfield 23, 3) := by decide +kernel
theorem dX0_relate_5 : decode cX0_relate 5 = .ok (.iconst 0, 1) := by decide +kernel
theorem dX0_relate_6 : decode cX0_relate 6 = .ok (.istore_n 3, 1) := by decide +kernel
theorem dX0_relate_7 : decode cX0_relate 7 = .ok (.iload_n 3, 1) := by decide +kernel
theorem dX0_relate_8 : decode cX0_relate 8 = .ok (.aload_n 0, 1) := by decide +kernel
theorem dX0_relate_9 : decode cX0_relate 9 = .ok (.getfield 51, 3) := by decide +kernel
theorem dX0_relate_12 : decode cX0_relate 12 = .ok (.iload_n 1, 1) := by decide +kernel
theorem dX0_relate_13 : decode cX0_relate 13 = .ok (.invokevirtual 74, 3) := by decide +kernel
theorem dX0_relate_16 : decode cX0_relate 16 = .ok (.if_icmp .ge 66, 3) := by decide +kernel
theorem dX0_relate_19 : decode cX0_relate 19 = .ok (.iconst 0, 1) := by decide +kernel
theorem dX0_relate_20 : decode cX0_relate 20 = .ok (.istore 4, 2) := by decide +kernel
theorem dX0_relate_22 : decode cX0_relate 22 = .ok (.iload 4, 2) := by decide +kernel
theorem dX0_relate_24 : decode cX0_relate 24 = .ok (.aload_n 0, 1) := by decide +kernel
theorem dX0_relate_25 : decode cX0_relate 25 = .ok (.getfield 51, 3) := by decide +kernel
theorem dX0_relate_28 : decode cX0_relate 28 = .ok (.iload_n 2, 1) := by decide +kernel
theorem dX0_relate_29 : decode cX0_relate 29 = .ok (.invokevirtual 74, 3) := by decide +kernel
theorem dX0_relate_32 : decode cX0_relate 32 = .ok (.if_icmp .ge 44, 3) := by decide +kernel
theorem dX0_relate_35 : decode cX0_relate 35 = .ok (.aload_n 0, 1) := by decide +kernel
theorem dX0_relate_36 : decode cX0_relate 36 = .ok (.iload_n 1, 1) := by decide +kernel
theorem dX0_relate_37 : decode cX0_relate 37 = .ok (.bipush 6, 2) := by decide +kernel
theorem dX0_relate_39 : decode cX0_relate 39 = .ok (.imul, 1) := by decide +kernel
theorem dX0_relate_40 : decode cX0_relate 40 = .ok (.iload_n 3, 1) := by decide +kernel
theorem dX0_relate_41 : decode cX0_relate 41 = .ok (.iadd, 1) := by decide +kernel
theorem dX0_relate_42 : decode cX0_relate 42 = .ok (.iload_n 2, 1) := by decide +kernel
theorem dX0_relate_43 : decode cX0_relate 43 = .ok (.bipush 6, 2) := by decide +kernel
theorem dX0_relate_45 : decode cX0_relate 45 = .ok (.imul, 1) := by decide +kernel
theorem dX0_relate_46 : decode cX0_relate 46 = .ok (.iload 4, 2) := by decide +kernel
theorem dX0_relate_48 : decode cX0_relate 48 = .ok (.iadd, 1) := by decide +kernel
theorem dX0_relate_49 : decode cX0_relate 49 = .ok (.invokevirtual 80, 3) := by decide +kernel
theorem dX0_relate_52 : decode cX0_relate 52 = .ok (.ifCond .eq 18, 3) := by decide +kernel
theorem dX0_relate_55 : decode cX0_relate 55 = .ok (.aload_n 0, 1) := by decide +kernel
theorem dX0_relate_56 : decode cX0_relate 56 = .ok (.dup, 1) := by decide +kernel
theorem dX0_relate_57 : decode cX0_relate 57 = .ok (.getfield 23, 3) := by decide +kernel
theorem dX0_relate_60 : decode cX0_relate 60 = .ok (.iload_n 3, 1) := by decide +kernel
theorem dX0_relate_61 : decode cX0_relate 61 = .ok (.iload 4, 2) := by decide +kernel
theorem dX0_relate_63 : decode cX0_relate 63 = .ok (.invokestatic 84, 3) := by decide +kernel
theorem dX0_relate_66 : decode cX0_relate 66 = .ok (.lor, 1) := by decide +kernel
theorem dX0_relate_67 : decode cX0_relate 67 = .ok (.putfield 23, 3) := by decide +kernel
theorem dX0_relate_70 : decode cX0_relate 70 = .ok (.iinc 4 1, 3) := by decide +kernel
theorem dX0_relate_73 : decode cX0_relate 73 = .ok (.goto (-51), 3) := by decide +kernel
theorem dX0_relate_76 : decode cX0_relate 76 = .ok (.iinc 3 1, 3) := by decide +kernel
theorem dX0_relate_79 : decode cX0_relate 79 = .ok (.goto (-72), 3) := by decide +kernel
theorem dX0_relate_82 : decode cX0_relate 82 = .ok (.lconst 0, 1) := by decide +kernel
theorem dX0_relate_83 : decode cX0_relate 83 = .ok (.lstore_n 3, 1) := by decide +kernel
theorem dX0_relate_84 : decode cX0_relate 84 = .ok (.iconst 0, 1) := by decide +kernel
theorem dX0_relate_85 : decode cX0_relate 85 = .ok (.istore 5, 2) := by decide +kernel
theorem dX0_relate_87 : decode cX0_relate 87 = .ok (.iload 5, 2) := by decide +kernel
theorem dX0_relate_89 : decode cX0_relate 89 = .ok (.bipush 36, 2) := by decide +kernel
theorem dX0_relate_91 : decode cX0_relate 91 = .ok (.if_icmp .gt 113, 3) := by decide +kernel
theorem dX0_relate_94 : decode cX0_relate 94 = .ok (.aload_n 0, 1) := by decide +kernel
theorem dX0_relate_95 : decode cX0_relate 95 = .ok (.getfield 23, 3) := by decide +kernel
theorem dX0_relate_98 : decode cX0_relate 98 = .ok (.lload_n 3, 1) := by decide +kernel
theorem dX0_relate_99 : decode cX0_relate 99 = .ok (.lcmp, 1) := by decide +kernel
theorem dX0_relate_100 : decode cX0_relate 100 = .ok (.ifCond .eq 104, 3) := by decide +kernel
theorem dX0_relate_103 : decode cX0_relate 103 = .ok (.aload_n 0, 1) := by decide +kernel
theorem dX0_relate_104 : decode cX0_relate 104 = .ok (.getfield 23, 3) := by decide +kernel
theorem dX0_relate_107 : decode cX0_relate 107 = .ok (.lstore_n 3, 1) := by decide +kernel
theorem dX0_relate_108 : decode cX0_relate 108 = .ok (.iconst 0, 1) := by decide +kernel
theorem dX0_relate_109 : decode cX0_relate 109 = .ok (.istore 6, 2) := by decide +kernel
theorem dX0_relate_111 : decode cX0_relate 111 = .ok (.iload 6, 2) := by decide +kernel
theorem dX0_relate_113 : decode cX0_relate 113 = .ok (.bipush 6, 2) := by decide +kernel
theorem dX0_relate_115 : decode cX0_relate 115 = .ok (.if_icmp .ge 83, 3) := by decide +kernel
theorem dX0_relate_118 : decode cX0_relate 118 = .ok (.iconst 0, 1) := by decide +kernel
theorem dX0_relate_119 : decode cX0_relate 119 = .ok (.istore 7, 2) := by decide +kernel
theorem dX0_relate_121 : decode cX0_relate 121 = .ok (.iload 7, 2) := by decide +kernel
theorem dX0_relate_123 : decode cX0_relate 123 = .ok (.bipush 6, 2) := by decide +kernel
theorem dX0_relate_125 : decode cX0_relate 125 = .ok (.if_icmp .ge 67, 3) := by decide +kernel
theorem dX0_relate_128 : decode cX0_relate 128 = .ok (.aload_n 0, 1) := by decide +kernel
theorem dX0_relate_129 : decode cX0_relate 129 = .ok (.getfield 23, 3) := by decide +kernel
theorem dX0_relate_132 : decode cX0_relate 132 = .ok (.iload 6, 2) := by decide +kernel
theorem dX0_relate_134 : decode cX0_relate 134 = .ok (.iload 7, 2) := by decide +kernel
theorem dX0_relate_136 : decode cX0_relate 136 = .ok (.invokestatic 84, 3) := by decide +kernel
theorem dX0_relate_139 : decode cX0_relate 139 = .ok (.land, 1) := by decide +kernel
theorem dX0_relate_140 : decode cX0_relate 140 = .ok (.lconst 0, 1) := by decide +kernel
theorem dX0_relate_141 : decode cX0_relate 141 = .ok (.lcmp, 1) := by decide +kernel
theorem dX0_relate_142 : decode cX0_relate 142 = .ok (.ifCond .eq 44, 3) := by decide +kernel
theorem dX0_relate_145 : decode cX0_relate 145 = .ok (.aload_n 0, 1) := by decide +kernel
theorem dX0_relate_146 : decode cX0_relate 146 = .ok (.iload_n 1, 1) := by decide +kernel
theorem dX0_relate_147 : decode cX0_relate 147 = .ok (.bipush 6, 2) := by decide +kernel
theorem dX0_relate_149 : decode cX0_relate 149 = .ok (.imul, 1) := by decide +kernel
theorem dX0_relate_150 : decode cX0_relate 150 = .ok (.iload 6, 2) := by decide +kernel
theorem dX0_relate_152 : decode cX0_relate 152 = .ok (.iadd, 1) := by decide +kernel
theorem dX0_relate_153 : decode cX0_relate 153 = .ok (.iload_n 2, 1) := by decide +kernel
theorem dX0_relate_154 : decode cX0_relate 154 = .ok (.bipush 6, 2) := by decide +kernel
theorem dX0_relate_156 : decode cX0_relate 156 = .ok (.imul, 1) := by decide +kernel
theorem dX0_relate_157 : decode cX0_relate 157 = .ok (.iload 7, 2) := by decide +kernel
theorem dX0_relate_159 : decode cX0_relate 159 = .ok (.iadd, 1) := by decide +kernel
theorem dX0_relate_160 : decode cX0_relate 160 = .ok (.invokevirtual 88, 3) := by decide +kernel
theorem dX0_relate_163 : decode cX0_relate 163 = .ok (.ifCond .ne 23, 3) := by decide +kernel
theorem dX0_relate_166 : decode cX0_relate 166 = .ok (.aload_n 0, 1) := by decide +kernel
theorem dX0_relate_167 : decode cX0_relate 167 = .ok (.dup, 1) := by decide +kernel
theorem dX0_relate_168 : decode cX0_relate 168 = .ok (.getfield 23, 3) := by decide +kernel
theorem dX0_relate_171 : decode cX0_relate 171 = .ok (.iload 6, 2) := by decide +kernel
theorem dX0_relate_173 : decode cX0_relate 173 = .ok (.iload 7, 2) := by decide +kernel
theorem dX0_relate_175 : decode cX0_relate 175 = .ok (.invokestatic 84, 3) := by decide +kernel
theorem dX0_relate_178 : decode cX0_relate 178 = .ok (.ldc2_w 91, 3) := by decide +kernel
theorem dX0_relate_181 : decode cX0_relate 181 = .ok (.lxor, 1) := by decide +kernel
theorem dX0_relate_182 : decode cX0_relate 182 = .ok (.land, 1) := by decide +kernel
theorem dX0_relate_183 : decode cX0_relate 183 = .ok (.putfield 23, 3) := by decide +kernel
theorem dX0_relate_186 : decode cX0_relate 186 = .ok (.iinc 7 1, 3) := by decide +kernel
theorem dX0_relate_189 : decode cX0_relate 189 = .ok (.goto (-68), 3) := by decide +kernel
theorem dX0_relate_192 : decode cX0_relate 192 = .ok (.iinc 6 1, 3) := by decide +kernel
theorem dX0_relate_195 : decode cX0_relate 195 = .ok (.goto (-84), 3) := by decide +kernel
theorem dX0_relate_198 : decode cX0_relate 198 = .ok (.iinc 5 1, 3) := by decide +kernel
theorem dX0_relate_201 : decode cX0_relate 201 = .ok (.goto (-114), 3) := by decide +kernel
theorem dX0_relate_204 : decode cX0_relate 204 = .ok (.return_, 1) := by decide +kernel
theorem dX5_recordsOf_0 : decode cX5_recordsOf 0 = .ok (.iload_n 1, 1) := by decide +kernel
theorem dX5_recordsOf_1 : decode cX5_recordsOf 1 = .ok (.ifCond .lt 18, 3) := by decide +kernel
theorem dX5_recordsOf_4 : decode cX5_recordsOf 4 = .ok (.iload_n 1, 1) := by decide +kernel
theorem dX5_recordsOf_5 : decode cX5_recordsOf 5 = .ok (.bipush 6, 2) := by decide +kernel
theorem dX5_recordsOf_7 : decode cX5_recordsOf 7 = .ok (.if_icmp .ge 12, 3) := by decide +kernel
theorem dX5_recordsOf_10 : decode cX5_recordsOf 10 = .ok (.aload_n 0, 1) := by decide +kernel
theorem dX5_recordsOf_11 : decode cX5_recordsOf 11 = .ok (.getfield 18, 3) := by decide +kernel
theorem dX5_recordsOf_14 : decode cX5_recordsOf 14 = .ok (.iload_n 1, 1) := by decide +kernel
theorem dX5_recordsOf_15 : decode cX5_recordsOf 15 = .ok (.iaload, 1) := by decide +kernel
theorem dX5_recordsOf_16 : decode cX5_recordsOf 16 = .ok (.goto 4, 3) := by decide +kernel
theorem dX5_recordsOf_19 : decode cX5_recordsOf 19 = .ok (.iconst 0, 1) := by decide +kernel
theorem dX5_recordsOf_20 : decode cX5_recordsOf 20 = .ok (.ireturn, 1) := by decide +kernel
theorem dX5_rootType_0 : decode cX5_rootType 0 = .ok (.iload_n 1, 1) := by decide +kernel
theorem dX5_rootType_1 : decode cX5_rootType 1 = .ok (.ifCond .lt 18, 3) := by decide +kernel
theorem dX5_rootType_4 : decode cX5_rootType 4 = .ok (.iload_n 1, 1) := by decide +kernel
theorem dX5_rootType_5 : decode cX5_rootType 5 = .ok (.bipush 6, 2) := by decide +kernel
theorem dX5_rootType_7 : decode cX5_rootType 7 = .ok (.if_icmp .ge 12, 3) := by decide +kernel
theorem dX5_rootType_10 : decode cX5_rootType 10 = .ok (.aload_n 0, 1) := by decide +kernel
theorem dX5_rootType_11 : decode cX5_rootType 11 = .ok (.getfield 22, 3) := by decide +kernel
theorem dX5_rootType_14 : decode cX5_rootType 14 = .ok (.iload_n 1, 1) := by decide +kernel
theorem dX5_rootType_15 : decode cX5_rootType 15 = .ok (.iaload, 1) := by decide +kernel
theorem dX5_rootType_16 : decode cX5_rootType 16 = .ok (.goto 4, 3) := by decide +kernel
theorem dX5_rootType_19 : decode cX5_rootType 19 = .ok (.iconst (-1), 1) := by decide +kernel
theorem dX5_rootType_20 : decode cX5_rootType 20 = .ok (.ireturn, 1) := by decide +kernel
def f_X0_walk_190 (r_X0_walk : Int32 → Int32 → Int32 → ST → Option (ST)) (r_X0_walkBranches : Int32 → Int32 → Int32 → ST → Option (ST)) (r_X0_walkFields : Int32 → Int32 → Int32 → ST → Option (ST)) (x1 : Int32) (x5 : Int32) (σ : ST) : Option (ST) := (f_X0_fits  x1 x5 σ).bind fun q1 => if q1.1 = 0 then ((f_X0_addMiss  2 q1.2).bind fun q3 => some q3) else (some q1.2)
def f_X0_walk_146 (r_X0_walk : Int32 → Int32 → Int32 → ST → Option (ST)) (r_X0_walkBranches : Int32 → Int32 → Int32 → ST → Option (ST)) (r_X0_walkFields : Int32 → Int32 → Int32 → ST → Option (ST)) (x1 : Int32) (x3 : Int32) (x4 : Int32) (x5 : Int32) (x6 : Int32) (x7 : Int32) (x8 : Int32) (σ : ST) : Option (ST) := if x4 = 6 then (if x6 = 6 then ((f_X0_step  100 σ).bind fun q1 => (r_X0_walk  x7 x8 (x3 + 1) q1).bind fun q3 => some (stI q3 41 11 ((q3.1 41 11) - 1))) else (f_X0_walk_190 r_X0_walk r_X0_walkBranches r_X0_walkFields x1 x5 σ)) else (f_X0_walk_190 r_X0_walk r_X0_walkBranches r_X0_walkFields x1 x5 σ)
def f_X0_walk_77 (r_X0_walk : Int32 → Int32 → Int32 → ST → Option (ST)) (r_X0_walkBranches : Int32 → Int32 → Int32 → ST → Option (ST)) (r_X0_walkFields : Int32 → Int32 → Int32 → ST → Option (ST)) (x1 : Int32) (x3 : Int32) (x4 : Int32) (x5 : Int32) (σ : ST) : Option (ST) := (f_X5_sortOf 4 x5 σ).bind fun q1 => (f_X5_innerOf 4 x1 q1.2).bind fun q3 => (f_X5_innerOf 4 x5 q3.2).bind fun q5 => if x4 = 7 then (if q1.1 = 7 then ((f_X0_mayPair  q3.1 q5.1 q5.2).bind fun q7 => if q7.1 = 0 then (f_X0_walk_146 r_X0_walk r_X0_walkBranches r_X0_walkFields x1 x3 x4 x5 q1.1 q3.1 q5.1 q7.2) else ((r_X0_walkFields  q3.1 q5.1 x3 q7.2).bind fun q9 => some q9)) else (f_X0_walk_146 r_X0_walk r_X0_walkBranches r_X0_walkFields x1 x3 x4 x5 q1.1 q3.1 q5.1 q5.2)) else (f_X0_walk_146 r_X0_walk r_X0_walkBranches r_X0_walkFields x1 x3 x4 x5 q1.1 q3.1 q5.1 q5.2)
def f_X0_walk (r_X0_walk : Int32 → Int32 → Int32 → ST → Option (ST)) (r_X0_walkBranches : Int32 → Int32 → Int32 → ST → Option (ST)) (r_X0_walkFields : Int32 → Int32 → Int32 → ST → Option (ST)) (p0 : Int32) (p1 : Int32) (p2 : Int32) (σ : ST) : Option (ST) := if 40 < p2 then (some σ) else (if (σ.1 41 6) < 20 then ((f_X5_sortOf 4 p0 σ).bind fun q1 => if q1.1 = 8 then ((r_X0_walkBranches  p0 p1 p2 q1.2).bind fun q9 => some q9) else ((f_X5_sortOf 4 p1 q1.2).bind fun q3 => if q3.1 = 8 then ((f_X0_chosen  p0 p1 q3.2).bind fun q5 => if q5.1 = (-1) then ((f_X0_addMiss  3 q5.2).bind fun q7 => some q7) else (f_X0_walk_77 r_X0_walk r_X0_walkBranches r_X0_walkFields p0 p2 q1.1 q5.1 q5.2)) else (f_X0_walk_77 r_X0_walk r_X0_walkBranches r_X0_walkFields p0 p2 q1.1 p1 q3.2))) else (some σ))

def f_X0_walkBranches_63 (r_X0_walk : Int32 → Int32 → Int32 → ST → Option (ST)) (r_X0_walkBranches : Int32 → Int32 → Int32 → ST → Option (ST)) (r_X0_walkFields : Int32 → Int32 → Int32 → ST → Option (ST)) (k13 : Int32 → Int32 → Int32 → Int32 → ST → Option (ST)) (x2 : Int32) (x3 : Int32) (x4 : Int32) (x5 : Int32) (σ : ST) : Option (ST) := (f_X5_branchAfter 4 x4 (stI σ 41 11 ((σ.1 41 11) - 1))).bind fun q1 => k13 x2 x3 q1.1 (x5 + 1) q1.2
def f_X0_walkBranches_13 (r_X0_walk : Int32 → Int32 → Int32 → ST → Option (ST)) (r_X0_walkBranches : Int32 → Int32 → Int32 → ST → Option (ST)) (r_X0_walkFields : Int32 → Int32 → Int32 → ST → Option (ST)) : Nat → Int32 → Int32 → Int32 → Int32 → ST → Option (ST)
  | 0, _, _, _, _, _ => none
  | n + 1, x2, x3, x4, x5, σ => if 4 ≤ x5 then (some σ) else (if x4 = (-1) then (some σ) else ((f_X0_step  (200 + x5) σ).bind fun q1 => (f_X0_fits  x4 x2 q1).bind fun q3 => if q3.1 = 0 then ((f_X0_addMiss  4 q3.2).bind fun q5 => f_X0_walkBranches_63 r_X0_walk r_X0_walkBranches r_X0_walkFields (f_X0_walkBranches_13 r_X0_walk r_X0_walkBranches r_X0_walkFields n) x2 x3 x4 x5 q5) else ((r_X0_walk  x4 x2 (x3 + 1) q3.2).bind fun q7 => f_X0_walkBranches_63 r_X0_walk r_X0_walkBranches r_X0_walkFields (f_X0_walkBranches_13 r_X0_walk r_X0_walkBranches r_X0_walkFields n) x2 x3 x4 x5 q7)))
def f_X0_walkBranches (r_X0_walk : Int32 → Int32 → Int32 → ST → Option (ST)) (r_X0_walkBranches : Int32 → Int32 → Int32 → ST → Option (ST)) (r_X0_walkFields : Int32 → Int32 → Int32 → ST → Option (ST)) (p0 : Int32) (p1 : Int32) (p2 : Int32) (σ : ST) : Option (ST) := (f_X5_innerOf 4 p0 σ).bind fun q1 => f_X0_walkBranches_13 r_X0_walk r_X0_walkBranches r_X0_walkFields FU p1 p2 q1.1 0 q1.2

def f_X0_walkFields_119 (r_X0_walk : Int32 → Int32 → Int32 → ST → Option (ST)) (r_X0_walkBranches : Int32 → Int32 → Int32 → ST → Option (ST)) (r_X0_walkFields : Int32 → Int32 → Int32 → ST → Option (ST)) (k33 : Int32 → Int32 → Int32 → Int32 → ST → Option (ST)) (x1 : Int32) (x2 : Int32) (x3 : Int32) (x4 : Int32) (σ : ST) : Option (ST) := k33 x1 x2 x3 (x4 + 1) (stI σ 41 11 ((σ.1 41 11) - 1))
def f_X0_walkFields_33 (r_X0_walk : Int32 → Int32 → Int32 → ST → Option (ST)) (r_X0_walkBranches : Int32 → Int32 → Int32 → ST → Option (ST)) (r_X0_walkFields : Int32 → Int32 → Int32 → ST → Option (ST)) : Nat → Int32 → Int32 → Int32 → Int32 → ST → Option (ST)
  | 0, _, _, _, _, _ => none
  | n + 1, x1, x2, x3, x4, σ => (f_X5_fieldsOf 4 x2 σ).bind fun q1 => if q1.1 ≤ x4 then (some q1.2) else ((f_X0_step  x4 q1.2).bind fun q3 => (f_X5_sourceOf 4 x1 x2 x4 q3).bind fun q5 => if q5.1 = (-1) then ((f_X5_hasElse 4 x2 x4 q5.2).bind fun q7 => if q7.1 = 0 then ((f_X0_addMiss  1 q7.2).bind fun q9 => f_X0_walkFields_119 r_X0_walk r_X0_walkBranches r_X0_walkFields (f_X0_walkFields_33 r_X0_walk r_X0_walkBranches r_X0_walkFields n) x1 x2 x3 x4 q9) else (f_X0_walkFields_119 r_X0_walk r_X0_walkBranches r_X0_walkFields (f_X0_walkFields_33 r_X0_walk r_X0_walkBranches r_X0_walkFields n) x1 x2 x3 x4 q7.2)) else ((f_X5_typeOf 4 x1 q5.1 q5.2).bind fun q11 => (f_X5_typeOf 4 x2 x4 q11.2).bind fun q13 => (r_X0_walk  q11.1 q13.1 (x3 + 1) q13.2).bind fun q15 => f_X0_walkFields_119 r_X0_walk r_X0_walkBranches r_X0_walkFields (f_X0_walkFields_33 r_X0_walk r_X0_walkBranches r_X0_walkFields n) x1 x2 x3 x4 q15))
def f_X0_walkFields (r_X0_walk : Int32 → Int32 → Int32 → ST → Option (ST)) (r_X0_walkBranches : Int32 → Int32 → Int32 → ST → Option (ST)) (r_X0_walkFields : Int32 → Int32 → Int32 → ST → Option (ST)) (p0 : Int32) (p1 : Int32) (p2 : Int32) (σ : ST) : Option (ST) := (f_X0_bitOf  p0 p1 σ).bind fun q1 => if (lg_cmp ((σ.2.1 41 12) &&& q1.1) 0) = 0 then ((f_X0_bitOf  p0 p1 q1.2).bind fun q3 => f_X0_walkFields_33 r_X0_walk r_X0_walkBranches r_X0_walkFields FU p0 p1 p2 0 (stL q3.2 41 12 ((q1.2.2.1 41 12) ||| q3.1))) else (some q1.2)

def R_X0_walk : Nat → (Int32 → Int32 → Int32 → ST → Option (ST)) × (Int32 → Int32 → Int32 → ST → Option (ST)) × (Int32 → Int32 → Int32 → ST → Option (ST))
  | 0 => ((fun _ _ _ _ => none), (fun _ _ _ _ => none), (fun _ _ _ _ => none))
  | n + 1 => (f_X0_walk ((R_X0_walk n).1) ((R_X0_walk n).2.1) ((R_X0_walk n).2.2), f_X0_walkBranches ((R_X0_walk n).1) ((R_X0_walk n).2.1) ((R_X0_walk n).2.2), f_X0_walkFields ((R_X0_walk n).1) ((R_X0_walk n).2.1) ((R_X0_walk n).2.2))
def f_T_X0_walk (p0 : Int32) (p1 : Int32) (p2 : Int32) (σ : ST) : Option (ST) := (R_X0_walk FR).1 p0 p1 p2 σ
def f_T_X0_walkBranches (p0 : Int32) (p1 : Int32) (p2 : Int32) (σ : ST) : Option (ST) := (R_X0_walk FR).2.1 p0 p1 p2 σ
def f_T_X0_walkFields (p0 : Int32) (p1 : Int32) (p2 : Int32) (σ : ST) : Option (ST) := (R_X0_walk FR).2.2 p0 p1 p2 σ

set_option maxRecDepth 100000 in
set_option maxHeartbeats 4000000 in
theorem b_X0_walk_190 {p : Program} {l : Launch} {e : Env} {s : State} {m : MethodId} {args : Array Value} {below : List Frame} {meth : Method} {c : Code} {dC : Nat → ClassId} {dI : Nat → Nat → Nat} {a : Nat → Nat} {k : Nat → ClassId} {A : Nat → Prop} {q : ST} (hC : CxA p s m args meth c dC dI k A cX0_walk RX0 none 9) {nn : Nat} {r_X0_walk : Int32 → Int32 → Int32 → ST → Option (ST)} (hr_X0_walk : ∀ {sz : Nat} {p0 : Int32} {p1 : Int32} {p2 : Int32} {σ : ST} {q : ST}, r_X0_walk  p0 p1 p2 σ = some q → Met l yX0_walk (.code yX0_walk cX0_walk 9 none :: pw) ({ frames := 164 + nn, cells := 0, slots := 0, locals := 4412 + 28 * nn } : Room) (va_Pc [.ref (a 41), .int p0, .int p1, .int p2] (vPre dC dI (wA a k σ) (tA k) sz)) (qAv dC dI a k (va_A (wA a k σ) sz) q) 0 0 (va_A (wA a k σ) sz)) {r_X0_walkBranches : Int32 → Int32 → Int32 → ST → Option (ST)} (hr_X0_walkBranches : ∀ {sz : Nat} {p0 : Int32} {p1 : Int32} {p2 : Int32} {σ : ST} {q : ST}, r_X0_walkBranches  p0 p1 p2 σ = some q → Met l yX0_walkBranches (.code yX0_walkBranches cX0_walkBranches 6 none :: pw) ({ frames := 164 + nn, cells := 0, slots := 0, locals := 4412 + 28 * nn } : Room) (va_Pc [.ref (a 41), .int p0, .int p1, .int p2] (vPre dC dI (wA a k σ) (tA k) sz)) (qAv dC dI a k (va_A (wA a k σ) sz) q) 0 0 (va_A (wA a k σ) sz)) {r_X0_walkFields : Int32 → Int32 → Int32 → ST → Option (ST)} (hr_X0_walkFields : ∀ {sz : Nat} {p0 : Int32} {p1 : Int32} {p2 : Int32} {σ : ST} {q : ST}, r_X0_walkFields  p0 p1 p2 σ = some q → Met l yX0_walkFields (.code yX0_walkFields cX0_walkFields 6 none :: pw) ({ frames := 164 + nn, cells := 0, slots := 0, locals := 4412 + 28 * nn } : Room) (va_Pc [.ref (a 41), .int p0, .int p1, .int p2] (vPre dC dI (wA a k σ) (tA k) sz)) (qAv dC dI a k (va_A (wA a k σ) sz) q) 0 0 (va_A (wA a k σ) sz))  {x1 : Int32} {x5 : Int32} {σ : ST} (h : f_X0_walk_190 r_X0_walk r_X0_walkBranches r_X0_walkFields x1 x5 σ = some q) : GoA p l e ({ frames := 164 + (nn + 1), cells := 0, slots := 0, locals := 4412 + 28 * (nn + 1) } : Room) s m args below meth c (MQ below (qAv dC dI a k A q) args s 0 0 A) dC dI a k A 9 190 σ [(0, .ref (a 41)), (1, .int x1), (5, .int x5)] [] := by
  have hC0 := hC
  obtain ⟨hx, hb, hr, hml, hown, hts, hlocks, hA, hN, hK⟩ := hC0
  intro H locs ls hP hD hS hl
  have hD0 : ∀ σ1 : ST, va_D A (wA a k σ1) := fun σ1 => wA_D hD
  unfold f_X0_walk_190 at h
  refine lv_aload_n hx hb dX0_walk_190 rfl (lv_at hl 0 rfl) ?_
  refine lv_iload_n hx hb dX0_walk_191 rfl (lv_at hl 1 rfl) ?_
  refine lv_iload hx hb dX0_walk_192 (lv_at hl 2 rfl) ?_
  obtain ⟨q1, hc, h⟩ := ib h
  have hF := va_frees hD hS hA
  refine va_calli (va_runV (As := [.int x1, .int x5]) (rest := []) ⟨hx, hb, hml, hown, hts⟩ (s_X0_fits hc) (cwV 2 hts (gV mw_3_26 mw_3_27 mw_3_28 mw_0_4 mw_47_9) rfl rfl rfl (by decide +kernel) ⟨by show 163 + 1 ≤ 164 + (nn + 1); omega, by show 8 + (3 + 11) + 4390 ≤ 4412 + 28 * (nn + 1); omega⟩) (vV (ci := 0) (q0 := 41) hK hP hD hN rfl gA_41) rfl rfl hl.1 rfl (lv_room (Nat.le_of_ble_eq_true rfl)) dX0_walk_194 ⟨(Nat.le_of_ble_eq_true rfl), (Nat.le_of_ble_eq_true rfl)⟩) hS (fun q _ h => hF q h) hF (fun r2 u t H locs ht hvm hw hB _ _ hS => ?_)
  obtain rfl : r2 = q1.1 := hw
  replace hP : va_P (dC, dI) vwCl (wA a k q1.2) H := by rw [← ht]; exact hB.1
  replace hD := hD0 (q1.2)
  clear hB hF
  refine lv_if_ne (tgt := 205) hx hb dX0_walk_197 (by decide) (fun hc => ?_) (fun hc => ?_)
  · replace h := iq hc h
    obtain rfl := Option.some.inj h
    exact W.vret hx hb hr (fun t ht hW => ⟨⟨(), rfl, trivial, ⟨by rw [ht]; exact hP, va_K.moved hW.alike hK, hD⟩⟩, hS.F ht⟩) hS.2.2 dX0_walk_205
  · replace h := ip hc h
    refine lv_aload_n hx hb dX0_walk_200 rfl (lv_at hl 0 rfl) ?_
    refine lv_iconst (v := 2) hx hb dX0_walk_201 (by decide) ?_
    obtain ⟨q3, hc, h⟩ := ib h
    have hF := va_frees hD hS hA
    refine va_callv (va_runV (As := [.int 2]) (rest := []) ⟨hx, hb, hml, hown, hts⟩ (s_X0_addMiss hc) (cwV 1 hts (gV mw_3_17 mw_3_18 mw_3_19 mw_0_4 mw_47_22) rfl rfl rfl (by decide +kernel) ⟨by show 1 + 1 ≤ 164 + (nn + 1); omega, by show 8 + (2 + 11) + 30 ≤ 4412 + 28 * (nn + 1); omega⟩) (vV (ci := 0) (q0 := 41) hK hP hD hN rfl gA_41) rfl rfl hl.1 rfl (lv_room (Nat.le_of_ble_eq_true rfl)) dX0_walk_202 ⟨(Nat.le_of_ble_eq_true rfl), (Nat.le_of_ble_eq_true rfl)⟩) hS (fun q _ h => hF q h) hF (fun u t H locs ht hvm hw hB _ _ hS => ?_)
    replace hP : va_P (dC, dI) vwCl (wA a k q3) H := by rw [← ht]; exact hB.1
    replace hD := hD0 (q3)
    clear hB hF
    obtain rfl := Option.some.inj h
    exact W.vret hx hb hr (fun t ht hW => ⟨⟨(), rfl, trivial, ⟨by rw [ht]; exact hP, va_K.moved hW.alike hK, hD⟩⟩, hS.F ht⟩) hS.2.2 dX0_walk_205

set_option maxRecDepth 100000 in
set_option maxHeartbeats 4000000 in
theorem b_X0_walk_146 {p : Program} {l : Launch} {e : Env} {s : State} {m : MethodId} {args : Array Value} {below : List Frame} {meth : Method} {c : Code} {dC : Nat → ClassId} {dI : Nat → Nat → Nat} {a : Nat → Nat} {k : Nat → ClassId} {A : Nat → Prop} {q : ST} (hC : CxA p s m args meth c dC dI k A cX0_walk RX0 none 9) {nn : Nat} {r_X0_walk : Int32 → Int32 → Int32 → ST → Option (ST)} (hr_X0_walk : ∀ {sz : Nat} {p0 : Int32} {p1 : Int32} {p2 : Int32} {σ : ST} {q : ST}, r_X0_walk  p0 p1 p2 σ = some q → Met l yX0_walk (.code yX0_walk cX0_walk 9 none :: pw) ({ frames := 164 + nn, cells := 0, slots := 0, locals := 4412 + 28 * nn } : Room) (va_Pc [.ref (a 41), .int p0, .int p1, .int p2] (vPre dC dI (wA a k σ) (tA k) sz)) (qAv dC dI a k (va_A (wA a k σ) sz) q) 0 0 (va_A (wA a k σ) sz)) {r_X0_walkBranches : Int32 → Int32 → Int32 → ST → Option (ST)} (hr_X0_walkBranches : ∀ {sz : Nat} {p0 : Int32} {p1 : Int32} {p2 : Int32} {σ : ST} {q : ST}, r_X0_walkBranches  p0 p1 p2 σ = some q → Met l yX0_walkBranches (.code yX0_walkBranches cX0_walkBranches 6 none :: pw) ({ frames := 164 + nn, cells := 0, slots := 0, locals := 4412 + 28 * nn } : Room) (va_Pc [.ref (a 41), .int p0, .int p1, .int p2] (vPre dC dI (wA a k σ) (tA k) sz)) (qAv dC dI a k (va_A (wA a k σ) sz) q) 0 0 (va_A (wA a k σ) sz)) {r_X0_walkFields : Int32 → Int32 → Int32 → ST → Option (ST)} (hr_X0_walkFields : ∀ {sz : Nat} {p0 : Int32} {p1 : Int32} {p2 : Int32} {σ : ST} {q : ST}, r_X0_walkFields  p0 p1 p2 σ = some q → Met l yX0_walkFields (.code yX0_walkFields cX0_walkFields 6 none :: pw) ({ frames := 164 + nn, cells := 0, slots := 0, locals := 4412 + 28 * nn } : Room) (va_Pc [.ref (a 41), .int p0, .int p1, .int p2] (vPre dC dI (wA a k σ) (tA k) sz)) (qAv dC dI a k (va_A (wA a k σ) sz) q) 0 0 (va_A (wA a k σ) sz))  {x1 : Int32} {x3 : Int32} {x4 : Int32} {x5 : Int32} {x6 : Int32} {x7 : Int32} {x8 : Int32} {σ : ST} (h : f_X0_walk_146 r_X0_walk r_X0_walkBranches r_X0_walkFields x1 x3 x4 x5 x6 x7 x8 σ = some q) : GoA p l e ({ frames := 164 + (nn + 1), cells := 0, slots := 0, locals := 4412 + 28 * (nn + 1) } : Room) s m args below meth c (MQ below (qAv dC dI a k A q) args s 0 0 A) dC dI a k A 9 146 σ [(0, .ref (a 41)), (1, .int x1), (3, .int x3), (4, .int x4), (5, .int x5), (6, .int x6), (7, .int x7), (8, .int x8)] [] := by
  have hC0 := hC
  obtain ⟨hx, hb, hr, hml, hown, hts, hlocks, hA, hN, hK⟩ := hC0
  intro H locs ls hP hD hS hl
  have hD0 : ∀ σ1 : ST, va_D A (wA a k σ1) := fun σ1 => wA_D hD
  unfold f_X0_walk_146 at h
  refine lv_iload hx hb dX0_walk_146 (lv_at hl 3 rfl) ?_
  refine lv_bipush (v := 6) hx hb dX0_walk_148 (by decide) ?_
  refine lv_icmp_ne (tgt := 190) hx hb dX0_walk_150 (by decide) (fun hc => ?_) (fun hc => ?_)
  · replace h := iq hc h
    exact b_X0_walk_190 hC hr_X0_walk hr_X0_walkBranches hr_X0_walkFields h _ _ _ hP hD hS (lv_sub hl [0, 1, 4] rfl)
  · replace h := ip hc h
    refine lv_iload hx hb dX0_walk_153 (lv_at hl 5 rfl) ?_
    refine lv_bipush (v := 6) hx hb dX0_walk_155 (by decide) ?_
    refine lv_icmp_ne (tgt := 190) hx hb dX0_walk_157 (by decide) (fun hc => ?_) (fun hc => ?_)
    · replace h := iq hc h
      exact b_X0_walk_190 hC hr_X0_walk hr_X0_walkBranches hr_X0_walkFields h _ _ _ hP hD hS (lv_sub hl [0, 1, 4] rfl)
    · replace h := ip hc h
      refine lv_aload_n hx hb dX0_walk_160 rfl (lv_at hl 0 rfl) ?_
      refine lv_bipush (v := 100) hx hb dX0_walk_161 (by decide) ?_
      obtain ⟨q1, hc, h⟩ := ib h
      have hF := va_frees hD hS hA
      refine va_callv (va_runV (As := [.int 100]) (rest := []) ⟨hx, hb, hml, hown, hts⟩ (s_X0_step hc) (cwV 1 hts (gV mw_3_23 mw_3_24 mw_3_25 mw_0_4 mw_47_21) rfl rfl rfl (by decide +kernel) ⟨by show 0 + 1 ≤ 164 + (nn + 1); omega, by show 8 + (2 + 11) + 0 ≤ 4412 + 28 * (nn + 1); omega⟩) (vV (ci := 0) (q0 := 41) hK hP hD hN rfl gA_41) rfl rfl hl.1 rfl (lv_room (Nat.le_of_ble_eq_true rfl)) dX0_walk_163 ⟨(Nat.le_of_ble_eq_true rfl), (Nat.le_of_ble_eq_true rfl)⟩) hS (fun q _ h => hF q h) hF (fun u t H locs ht hvm hw hB _ _ hS => ?_)
      replace hP : va_P (dC, dI) vwCl (wA a k q1) H := by rw [← ht]; exact hB.1
      replace hD := hD0 (q1)
      clear hB hF
      refine lv_aload_n hx hb dX0_walk_166 rfl (lv_at hl 0 rfl) ?_
      refine lv_iload hx hb dX0_walk_167 (lv_at hl 6 rfl) ?_
      refine lv_iload hx hb dX0_walk_169 (lv_at hl 7 rfl) ?_
      refine lv_iload_n hx hb dX0_walk_171 rfl (lv_at hl 2 rfl) ?_
      refine lv_iconst (v := 1) hx hb dX0_walk_172 (by decide) ?_
      refine lv_iadd hx hb dX0_walk_173 ?_
      obtain ⟨q3, hc, h⟩ := ib h
      have hF := va_frees hD hS hA
      refine va_callv (va_runV (As := [.int x7, .int x8, .int (x3 + 1)]) (rest := []) ⟨hx, hb, hml, hown, hts⟩ (hr_X0_walk hc) (cwV 3 hts (gV mw_3_8 mw_3_9 mw_3_10 mw_0_4 mw_47_18) rfl rfl rfl (by decide +kernel) ⟨by show (164 + nn) + 1 ≤ 164 + (nn + 1); omega, by show 8 + (9 + 11) + (4412 + 28 * nn) ≤ 4412 + 28 * (nn + 1); omega⟩) (vV (ci := 0) (q0 := 41) hK hP hD hN rfl gA_41) rfl rfl hl.1 rfl (lv_room (Nat.le_of_ble_eq_true rfl)) dX0_walk_174 ⟨(Nat.le_of_ble_eq_true rfl), (Nat.le_of_ble_eq_true rfl)⟩) hS (fun q _ h => hF q h) hF (fun u t H locs ht hvm hw hB _ _ hS => ?_)
      replace hP : va_P (dC, dI) vwCl (wA a k q3) H := by rw [← ht]; exact hB.1
      replace hD := hD0 (q3)
      clear hB hF
      refine lv_aload_n hx hb dX0_walk_177 rfl (lv_at hl 0 rfl) ?_
      refine lv_dup hx hb dX0_walk_178 rfl ?_
      refine va_get (D := (dC, dI)) (ci := 0) (C := RX0) (T := TX0) (N := 13) hx hb hts inlX0 hown hK hP 41 gA_41 rfl 11 (by decide) (hts (.fieldLink RX0 45 "ShapeReader$Matcher" "steps" "I") mw_0_28) (fun _ h9 => h9) rfl dX0_walk_179 ?_
      refine lv_iconst (v := 1) hx hb dX0_walk_182 (by decide) ?_
      refine lv_isub hx hb dX0_walk_183 ?_
      refine va_put (D := (dC, dI)) (ci := 0) (ty := .int) (C := RX0) (T := TX0) (N := 13) hx hb hts inlX0 tyX0 tyX0_ok nmX0 hown hK hP hD hS 41 gA_41 rfl 11 (by decide) (hts (.fieldLink RX0 45 "ShapeReader$Matcher" "steps" "I") mw_0_28) (fun _ h9 => h9) rfl (by decide +kernel) rfl rfl (Nat.le_of_ble_eq_true rfl) dX0_walk_184 (fun H locs hP hD hS => ?_)
      replace hP := uA_41_11 hP
      replace hD := hD0 ((stI q3 41 11 ((q3.1 41 11) - 1)))
      refine lv_goto (tgt := 205) hx hb dX0_walk_187 (by decide) ?_
      obtain rfl := Option.some.inj h
      exact W.vret hx hb hr (fun t ht hW => ⟨⟨(), rfl, trivial, ⟨by rw [ht]; exact hP, va_K.moved hW.alike hK, hD⟩⟩, hS.F ht⟩) hS.2.2 dX0_walk_205

set_option maxRecDepth 100000 in
set_option maxHeartbeats 4000000 in
theorem b_X0_walk_77 {p : Program} {l : Launch} {e : Env} {s : State} {m : MethodId} {args : Array Value} {below : List Frame} {meth : Method} {c : Code} {dC : Nat → ClassId} {dI : Nat → Nat → Nat} {a : Nat → Nat} {k : Nat → ClassId} {A : Nat → Prop} {q : ST} (hC : CxA p s m args meth c dC dI k A cX0_walk RX0 none 9) {nn : Nat} {r_X0_walk : Int32 → Int32 → Int32 → ST → Option (ST)} (hr_X0_walk : ∀ {sz : Nat} {p0 : Int32} {p1 : Int32} {p2 : Int32} {σ : ST} {q : ST}, r_X0_walk  p0 p1 p2 σ = some q → Met l yX0_walk (.code yX0_walk cX0_walk 9 none :: pw) ({ frames := 164 + nn, cells := 0, slots := 0, locals := 4412 + 28 * nn } : Room) (va_Pc [.ref (a 41), .int p0, .int p1, .int p2] (vPre dC dI (wA a k σ) (tA k) sz)) (qAv dC dI a k (va_A (wA a k σ) sz) q) 0 0 (va_A (wA a k σ) sz)) {r_X0_walkBranches : Int32 → Int32 → Int32 → ST → Option (ST)} (hr_X0_walkBranches : ∀ {sz : Nat} {p0 : Int32} {p1 : Int32} {p2 : Int32} {σ : ST} {q : ST}, r_X0_walkBranches  p0 p1 p2 σ = some q → Met l yX0_walkBranches (.code yX0_walkBranches cX0_walkBranches 6 none :: pw) ({ frames := 164 + nn, cells := 0, slots := 0, locals := 4412 + 28 * nn } : Room) (va_Pc [.ref (a 41), .int p0, .int p1, .int p2] (vPre dC dI (wA a k σ) (tA k) sz)) (qAv dC dI a k (va_A (wA a k σ) sz) q) 0 0 (va_A (wA a k σ) sz)) {r_X0_walkFields : Int32 → Int32 → Int32 → ST → Option (ST)} (hr_X0_walkFields : ∀ {sz : Nat} {p0 : Int32} {p1 : Int32} {p2 : Int32} {σ : ST} {q : ST}, r_X0_walkFields  p0 p1 p2 σ = some q → Met l yX0_walkFields (.code yX0_walkFields cX0_walkFields 6 none :: pw) ({ frames := 164 + nn, cells := 0, slots := 0, locals := 4412 + 28 * nn } : Room) (va_Pc [.ref (a 41), .int p0, .int p1, .int p2] (vPre dC dI (wA a k σ) (tA k) sz)) (qAv dC dI a k (va_A (wA a k σ) sz) q) 0 0 (va_A (wA a k σ) sz))  {x1 : Int32} {x3 : Int32} {x4 : Int32} {x5 : Int32} {σ : ST} (h : f_X0_walk_77 r_X0_walk r_X0_walkBranches r_X0_walkFields x1 x3 x4 x5 σ = some q) : GoA p l e ({ frames := 164 + (nn + 1), cells := 0, slots := 0, locals := 4412 + 28 * (nn + 1) } : Room) s m args below meth c (MQ below (qAv dC dI a k A q) args s 0 0 A) dC dI a k A 9 77 σ [(0, .ref (a 41)), (1, .int x1), (3, .int x3), (4, .int x4), (5, .int x5)] [] := by
  have hC0 := hC
  obtain ⟨hx, hb, hr, hml, hown, hts, hlocks, hA, hN, hK⟩ := hC0
  intro H locs ls hP hD hS hl
  have hD0 : ∀ σ1 : ST, va_D A (wA a k σ1) := fun σ1 => wA_D hD
  unfold f_X0_walk_77 at h
  refine lv_aload_n hx hb dX0_walk_77 rfl (lv_at hl 0 rfl) ?_
  refine va_get (D := (dC, dI)) (ci := 0) (C := RX0) (T := TX0) (N := 13) hx hb hts inlX0 hown hK hP 41 gA_41 rfl 0 (by decide) (hts (.fieldLink RX0 51 "ShapeReader$Matcher" "shapes" "LShapeReader$Shapes;") mw_1_0) (fun _ h9 => h9) rfl dX0_walk_78 ?_
  refine lv_iload hx hb dX0_walk_81 (lv_at hl 4 rfl) ?_
  obtain ⟨q1, hc, h⟩ := ib h
  have hF := va_frees hD hS hA
  refine va_calli (va_runV (As := [.int x5]) (rest := []) ⟨hx, hb, hml, hown, hts⟩ (s_X5_sortOf_4 hc) (cwV 1 hts (gV mw_2_12 mw_2_13 mw_2_14 mw_0_9 mw_50_6) rfl rfl rfl (by decide +kernel) ⟨by show 1 + 1 ≤ 164 + (nn + 1); omega, by show 8 + (2 + 11) + 21 ≤ 4412 + 28 * (nn + 1); omega⟩) (vV (ci := 5) (q0 := 4) hK hP hD hN rfl gA_4) rfl rfl hl.1 rfl (lv_room (Nat.le_of_ble_eq_true rfl)) dX0_walk_83 ⟨(Nat.le_of_ble_eq_true rfl), (Nat.le_of_ble_eq_true rfl)⟩) hS (fun q _ h => hF q h) hF (fun r2 u t H locs ht hvm hw hB _ _ hS => ?_)
  obtain rfl : r2 = q1.1 := hw
  replace hP : va_P (dC, dI) vwCl (wA a k q1.2) H := by rw [← ht]; exact hB.1
  replace hD := hD0 (q1.2)
  clear hB hF
  refine lv_istore (lv' := [(6, .int q1.1), (0, .ref (a 41)), (1, .int x1), (3, .int x3), (4, .int x4), (5, .int x5)]) hx hb dX0_walk_86 hl (by decide) rfl (fun ls hl => ?_)
  refine lv_aload_n hx hb dX0_walk_88 rfl (lv_at hl 1 rfl) ?_
  refine va_get (D := (dC, dI)) (ci := 0) (C := RX0) (T := TX0) (N := 13) hx hb hts inlX0 hown hK hP 41 gA_41 rfl 0 (by decide) (hts (.fieldLink RX0 51 "ShapeReader$Matcher" "shapes" "LShapeReader$Shapes;") mw_1_0) (fun _ h9 => h9) rfl dX0_walk_89 ?_
  refine lv_iload_n hx hb dX0_walk_92 rfl (lv_at hl 2 rfl) ?_
  obtain ⟨q3, hc, h⟩ := ib h
  have hF := va_frees hD hS hA
  refine va_calli (va_runV (As := [.int x1]) (rest := []) ⟨hx, hb, hml, hown, hts⟩ (s_X5_innerOf_4 hc) (cwV 1 hts (gV mw_2_15 mw_2_16 mw_2_17 mw_0_9 mw_50_7) rfl rfl rfl (by decide +kernel) ⟨by show 1 + 1 ≤ 164 + (nn + 1); omega, by show 8 + (2 + 11) + 21 ≤ 4412 + 28 * (nn + 1); omega⟩) (vV (ci := 5) (q0 := 4) hK hP hD hN rfl gA_4) rfl rfl hl.1 rfl (lv_room (Nat.le_of_ble_eq_true rfl)) dX0_walk_93 ⟨(Nat.le_of_ble_eq_true rfl), (Nat.le_of_ble_eq_true rfl)⟩) hS (fun q _ h => hF q h) hF (fun r4 u t H locs ht hvm hw hB _ _ hS => ?_)
  obtain rfl : r4 = q3.1 := hw
  replace hP : va_P (dC, dI) vwCl (wA a k q3.2) H := by rw [← ht]; exact hB.1
  replace hD := hD0 (q3.2)
  clear hB hF
  refine lv_istore (lv' := [(7, .int q3.1), (6, .int q1.1), (0, .ref (a 41)), (1, .int x1), (3, .int x3), (4, .int x4), (5, .int x5)]) hx hb dX0_walk_96 hl (by decide) rfl (fun ls hl => ?_)
  refine lv_aload_n hx hb dX0_walk_98 rfl (lv_at hl 2 rfl) ?_
  refine va_get (D := (dC, dI)) (ci := 0) (C := RX0) (T := TX0) (N := 13) hx hb hts inlX0 hown hK hP 41 gA_41 rfl 0 (by decide) (hts (.fieldLink RX0 51 "ShapeReader$Matcher" "shapes" "LShapeReader$Shapes;") mw_1_0) (fun _ h9 => h9) rfl dX0_walk_99 ?_
  refine lv_iload hx hb dX0_walk_102 (lv_at hl 6 rfl) ?_
  obtain ⟨q5, hc, h⟩ := ib h
  have hF := va_frees hD hS hA
  refine va_calli (va_runV (As := [.int x5]) (rest := []) ⟨hx, hb, hml, hown, hts⟩ (s_X5_innerOf_4 hc) (cwV 1 hts (gV mw_2_15 mw_2_16 mw_2_17 mw_0_9 mw_50_7) rfl rfl rfl (by decide +kernel) ⟨by show 1 + 1 ≤ 164 + (nn + 1); omega, by show 8 + (2 + 11) + 21 ≤ 4412 + 28 * (nn + 1); omega⟩) (vV (ci := 5) (q0 := 4) hK hP hD hN rfl gA_4) rfl rfl hl.1 rfl (lv_room (Nat.le_of_ble_eq_true rfl)) dX0_walk_104 ⟨(Nat.le_of_ble_eq_true rfl), (Nat.le_of_ble_eq_true rfl)⟩) hS (fun q _ h => hF q h) hF (fun r6 u t H locs ht hvm hw hB _ _ hS => ?_)
  obtain rfl : r6 = q5.1 := hw
  replace hP : va_P (dC, dI) vwCl (wA a k q5.2) H := by rw [← ht]; exact hB.1
  replace hD := hD0 (q5.2)
  clear hB hF
  refine lv_istore (lv' := [(8, .int q5.1), (7, .int q3.1), (6, .int q1.1), (0, .ref (a 41)), (1, .int x1), (3, .int x3), (4, .int x4), (5, .int x5)]) hx hb dX0_walk_107 hl (by decide) rfl (fun ls hl => ?_)
  refine lv_iload hx hb dX0_walk_109 (lv_at hl 6 rfl) ?_
  refine lv_bipush (v := 7) hx hb dX0_walk_111 (by decide) ?_
  refine lv_icmp_ne (tgt := 146) hx hb dX0_walk_113 (by decide) (fun hc => ?_) (fun hc => ?_)
  · replace h := iq hc h
    exact b_X0_walk_146 hC hr_X0_walk hr_X0_walkBranches hr_X0_walkFields h _ _ _ hP hD hS (lv_sub hl [3, 4, 5, 6, 7, 2, 1, 0] rfl)
  · replace h := ip hc h
    refine lv_iload hx hb dX0_walk_116 (lv_at hl 2 rfl) ?_
    refine lv_bipush (v := 7) hx hb dX0_walk_118 (by decide) ?_
    refine lv_icmp_ne (tgt := 146) hx hb dX0_walk_120 (by decide) (fun hc => ?_) (fun hc => ?_)
    · replace h := iq hc h
      exact b_X0_walk_146 hC hr_X0_walk hr_X0_walkBranches hr_X0_walkFields h _ _ _ hP hD hS (lv_sub hl [3, 4, 5, 6, 7, 2, 1, 0] rfl)
    · replace h := ip hc h
      refine lv_aload_n hx hb dX0_walk_123 rfl (lv_at hl 3 rfl) ?_
      refine lv_iload hx hb dX0_walk_124 (lv_at hl 1 rfl) ?_
      refine lv_iload hx hb dX0_walk_126 (lv_at hl 0 rfl) ?_
      obtain ⟨q7, hc, h⟩ := ib h
      have hF := va_frees hD hS hA
      refine va_calli (va_runV (As := [.int q3.1, .int q5.1]) (rest := []) ⟨hx, hb, hml, hown, hts⟩ (s_X0_mayPair hc) (cwV 2 hts (gV mw_1_15 mw_1_16 mw_1_17 mw_0_4 mw_47_7) rfl rfl rfl (by decide +kernel) ⟨by show 2 + 1 ≤ 164 + (nn + 1); omega, by show 8 + (3 + 11) + 41 ≤ 4412 + 28 * (nn + 1); omega⟩) (vV (ci := 0) (q0 := 41) hK hP hD hN rfl gA_41) rfl rfl hl.1 rfl (lv_room (Nat.le_of_ble_eq_true rfl)) dX0_walk_128 ⟨(Nat.le_of_ble_eq_true rfl), (Nat.le_of_ble_eq_true rfl)⟩) hS (fun q _ h => hF q h) hF (fun r8 u t H locs ht hvm hw hB _ _ hS => ?_)
      obtain rfl : r8 = q7.1 := hw
      replace hP : va_P (dC, dI) vwCl (wA a k q7.2) H := by rw [← ht]; exact hB.1
      replace hD := hD0 (q7.2)
      clear hB hF
      refine lv_if_eq (tgt := 146) hx hb dX0_walk_131 (by decide) (fun hc => ?_) (fun hc => ?_)
      · replace h := ip hc h
        exact b_X0_walk_146 hC hr_X0_walk hr_X0_walkBranches hr_X0_walkFields h _ _ _ hP hD hS (lv_sub hl [3, 4, 5, 6, 7, 2, 1, 0] rfl)
      · replace h := iq hc h
        refine lv_aload_n hx hb dX0_walk_134 rfl (lv_at hl 3 rfl) ?_
        refine lv_iload hx hb dX0_walk_135 (lv_at hl 1 rfl) ?_
        refine lv_iload hx hb dX0_walk_137 (lv_at hl 0 rfl) ?_
        refine lv_iload_n hx hb dX0_walk_139 rfl (lv_at hl 5 rfl) ?_
        obtain ⟨q9, hc, h⟩ := ib h
        have hF := va_frees hD hS hA
        refine va_callv (va_runV (As := [.int q3.1, .int q5.1, .int x3]) (rest := []) ⟨hx, hb, hml, hown, hts⟩ (hr_X0_walkFields hc) (cwV 3 hts (gV mw_3_20 mw_3_21 mw_3_22 mw_0_4 mw_47_20) rfl rfl rfl (by decide +kernel) ⟨by show (164 + nn) + 1 ≤ 164 + (nn + 1); omega, by show 8 + (6 + 11) + (4412 + 28 * nn) ≤ 4412 + 28 * (nn + 1); omega⟩) (vV (ci := 0) (q0 := 41) hK hP hD hN rfl gA_41) rfl rfl hl.1 rfl (lv_room (Nat.le_of_ble_eq_true rfl)) dX0_walk_140 ⟨(Nat.le_of_ble_eq_true rfl), (Nat.le_of_ble_eq_true rfl)⟩) hS (fun q _ h => hF q h) hF (fun u t H locs ht hvm hw hB _ _ hS => ?_)
        replace hP : va_P (dC, dI) vwCl (wA a k q9) H := by rw [← ht]; exact hB.1
        replace hD := hD0 (q9)
        clear hB hF
        refine lv_goto (tgt := 205) hx hb dX0_walk_143 (by decide) ?_
        obtain rfl := Option.some.inj h
        exact W.vret hx hb hr (fun t ht hW => ⟨⟨(), rfl, trivial, ⟨by rw [ht]; exact hP, va_K.moved hW.alike hK, hD⟩⟩, hS.F ht⟩) hS.2.2 dX0_walk_205

set_option maxRecDepth 100000 in
set_option maxHeartbeats 4000000 in
theorem b_X0_walk_e {p : Program} {l : Launch} {e : Env} {s : State} {m : MethodId} {args : Array Value} {below : List Frame} {meth : Method} {c : Code} {dC : Nat → ClassId} {dI : Nat → Nat → Nat} {a : Nat → Nat} {k : Nat → ClassId} {A : Nat → Prop} {q : ST} (hC : CxA p s m args meth c dC dI k A cX0_walk RX0 none 9) {nn : Nat} {r_X0_walk : Int32 → Int32 → Int32 → ST → Option (ST)} (hr_X0_walk : ∀ {sz : Nat} {p0 : Int32} {p1 : Int32} {p2 : Int32} {σ : ST} {q : ST}, r_X0_walk  p0 p1 p2 σ = some q → Met l yX0_walk (.code yX0_walk cX0_walk 9 none :: pw) ({ frames := 164 + nn, cells := 0, slots := 0, locals := 4412 + 28 * nn } : Room) (va_Pc [.ref (a 41), .int p0, .int p1, .int p2] (vPre dC dI (wA a k σ) (tA k) sz)) (qAv dC dI a k (va_A (wA a k σ) sz) q) 0 0 (va_A (wA a k σ) sz)) {r_X0_walkBranches : Int32 → Int32 → Int32 → ST → Option (ST)} (hr_X0_walkBranches : ∀ {sz : Nat} {p0 : Int32} {p1 : Int32} {p2 : Int32} {σ : ST} {q : ST}, r_X0_walkBranches  p0 p1 p2 σ = some q → Met l yX0_walkBranches (.code yX0_walkBranches cX0_walkBranches 6 none :: pw) ({ frames := 164 + nn, cells := 0, slots := 0, locals := 4412 + 28 * nn } : Room) (va_Pc [.ref (a 41), .int p0, .int p1, .int p2] (vPre dC dI (wA a k σ) (tA k) sz)) (qAv dC dI a k (va_A (wA a k σ) sz) q) 0 0 (va_A (wA a k σ) sz)) {r_X0_walkFields : Int32 → Int32 → Int32 → ST → Option (ST)} (hr_X0_walkFields : ∀ {sz : Nat} {p0 : Int32} {p1 : Int32} {p2 : Int32} {σ : ST} {q : ST}, r_X0_walkFields  p0 p1 p2 σ = some q → Met l yX0_walkFields (.code yX0_walkFields cX0_walkFields 6 none :: pw) ({ frames := 164 + nn, cells := 0, slots := 0, locals := 4412 + 28 * nn } : Room) (va_Pc [.ref (a 41), .int p0, .int p1, .int p2] (vPre dC dI (wA a k σ) (tA k) sz)) (qAv dC dI a k (va_A (wA a k σ) sz) q) 0 0 (va_A (wA a k σ) sz))  {p0 : Int32} {p1 : Int32} {p2 : Int32} {σ : ST} (h : f_X0_walk r_X0_walk r_X0_walkBranches r_X0_walkFields p0 p1 p2 σ = some q) : GoA p l e ({ frames := 164 + (nn + 1), cells := 0, slots := 0, locals := 4412 + 28 * (nn + 1) } : Room) s m args below meth c (MQ below (qAv dC dI a k A q) args s 0 0 A) dC dI a k A 9 0 σ (lv_args 0 [.ref (a 41), .int p0, .int p1, .int p2]) [] := by
  have hC0 := hC
  obtain ⟨hx, hb, hr, hml, hown, hts, hlocks, hA, hN, hK⟩ := hC0
  intro H locs ls hP hD hS hl
  have hD0 : ∀ σ1 : ST, va_D A (wA a k σ1) := fun σ1 => wA_D hD
  replace hl : lv_has ls 9 [(0, .ref (a 41)), (1, .int p0), (2, .int p1), (3, .int p2)] := hl
  unfold f_X0_walk at h
  refine lv_iload_n hx hb dX0_walk_0 rfl (lv_at hl 3 rfl) ?_
  refine lv_bipush (v := 40) hx hb dX0_walk_1 (by decide) ?_
  refine lv_icmp_gt (tgt := 15) hx hb dX0_walk_3 (by decide) (fun hc => ?_) (fun hc => ?_)
  · replace h := ip hc h
    obtain rfl := Option.some.inj h
    exact W.vret hx hb hr (fun t ht hW => ⟨⟨(), rfl, trivial, ⟨by rw [ht]; exact hP, va_K.moved hW.alike hK, hD⟩⟩, hS.F ht⟩) hS.2.2 dX0_walk_15
  · replace h := iq hc h
    refine lv_aload_n hx hb dX0_walk_6 rfl (lv_at hl 0 rfl) ?_
    refine va_get (D := (dC, dI)) (ci := 0) (C := RX0) (T := TX0) (N := 13) hx hb hts inlX0 hown hK hP 41 gA_41 rfl 6 (by decide) (hts (.fieldLink RX0 30 "ShapeReader$Matcher" "missCount" "I") mw_0_23) (fun _ h9 => h9) rfl dX0_walk_7 ?_
    refine lv_bipush (v := 20) hx hb dX0_walk_10 (by decide) ?_
    refine lv_icmp_lt (tgt := 16) hx hb dX0_walk_12 (by decide) (fun hc => ?_) (fun hc => ?_)
    · replace h := ip hc h
      refine lv_aload_n hx hb dX0_walk_16 rfl (lv_at hl 0 rfl) ?_
      refine va_get (D := (dC, dI)) (ci := 0) (C := RX0) (T := TX0) (N := 13) hx hb hts inlX0 hown hK hP 41 gA_41 rfl 0 (by decide) (hts (.fieldLink RX0 51 "ShapeReader$Matcher" "shapes" "LShapeReader$Shapes;") mw_1_0) (fun _ h9 => h9) rfl dX0_walk_17 ?_
      refine lv_iload_n hx hb dX0_walk_20 rfl (lv_at hl 1 rfl) ?_
      obtain ⟨q1, hc, h⟩ := ib h
      have hF := va_frees hD hS hA
      refine va_calli (va_runV (As := [.int p0]) (rest := []) ⟨hx, hb, hml, hown, hts⟩ (s_X5_sortOf_4 hc) (cwV 1 hts (gV mw_2_12 mw_2_13 mw_2_14 mw_0_9 mw_50_6) rfl rfl rfl (by decide +kernel) ⟨by show 1 + 1 ≤ 164 + (nn + 1); omega, by show 8 + (2 + 11) + 21 ≤ 4412 + 28 * (nn + 1); omega⟩) (vV (ci := 5) (q0 := 4) hK hP hD hN rfl gA_4) rfl rfl hl.1 rfl (lv_room (Nat.le_of_ble_eq_true rfl)) dX0_walk_21 ⟨(Nat.le_of_ble_eq_true rfl), (Nat.le_of_ble_eq_true rfl)⟩) hS (fun q _ h => hF q h) hF (fun r2 u t H locs ht hvm hw hB _ _ hS => ?_)
      obtain rfl : r2 = q1.1 := hw
      replace hP : va_P (dC, dI) vwCl (wA a k q1.2) H := by rw [← ht]; exact hB.1
      replace hD := hD0 (q1.2)
      clear hB hF
      refine lv_istore (lv' := [(4, .int q1.1), (0, .ref (a 41)), (1, .int p0), (2, .int p1), (3, .int p2)]) hx hb dX0_walk_24 hl (by decide) rfl (fun ls hl => ?_)
      refine lv_iload hx hb dX0_walk_26 (lv_at hl 0 rfl) ?_
      refine lv_bipush (v := 8) hx hb dX0_walk_28 (by decide) ?_
      refine lv_icmp_ne (tgt := 41) hx hb dX0_walk_30 (by decide) (fun hc => ?_) (fun hc => ?_)
      · replace h := iq hc h
        refine lv_iload_n hx hb dX0_walk_41 rfl (lv_at hl 3 rfl) ?_
        refine lv_istore (lv' := [(5, .int p1), (4, .int q1.1), (0, .ref (a 41)), (1, .int p0), (2, .int p1), (3, .int p2)]) hx hb dX0_walk_42 hl (by decide) rfl (fun ls hl => ?_)
        refine lv_aload_n hx hb dX0_walk_44 rfl (lv_at hl 2 rfl) ?_
        refine va_get (D := (dC, dI)) (ci := 0) (C := RX0) (T := TX0) (N := 13) hx hb hts inlX0 hown hK hP 41 gA_41 rfl 0 (by decide) (hts (.fieldLink RX0 51 "ShapeReader$Matcher" "shapes" "LShapeReader$Shapes;") mw_1_0) (fun _ h9 => h9) rfl dX0_walk_45 ?_
        refine lv_iload_n hx hb dX0_walk_48 rfl (lv_at hl 4 rfl) ?_
        obtain ⟨q3, hc, h⟩ := ib h
        have hF := va_frees hD hS hA
        refine va_calli (va_runV (As := [.int p1]) (rest := []) ⟨hx, hb, hml, hown, hts⟩ (s_X5_sortOf_4 hc) (cwV 1 hts (gV mw_2_12 mw_2_13 mw_2_14 mw_0_9 mw_50_6) rfl rfl rfl (by decide +kernel) ⟨by show 1 + 1 ≤ 164 + (nn + 1); omega, by show 8 + (2 + 11) + 21 ≤ 4412 + 28 * (nn + 1); omega⟩) (vV (ci := 5) (q0 := 4) hK hP hD hN rfl gA_4) rfl rfl hl.1 rfl (lv_room (Nat.le_of_ble_eq_true rfl)) dX0_walk_49 ⟨(Nat.le_of_ble_eq_true rfl), (Nat.le_of_ble_eq_true rfl)⟩) hS (fun q _ h => hF q h) hF (fun r4 u t H locs ht hvm hw hB _ _ hS => ?_)
        obtain rfl : r4 = q3.1 := hw
        replace hP : va_P (dC, dI) vwCl (wA a k q3.2) H := by rw [← ht]; exact hB.1
        replace hD := hD0 (q3.2)
        clear hB hF
        refine lv_bipush (v := 8) hx hb dX0_walk_52 (by decide) ?_
        refine lv_icmp_ne (tgt := 77) hx hb dX0_walk_54 (by decide) (fun hc => ?_) (fun hc => ?_)
        · replace h := iq hc h
          exact b_X0_walk_77 hC hr_X0_walk hr_X0_walkBranches hr_X0_walkFields h _ _ _ hP hD hS (lv_sub hl [2, 3, 5, 1, 0] rfl)
        · replace h := ip hc h
          refine lv_aload_n hx hb dX0_walk_57 rfl (lv_at hl 2 rfl) ?_
          refine lv_iload_n hx hb dX0_walk_58 rfl (lv_at hl 3 rfl) ?_
          refine lv_iload_n hx hb dX0_walk_59 rfl (lv_at hl 4 rfl) ?_
          obtain ⟨q5, hc, h⟩ := ib h
          have hF := va_frees hD hS hA
          refine va_calli (va_runV (As := [.int p0, .int p1]) (rest := []) ⟨hx, hb, hml, hown, hts⟩ (s_X0_chosen hc) (cwV 2 hts (gV mw_3_14 mw_3_15 mw_3_16 mw_0_4 mw_47_12) rfl rfl rfl (by decide +kernel) ⟨by show 163 + 1 ≤ 164 + (nn + 1); omega, by show 8 + (3 + 11) + 4389 ≤ 4412 + 28 * (nn + 1); omega⟩) (vV (ci := 0) (q0 := 41) hK hP hD hN rfl gA_41) rfl rfl hl.1 rfl (lv_room (Nat.le_of_ble_eq_true rfl)) dX0_walk_60 ⟨(Nat.le_of_ble_eq_true rfl), (Nat.le_of_ble_eq_true rfl)⟩) hS (fun q _ h => hF q h) hF (fun r6 u t H locs ht hvm hw hB _ _ hS => ?_)
          obtain rfl : r6 = q5.1 := hw
          replace hP : va_P (dC, dI) vwCl (wA a k q5.2) H := by rw [← ht]; exact hB.1
          replace hD := hD0 (q5.2)
          clear hB hF
          refine lv_istore (lv' := [(5, .int q5.1), (4, .int q1.1), (0, .ref (a 41)), (1, .int p0), (2, .int p1), (3, .int p2)]) hx hb dX0_walk_63 hl (by decide) rfl (fun ls hl => ?_)
          refine lv_iload hx hb dX0_walk_65 (lv_at hl 0 rfl) ?_
          refine lv_iconst (v := (-1)) hx hb dX0_walk_67 (by decide) ?_
          refine lv_icmp_ne (tgt := 77) hx hb dX0_walk_68 (by decide) (fun hc => ?_) (fun hc => ?_)
          · replace h := iq hc h
            exact b_X0_walk_77 hC hr_X0_walk hr_X0_walkBranches hr_X0_walkFields h _ _ _ hP hD hS (lv_sub hl [2, 3, 5, 1, 0] rfl)
          · replace h := ip hc h
            refine lv_aload_n hx hb dX0_walk_71 rfl (lv_at hl 2 rfl) ?_
            refine lv_iconst (v := 3) hx hb dX0_walk_72 (by decide) ?_
            obtain ⟨q7, hc, h⟩ := ib h
            have hF := va_frees hD hS hA
            refine va_callv (va_runV (As := [.int 3]) (rest := []) ⟨hx, hb, hml, hown, hts⟩ (s_X0_addMiss hc) (cwV 1 hts (gV mw_3_17 mw_3_18 mw_3_19 mw_0_4 mw_47_22) rfl rfl rfl (by decide +kernel) ⟨by show 1 + 1 ≤ 164 + (nn + 1); omega, by show 8 + (2 + 11) + 30 ≤ 4412 + 28 * (nn + 1); omega⟩) (vV (ci := 0) (q0 := 41) hK hP hD hN rfl gA_41) rfl rfl hl.1 rfl (lv_room (Nat.le_of_ble_eq_true rfl)) dX0_walk_73 ⟨(Nat.le_of_ble_eq_true rfl), (Nat.le_of_ble_eq_true rfl)⟩) hS (fun q _ h => hF q h) hF (fun u t H locs ht hvm hw hB _ _ hS => ?_)
            replace hP : va_P (dC, dI) vwCl (wA a k q7) H := by rw [← ht]; exact hB.1
            replace hD := hD0 (q7)
            clear hB hF
            obtain rfl := Option.some.inj h
            exact W.vret hx hb hr (fun t ht hW => ⟨⟨(), rfl, trivial, ⟨by rw [ht]; exact hP, va_K.moved hW.alike hK, hD⟩⟩, hS.F ht⟩) hS.2.2 dX0_walk_76
      · replace h := ip hc h
        refine lv_aload_n hx hb dX0_walk_33 rfl (lv_at hl 1 rfl) ?_
        refine lv_iload_n hx hb dX0_walk_34 rfl (lv_at hl 2 rfl) ?_
        refine lv_iload_n hx hb dX0_walk_35 rfl (lv_at hl 3 rfl) ?_
        refine lv_iload_n hx hb dX0_walk_36 rfl (lv_at hl 4 rfl) ?_
        obtain ⟨q9, hc, h⟩ := ib h
        have hF := va_frees hD hS hA
        refine va_callv (va_runV (As := [.int p0, .int p1, .int p2]) (rest := []) ⟨hx, hb, hml, hown, hts⟩ (hr_X0_walkBranches hc) (cwV 3 hts (gV mw_3_11 mw_3_12 mw_3_13 mw_0_4 mw_47_19) rfl rfl rfl (by decide +kernel) ⟨by show (164 + nn) + 1 ≤ 164 + (nn + 1); omega, by show 8 + (6 + 11) + (4412 + 28 * nn) ≤ 4412 + 28 * (nn + 1); omega⟩) (vV (ci := 0) (q0 := 41) hK hP hD hN rfl gA_41) rfl rfl hl.1 rfl (lv_room (Nat.le_of_ble_eq_true rfl)) dX0_walk_37 ⟨(Nat.le_of_ble_eq_true rfl), (Nat.le_of_ble_eq_true rfl)⟩) hS (fun q _ h => hF q h) hF (fun u t H locs ht hvm hw hB _ _ hS => ?_)
        replace hP : va_P (dC, dI) vwCl (wA a k q9) H := by rw [← ht]; exact hB.1
        replace hD := hD0 (q9)
        clear hB hF
        obtain rfl := Option.some.inj h
        exact W.vret hx hb hr (fun t ht hW => ⟨⟨(), rfl, trivial, ⟨by rw [ht]; exact hP, va_K.moved hW.alike hK, hD⟩⟩, hS.F ht⟩) hS.2.2 dX0_walk_40
    · replace h := iq hc h
      obtain rfl := Option.some.inj h
      exact W.vret hx hb hr (fun t ht hW => ⟨⟨(), rfl, trivial, ⟨by rw [ht]; exact hP, va_K.moved hW.alike hK, hD⟩⟩, hS.F ht⟩) hS.2.2 dX0_walk_15


set_option maxRecDepth 100000 in
set_option maxHeartbeats 4000000 in
theorem b_X0_walkBranches_63 {p : Program} {l : Launch} {e : Env} {s : State} {m : MethodId} {args : Array Value} {below : List Frame} {meth : Method} {c : Code} {dC : Nat → ClassId} {dI : Nat → Nat → Nat} {a : Nat → Nat} {k : Nat → ClassId} {A : Nat → Prop} {q : ST} (hC : CxA p s m args meth c dC dI k A cX0_walkBranches RX0 none 6) {nn : Nat} {r_X0_walk : Int32 → Int32 → Int32 → ST → Option (ST)} (hr_X0_walk : ∀ {sz : Nat} {p0 : Int32} {p1 : Int32} {p2 : Int32} {σ : ST} {q : ST}, r_X0_walk  p0 p1 p2 σ = some q → Met l yX0_walk (.code yX0_walk cX0_walk 9 none :: pw) ({ frames := 164 + nn, cells := 0, slots := 0, locals := 4412 + 28 * nn } : Room) (va_Pc [.ref (a 41), .int p0, .int p1, .int p2] (vPre dC dI (wA a k σ) (tA k) sz)) (qAv dC dI a k (va_A (wA a k σ) sz) q) 0 0 (va_A (wA a k σ) sz)) {r_X0_walkBranches : Int32 → Int32 → Int32 → ST → Option (ST)} (hr_X0_walkBranches : ∀ {sz : Nat} {p0 : Int32} {p1 : Int32} {p2 : Int32} {σ : ST} {q : ST}, r_X0_walkBranches  p0 p1 p2 σ = some q → Met l yX0_walkBranches (.code yX0_walkBranches cX0_walkBranches 6 none :: pw) ({ frames := 164 + nn, cells := 0, slots := 0, locals := 4412 + 28 * nn } : Room) (va_Pc [.ref (a 41), .int p0, .int p1, .int p2] (vPre dC dI (wA a k σ) (tA k) sz)) (qAv dC dI a k (va_A (wA a k σ) sz) q) 0 0 (va_A (wA a k σ) sz)) {r_X0_walkFields : Int32 → Int32 → Int32 → ST → Option (ST)} (hr_X0_walkFields : ∀ {sz : Nat} {p0 : Int32} {p1 : Int32} {p2 : Int32} {σ : ST} {q : ST}, r_X0_walkFields  p0 p1 p2 σ = some q → Met l yX0_walkFields (.code yX0_walkFields cX0_walkFields 6 none :: pw) ({ frames := 164 + nn, cells := 0, slots := 0, locals := 4412 + 28 * nn } : Room) (va_Pc [.ref (a 41), .int p0, .int p1, .int p2] (vPre dC dI (wA a k σ) (tA k) sz)) (qAv dC dI a k (va_A (wA a k σ) sz) q) 0 0 (va_A (wA a k σ) sz)) {k13 : Int32 → Int32 → Int32 → Int32 → ST → Option (ST)} (hk13 : ∀ (x2 : Int32) (x3 : Int32) (x4 : Int32) (x5 : Int32) (σ : ST), k13 x2 x3 x4 x5 σ = some q → GoA p l e ({ frames := 164 + (nn + 1), cells := 0, slots := 0, locals := 4412 + 28 * (nn + 1) } : Room) s m args below meth c (MQ below (qAv dC dI a k A q) args s 0 0 A) dC dI a k A 6 13 σ [(0, .ref (a 41)), (2, .int x2), (3, .int x3), (4, .int x4), (5, .int x5)] []) {x2 : Int32} {x3 : Int32} {x4 : Int32} {x5 : Int32} {σ : ST} (h : f_X0_walkBranches_63 r_X0_walk r_X0_walkBranches r_X0_walkFields k13 x2 x3 x4 x5 σ = some q) : GoA p l e ({ frames := 164 + (nn + 1), cells := 0, slots := 0, locals := 4412 + 28 * (nn + 1) } : Room) s m args below meth c (MQ below (qAv dC dI a k A q) args s 0 0 A) dC dI a k A 6 63 σ [(0, .ref (a 41)), (2, .int x2), (3, .int x3), (4, .int x4), (5, .int x5)] [] := by
  have hC0 := hC
  obtain ⟨hx, hb, hr, hml, hown, hts, hlocks, hA, hN, hK⟩ := hC0
  intro H locs ls hP hD hS hl
  have hD0 : ∀ σ1 : ST, va_D A (wA a k σ1) := fun σ1 => wA_D hD
  unfold f_X0_walkBranches_63 at h
  refine lv_aload_n hx hb dX0_walkBranches_63 rfl (lv_at hl 0 rfl) ?_
  refine lv_dup hx hb dX0_walkBranches_64 rfl ?_
  refine va_get (D := (dC, dI)) (ci := 0) (C := RX0) (T := TX0) (N := 13) hx hb hts inlX0 hown hK hP 41 gA_41 rfl 11 (by decide) (hts (.fieldLink RX0 45 "ShapeReader$Matcher" "steps" "I") mw_0_28) (fun _ h9 => h9) rfl dX0_walkBranches_65 ?_
  refine lv_iconst (v := 1) hx hb dX0_walkBranches_68 (by decide) ?_
  refine lv_isub hx hb dX0_walkBranches_69 ?_
  refine va_put (D := (dC, dI)) (ci := 0) (ty := .int) (C := RX0) (T := TX0) (N := 13) hx hb hts inlX0 tyX0 tyX0_ok nmX0 hown hK hP hD hS 41 gA_41 rfl 11 (by decide) (hts (.fieldLink RX0 45 "ShapeReader$Matcher" "steps" "I") mw_0_28) (fun _ h9 => h9) rfl (by decide +kernel) rfl rfl (Nat.le_of_ble_eq_true rfl) dX0_walkBranches_70 (fun H locs hP hD hS => ?_)
  replace hP := uA_41_11 hP
  replace hD := hD0 ((stI σ 41 11 ((σ.1 41 11) - 1)))
  refine lv_aload_n hx hb dX0_walkBranches_73 rfl (lv_at hl 0 rfl) ?_
  refine va_get (D := (dC, dI)) (ci := 0) (C := RX0) (T := TX0) (N := 13) hx hb hts inlX0 hown hK hP 41 gA_41 rfl 0 (by decide) (hts (.fieldLink RX0 51 "ShapeReader$Matcher" "shapes" "LShapeReader$Shapes;") mw_1_0) (fun _ h9 => h9) rfl dX0_walkBranches_74 ?_
  refine lv_iload hx hb dX0_walkBranches_77 (lv_at hl 3 rfl) ?_
  obtain ⟨q1, hc, h⟩ := ib h
  have hF := va_frees hD hS hA
  refine va_calli (va_runV (As := [.int x4]) (rest := []) ⟨hx, hb, hml, hown, hts⟩ (s_X5_branchAfter_4 hc) (cwV 1 hts (gV mw_2_18 mw_2_19 mw_2_20 mw_0_9 mw_50_8) rfl rfl rfl (by decide +kernel) ⟨by show 1 + 1 ≤ 164 + (nn + 1); omega, by show 8 + (2 + 11) + 21 ≤ 4412 + 28 * (nn + 1); omega⟩) (vV (ci := 5) (q0 := 4) hK hP hD hN rfl gA_4) rfl rfl hl.1 rfl (lv_room (Nat.le_of_ble_eq_true rfl)) dX0_walkBranches_79 ⟨(Nat.le_of_ble_eq_true rfl), (Nat.le_of_ble_eq_true rfl)⟩) hS (fun q _ h => hF q h) hF (fun r2 u t H locs ht hvm hw hB _ _ hS => ?_)
  obtain rfl : r2 = q1.1 := hw
  replace hP : va_P (dC, dI) vwCl (wA a k q1.2) H := by rw [← ht]; exact hB.1
  replace hD := hD0 (q1.2)
  clear hB hF
  refine lv_istore (lv' := [(4, .int q1.1), (0, .ref (a 41)), (2, .int x2), (3, .int x3), (5, .int x5)]) hx hb dX0_walkBranches_82 hl (by decide) rfl (fun ls hl => ?_)
  refine lv_iinc (v := (x5 + 1)) (lv' := [(5, .int (x5 + 1)), (4, .int q1.1), (0, .ref (a 41)), (2, .int x2), (3, .int x3)]) hx hb dX0_walkBranches_84 hl (k := 4) rfl rfl (by decide) rfl (fun ls hl => ?_)
  refine lv_goto (tgt := 13) hx hb dX0_walkBranches_87 (by decide) ?_
  exact hk13 _ _ _ _ _ h _ _ _ hP hD hS (lv_sub hl [2, 3, 4, 1, 0] rfl)

set_option maxRecDepth 100000 in
set_option maxHeartbeats 4000000 in
theorem b_X0_walkBranches_13 {p : Program} {l : Launch} {e : Env} {s : State} {m : MethodId} {args : Array Value} {below : List Frame} {meth : Method} {c : Code} {dC : Nat → ClassId} {dI : Nat → Nat → Nat} {a : Nat → Nat} {k : Nat → ClassId} {A : Nat → Prop} {q : ST} (hC : CxA p s m args meth c dC dI k A cX0_walkBranches RX0 none 6) {nn : Nat} {r_X0_walk : Int32 → Int32 → Int32 → ST → Option (ST)} (hr_X0_walk : ∀ {sz : Nat} {p0 : Int32} {p1 : Int32} {p2 : Int32} {σ : ST} {q : ST}, r_X0_walk  p0 p1 p2 σ = some q → Met l yX0_walk (.code yX0_walk cX0_walk 9 none :: pw) ({ frames := 164 + nn, cells := 0, slots := 0, locals := 4412 + 28 * nn } : Room) (va_Pc [.ref (a 41), .int p0, .int p1, .int p2] (vPre dC dI (wA a k σ) (tA k) sz)) (qAv dC dI a k (va_A (wA a k σ) sz) q) 0 0 (va_A (wA a k σ) sz)) {r_X0_walkBranches : Int32 → Int32 → Int32 → ST → Option (ST)} (hr_X0_walkBranches : ∀ {sz : Nat} {p0 : Int32} {p1 : Int32} {p2 : Int32} {σ : ST} {q : ST}, r_X0_walkBranches  p0 p1 p2 σ = some q → Met l yX0_walkBranches (.code yX0_walkBranches cX0_walkBranches 6 none :: pw) ({ frames := 164 + nn, cells := 0, slots := 0, locals := 4412 + 28 * nn } : Room) (va_Pc [.ref (a 41), .int p0, .int p1, .int p2] (vPre dC dI (wA a k σ) (tA k) sz)) (qAv dC dI a k (va_A (wA a k σ) sz) q) 0 0 (va_A (wA a k σ) sz)) {r_X0_walkFields : Int32 → Int32 → Int32 → ST → Option (ST)} (hr_X0_walkFields : ∀ {sz : Nat} {p0 : Int32} {p1 : Int32} {p2 : Int32} {σ : ST} {q : ST}, r_X0_walkFields  p0 p1 p2 σ = some q → Met l yX0_walkFields (.code yX0_walkFields cX0_walkFields 6 none :: pw) ({ frames := 164 + nn, cells := 0, slots := 0, locals := 4412 + 28 * nn } : Room) (va_Pc [.ref (a 41), .int p0, .int p1, .int p2] (vPre dC dI (wA a k σ) (tA k) sz)) (qAv dC dI a k (va_A (wA a k σ) sz) q) 0 0 (va_A (wA a k σ) sz))  : ∀ (n : Nat) (x2 : Int32) (x3 : Int32) (x4 : Int32) (x5 : Int32) (σ : ST), f_X0_walkBranches_13 r_X0_walk r_X0_walkBranches r_X0_walkFields n x2 x3 x4 x5 σ = some q → GoA p l e ({ frames := 164 + (nn + 1), cells := 0, slots := 0, locals := 4412 + 28 * (nn + 1) } : Room) s m args below meth c (MQ below (qAv dC dI a k A q) args s 0 0 A) dC dI a k A 6 13 σ [(0, .ref (a 41)), (2, .int x2), (3, .int x3), (4, .int x4), (5, .int x5)] [] := by
  intro n
  induction n with
  | zero =>
    intro x2 x3 x4 x5 σ h
    rw [f_X0_walkBranches_13] at h
    cases h
  | succ n ih =>
    intro x2 x3 x4 x5 σ h
    have hC0 := hC
    obtain ⟨hx, hb, hr, hml, hown, hts, hlocks, hA, hN, hK⟩ := hC0
    intro H locs ls hP hD hS hl
    have hD0 : ∀ σ1 : ST, va_D A (wA a k σ1) := fun σ1 => wA_D hD
    rw [f_X0_walkBranches_13] at h
    refine lv_iload hx hb dX0_walkBranches_13 (lv_at hl 4 rfl) ?_
    refine lv_iconst (v := 4) hx hb dX0_walkBranches_15 (by decide) ?_
    refine lv_icmp_ge (tgt := 90) hx hb dX0_walkBranches_16 (by decide) (fun hc => ?_) (fun hc => ?_)
    · replace h := ip hc h
      obtain rfl := Option.some.inj h
      exact W.vret hx hb hr (fun t ht hW => ⟨⟨(), rfl, trivial, ⟨by rw [ht]; exact hP, va_K.moved hW.alike hK, hD⟩⟩, hS.F ht⟩) hS.2.2 dX0_walkBranches_90
    · replace h := iq hc h
      refine lv_iload hx hb dX0_walkBranches_19 (lv_at hl 3 rfl) ?_
      refine lv_iconst (v := (-1)) hx hb dX0_walkBranches_21 (by decide) ?_
      refine lv_icmp_eq (tgt := 90) hx hb dX0_walkBranches_22 (by decide) (fun hc => ?_) (fun hc => ?_)
      · replace h := ip hc h
        obtain rfl := Option.some.inj h
        exact W.vret hx hb hr (fun t ht hW => ⟨⟨(), rfl, trivial, ⟨by rw [ht]; exact hP, va_K.moved hW.alike hK, hD⟩⟩, hS.F ht⟩) hS.2.2 dX0_walkBranches_90
      · replace h := iq hc h
        refine lv_aload_n hx hb dX0_walkBranches_25 rfl (lv_at hl 0 rfl) ?_
        refine lv_sipush (v := 200) hx hb dX0_walkBranches_26 (by decide) ?_
        refine lv_iload hx hb dX0_walkBranches_29 (lv_at hl 4 rfl) ?_
        refine lv_iadd hx hb dX0_walkBranches_31 ?_
        obtain ⟨q1, hc, h⟩ := ib h
        have hF := va_frees hD hS hA
        refine va_callv (va_runV (As := [.int (200 + x5)]) (rest := []) ⟨hx, hb, hml, hown, hts⟩ (s_X0_step hc) (cwV 1 hts (gV mw_3_23 mw_3_24 mw_3_25 mw_0_4 mw_47_21) rfl rfl rfl (by decide +kernel) ⟨by show 0 + 1 ≤ 164 + (nn + 1); omega, by show 8 + (2 + 11) + 0 ≤ 4412 + 28 * (nn + 1); omega⟩) (vV (ci := 0) (q0 := 41) hK hP hD hN rfl gA_41) rfl rfl hl.1 rfl (lv_room (Nat.le_of_ble_eq_true rfl)) dX0_walkBranches_32 ⟨(Nat.le_of_ble_eq_true rfl), (Nat.le_of_ble_eq_true rfl)⟩) hS (fun q _ h => hF q h) hF (fun u t H locs ht hvm hw hB _ _ hS => ?_)
        replace hP : va_P (dC, dI) vwCl (wA a k q1) H := by rw [← ht]; exact hB.1
        replace hD := hD0 (q1)
        clear hB hF
        refine lv_aload_n hx hb dX0_walkBranches_35 rfl (lv_at hl 0 rfl) ?_
        refine lv_iload hx hb dX0_walkBranches_36 (lv_at hl 3 rfl) ?_
        refine lv_iload_n hx hb dX0_walkBranches_38 rfl (lv_at hl 1 rfl) ?_
        obtain ⟨q3, hc, h⟩ := ib h
        have hF := va_frees hD hS hA
        refine va_calli (va_runV (As := [.int x4, .int x2]) (rest := []) ⟨hx, hb, hml, hown, hts⟩ (s_X0_fits hc) (cwV 2 hts (gV mw_3_26 mw_3_27 mw_3_28 mw_0_4 mw_47_9) rfl rfl rfl (by decide +kernel) ⟨by show 163 + 1 ≤ 164 + (nn + 1); omega, by show 8 + (3 + 11) + 4390 ≤ 4412 + 28 * (nn + 1); omega⟩) (vV (ci := 0) (q0 := 41) hK hP hD hN rfl gA_41) rfl rfl hl.1 rfl (lv_room (Nat.le_of_ble_eq_true rfl)) dX0_walkBranches_39 ⟨(Nat.le_of_ble_eq_true rfl), (Nat.le_of_ble_eq_true rfl)⟩) hS (fun q _ h => hF q h) hF (fun r4 u t H locs ht hvm hw hB _ _ hS => ?_)
        obtain rfl : r4 = q3.1 := hw
        replace hP : va_P (dC, dI) vwCl (wA a k q3.2) H := by rw [← ht]; exact hB.1
        replace hD := hD0 (q3.2)
        clear hB hF
        refine lv_if_eq (tgt := 58) hx hb dX0_walkBranches_42 (by decide) (fun hc => ?_) (fun hc => ?_)
        · replace h := ip hc h
          refine lv_aload_n hx hb dX0_walkBranches_58 rfl (lv_at hl 0 rfl) ?_
          refine lv_iconst (v := 4) hx hb dX0_walkBranches_59 (by decide) ?_
          obtain ⟨q5, hc, h⟩ := ib h
          have hF := va_frees hD hS hA
          refine va_callv (va_runV (As := [.int 4]) (rest := []) ⟨hx, hb, hml, hown, hts⟩ (s_X0_addMiss hc) (cwV 1 hts (gV mw_3_17 mw_3_18 mw_3_19 mw_0_4 mw_47_22) rfl rfl rfl (by decide +kernel) ⟨by show 1 + 1 ≤ 164 + (nn + 1); omega, by show 8 + (2 + 11) + 30 ≤ 4412 + 28 * (nn + 1); omega⟩) (vV (ci := 0) (q0 := 41) hK hP hD hN rfl gA_41) rfl rfl hl.1 rfl (lv_room (Nat.le_of_ble_eq_true rfl)) dX0_walkBranches_60 ⟨(Nat.le_of_ble_eq_true rfl), (Nat.le_of_ble_eq_true rfl)⟩) hS (fun q _ h => hF q h) hF (fun u t H locs ht hvm hw hB _ _ hS => ?_)
          replace hP : va_P (dC, dI) vwCl (wA a k q5) H := by rw [← ht]; exact hB.1
          replace hD := hD0 (q5)
          clear hB hF
          exact b_X0_walkBranches_63 hC hr_X0_walk hr_X0_walkBranches hr_X0_walkFields ih h _ _ _ hP hD hS (lv_sub hl [0, 1, 2, 3, 4] rfl)
        · replace h := iq hc h
          refine lv_aload_n hx hb dX0_walkBranches_45 rfl (lv_at hl 0 rfl) ?_
          refine lv_iload hx hb dX0_walkBranches_46 (lv_at hl 3 rfl) ?_
          refine lv_iload_n hx hb dX0_walkBranches_48 rfl (lv_at hl 1 rfl) ?_
          refine lv_iload_n hx hb dX0_walkBranches_49 rfl (lv_at hl 2 rfl) ?_
          refine lv_iconst (v := 1) hx hb dX0_walkBranches_50 (by decide) ?_
          refine lv_iadd hx hb dX0_walkBranches_51 ?_
          obtain ⟨q7, hc, h⟩ := ib h
          have hF := va_frees hD hS hA
          refine va_callv (va_runV (As := [.int x4, .int x2, .int (x3 + 1)]) (rest := []) ⟨hx, hb, hml, hown, hts⟩ (hr_X0_walk hc) (cwV 3 hts (gV mw_3_8 mw_3_9 mw_3_10 mw_0_4 mw_47_18) rfl rfl rfl (by decide +kernel) ⟨by show (164 + nn) + 1 ≤ 164 + (nn + 1); omega, by show 8 + (9 + 11) + (4412 + 28 * nn) ≤ 4412 + 28 * (nn + 1); omega⟩) (vV (ci := 0) (q0 := 41) hK hP hD hN rfl gA_41) rfl rfl hl.1 rfl (lv_room (Nat.le_of_ble_eq_true rfl)) dX0_walkBranches_52 ⟨(Nat.le_of_ble_eq_true rfl), (Nat.le_of_ble_eq_true rfl)⟩) hS (fun q _ h => hF q h) hF (fun u t H locs ht hvm hw hB _ _ hS => ?_)
          replace hP : va_P (dC, dI) vwCl (wA a k q7) H := by rw [← ht]; exact hB.1
          replace hD := hD0 (q7)
          clear hB hF
          refine lv_goto (tgt := 63) hx hb dX0_walkBranches_55 (by decide) ?_
          exact b_X0_walkBranches_63 hC hr_X0_walk hr_X0_walkBranches hr_X0_walkFields ih h _ _ _ hP hD hS (lv_sub hl [0, 1, 2, 3, 4] rfl)

set_option maxRecDepth 100000 in
set_option maxHeartbeats 4000000 in
theorem b_X0_walkBranches_e {p : Program} {l : Launch} {e : Env} {s : State} {m : MethodId} {args : Array Value} {below : List Frame} {meth : Method} {c : Code} {dC : Nat → ClassId} {dI : Nat → Nat → Nat} {a : Nat → Nat} {k : Nat → ClassId} {A : Nat → Prop} {q : ST} (hC : CxA p s m args meth c dC dI k A cX0_walkBranches RX0 none 6) {nn : Nat} {r_X0_walk : Int32 → Int32 → Int32 → ST → Option (ST)} (hr_X0_walk : ∀ {sz : Nat} {p0 : Int32} {p1 : Int32} {p2 : Int32} {σ : ST} {q : ST}, r_X0_walk  p0 p1 p2 σ = some q → Met l yX0_walk (.code yX0_walk cX0_walk 9 none :: pw) ({ frames := 164 + nn, cells := 0, slots := 0, locals := 4412 + 28 * nn } : Room) (va_Pc [.ref (a 41), .int p0, .int p1, .int p2] (vPre dC dI (wA a k σ) (tA k) sz)) (qAv dC dI a k (va_A (wA a k σ) sz) q) 0 0 (va_A (wA a k σ) sz)) {r_X0_walkBranches : Int32 → Int32 → Int32 → ST → Option (ST)} (hr_X0_walkBranches : ∀ {sz : Nat} {p0 : Int32} {p1 : Int32} {p2 : Int32} {σ : ST} {q : ST}, r_X0_walkBranches  p0 p1 p2 σ = some q → Met l yX0_walkBranches (.code yX0_walkBranches cX0_walkBranches 6 none :: pw) ({ frames := 164 + nn, cells := 0, slots := 0, locals := 4412 + 28 * nn } : Room) (va_Pc [.ref (a 41), .int p0, .int p1, .int p2] (vPre dC dI (wA a k σ) (tA k) sz)) (qAv dC dI a k (va_A (wA a k σ) sz) q) 0 0 (va_A (wA a k σ) sz)) {r_X0_walkFields : Int32 → Int32 → Int32 → ST → Option (ST)} (hr_X0_walkFields : ∀ {sz : Nat} {p0 : Int32} {p1 : Int32} {p2 : Int32} {σ : ST} {q : ST}, r_X0_walkFields  p0 p1 p2 σ = some q → Met l yX0_walkFields (.code yX0_walkFields cX0_walkFields 6 none :: pw) ({ frames := 164 + nn, cells := 0, slots := 0, locals := 4412 + 28 * nn } : Room) (va_Pc [.ref (a 41), .int p0, .int p1, .int p2] (vPre dC dI (wA a k σ) (tA k) sz)) (qAv dC dI a k (va_A (wA a k σ) sz) q) 0 0 (va_A (wA a k σ) sz))  {p0 : Int32} {p1 : Int32} {p2 : Int32} {σ : ST} (h : f_X0_walkBranches r_X0_walk r_X0_walkBranches r_X0_walkFields p0 p1 p2 σ = some q) : GoA p l e ({ frames := 164 + (nn + 1), cells := 0, slots := 0, locals := 4412 + 28 * (nn + 1) } : Room) s m args below meth c (MQ below (qAv dC dI a k A q) args s 0 0 A) dC dI a k A 6 0 σ (lv_args 0 [.ref (a 41), .int p0, .int p1, .int p2]) [] := by
  have hC0 := hC
  obtain ⟨hx, hb, hr, hml, hown, hts, hlocks, hA, hN, hK⟩ := hC0
  intro H locs ls hP hD hS hl
  have hD0 : ∀ σ1 : ST, va_D A (wA a k σ1) := fun σ1 => wA_D hD
  replace hl : lv_has ls 6 [(0, .ref (a 41)), (1, .int p0), (2, .int p1), (3, .int p2)] := hl
  unfold f_X0_walkBranches at h
  refine lv_aload_n hx hb dX0_walkBranches_0 rfl (lv_at hl 0 rfl) ?_
  refine va_get (D := (dC, dI)) (ci := 0) (C := RX0) (T := TX0) (N := 13) hx hb hts inlX0 hown hK hP 41 gA_41 rfl 0 (by decide) (hts (.fieldLink RX0 51 "ShapeReader$Matcher" "shapes" "LShapeReader$Shapes;") mw_1_0) (fun _ h9 => h9) rfl dX0_walkBranches_1 ?_
  refine lv_iload_n hx hb dX0_walkBranches_4 rfl (lv_at hl 1 rfl) ?_
  obtain ⟨q1, hc, h⟩ := ib h
  have hF := va_frees hD hS hA
  refine va_calli (va_runV (As := [.int p0]) (rest := []) ⟨hx, hb, hml, hown, hts⟩ (s_X5_innerOf_4 hc) (cwV 1 hts (gV mw_2_15 mw_2_16 mw_2_17 mw_0_9 mw_50_7) rfl rfl rfl (by decide +kernel) ⟨by show 1 + 1 ≤ 164 + (nn + 1); omega, by show 8 + (2 + 11) + 21 ≤ 4412 + 28 * (nn + 1); omega⟩) (vV (ci := 5) (q0 := 4) hK hP hD hN rfl gA_4) rfl rfl hl.1 rfl (lv_room (Nat.le_of_ble_eq_true rfl)) dX0_walkBranches_5 ⟨(Nat.le_of_ble_eq_true rfl), (Nat.le_of_ble_eq_true rfl)⟩) hS (fun q _ h => hF q h) hF (fun r2 u t H locs ht hvm hw hB _ _ hS => ?_)
  obtain rfl : r2 = q1.1 := hw
  replace hP : va_P (dC, dI) vwCl (wA a k q1.2) H := by rw [← ht]; exact hB.1
  replace hD := hD0 (q1.2)
  clear hB hF
  refine lv_istore (lv' := [(4, .int q1.1), (0, .ref (a 41)), (1, .int p0), (2, .int p1), (3, .int p2)]) hx hb dX0_walkBranches_8 hl (by decide) rfl (fun ls hl => ?_)
  refine lv_iconst (v := 0) hx hb dX0_walkBranches_10 (by decide) ?_
  refine lv_istore (lv' := [(5, .int 0), (4, .int q1.1), (0, .ref (a 41)), (1, .int p0), (2, .int p1), (3, .int p2)]) hx hb dX0_walkBranches_11 hl (by decide) rfl (fun ls hl => ?_)
  exact b_X0_walkBranches_13 hC hr_X0_walk hr_X0_walkBranches hr_X0_walkFields FU _ _ _ _ _ h _ _ _ hP hD hS (lv_sub hl [2, 4, 5, 1, 0] rfl)


set_option maxRecDepth 100000 in
set_option maxHeartbeats 4000000 in
theorem b_X0_walkFields_119 {p : Program} {l : Launch} {e : Env} {s : State} {m : MethodId} {args : Array Value} {below : List Frame} {meth : Method} {c : Code} {dC : Nat → ClassId} {dI : Nat → Nat → Nat} {a : Nat → Nat} {k : Nat → ClassId} {A : Nat → Prop} {q : ST} (hC : CxA p s m args meth c dC dI k A cX0_walkFields RX0 none 6) {nn : Nat} {r_X0_walk : Int32 → Int32 → Int32 → ST → Option (ST)} (hr_X0_walk : ∀ {sz : Nat} {p0 : Int32} {p1 : Int32} {p2 : Int32} {σ : ST} {q : ST}, r_X0_walk  p0 p1 p2 σ = some q → Met l yX0_walk (.code yX0_walk cX0_walk 9 none :: pw) ({ frames := 164 + nn, cells := 0, slots := 0, locals := 4412 + 28 * nn } : Room) (va_Pc [.ref (a 41), .int p0, .int p1, .int p2] (vPre dC dI (wA a k σ) (tA k) sz)) (qAv dC dI a k (va_A (wA a k σ) sz) q) 0 0 (va_A (wA a k σ) sz)) {r_X0_walkBranches : Int32 → Int32 → Int32 → ST → Option (ST)} (hr_X0_walkBranches : ∀ {sz : Nat} {p0 : Int32} {p1 : Int32} {p2 : Int32} {σ : ST} {q : ST}, r_X0_walkBranches  p0 p1 p2 σ = some q → Met l yX0_walkBranches (.code yX0_walkBranches cX0_walkBranches 6 none :: pw) ({ frames := 164 + nn, cells := 0, slots := 0, locals := 4412 + 28 * nn } : Room) (va_Pc [.ref (a 41), .int p0, .int p1, .int p2] (vPre dC dI (wA a k σ) (tA k) sz)) (qAv dC dI a k (va_A (wA a k σ) sz) q) 0 0 (va_A (wA a k σ) sz)) {r_X0_walkFields : Int32 → Int32 → Int32 → ST → Option (ST)} (hr_X0_walkFields : ∀ {sz : Nat} {p0 : Int32} {p1 : Int32} {p2 : Int32} {σ : ST} {q : ST}, r_X0_walkFields  p0 p1 p2 σ = some q → Met l yX0_walkFields (.code yX0_walkFields cX0_walkFields 6 none :: pw) ({ frames := 164 + nn, cells := 0, slots := 0, locals := 4412 + 28 * nn } : Room) (va_Pc [.ref (a 41), .int p0, .int p1, .int p2] (vPre dC dI (wA a k σ) (tA k) sz)) (qAv dC dI a k (va_A (wA a k σ) sz) q) 0 0 (va_A (wA a k σ) sz)) {k33 : Int32 → Int32 → Int32 → Int32 → ST → Option (ST)} (hk33 : ∀ (x1 : Int32) (x2 : Int32) (x3 : Int32) (x4 : Int32) (σ : ST), k33 x1 x2 x3 x4 σ = some q → GoA p l e ({ frames := 164 + (nn + 1), cells := 0, slots := 0, locals := 4412 + 28 * (nn + 1) } : Room) s m args below meth c (MQ below (qAv dC dI a k A q) args s 0 0 A) dC dI a k A 6 33 σ [(0, .ref (a 41)), (1, .int x1), (2, .int x2), (3, .int x3), (4, .int x4)] []) {x1 : Int32} {x2 : Int32} {x3 : Int32} {x4 : Int32} {σ : ST} (h : f_X0_walkFields_119 r_X0_walk r_X0_walkBranches r_X0_walkFields k33 x1 x2 x3 x4 σ = some q) : GoA p l e ({ frames := 164 + (nn + 1), cells := 0, slots := 0, locals := 4412 + 28 * (nn + 1) } : Room) s m args below meth c (MQ below (qAv dC dI a k A q) args s 0 0 A) dC dI a k A 6 119 σ [(0, .ref (a 41)), (1, .int x1), (2, .int x2), (3, .int x3), (4, .int x4)] [] := by
  have hC0 := hC
  obtain ⟨hx, hb, hr, hml, hown, hts, hlocks, hA, hN, hK⟩ := hC0
  intro H locs ls hP hD hS hl
  have hD0 : ∀ σ1 : ST, va_D A (wA a k σ1) := fun σ1 => wA_D hD
  unfold f_X0_walkFields_119 at h
  refine lv_aload_n hx hb dX0_walkFields_119 rfl (lv_at hl 0 rfl) ?_
  refine lv_dup hx hb dX0_walkFields_120 rfl ?_
  refine va_get (D := (dC, dI)) (ci := 0) (C := RX0) (T := TX0) (N := 13) hx hb hts inlX0 hown hK hP 41 gA_41 rfl 11 (by decide) (hts (.fieldLink RX0 45 "ShapeReader$Matcher" "steps" "I") mw_0_28) (fun _ h9 => h9) rfl dX0_walkFields_121 ?_
  refine lv_iconst (v := 1) hx hb dX0_walkFields_124 (by decide) ?_
  refine lv_isub hx hb dX0_walkFields_125 ?_
  refine va_put (D := (dC, dI)) (ci := 0) (ty := .int) (C := RX0) (T := TX0) (N := 13) hx hb hts inlX0 tyX0 tyX0_ok nmX0 hown hK hP hD hS 41 gA_41 rfl 11 (by decide) (hts (.fieldLink RX0 45 "ShapeReader$Matcher" "steps" "I") mw_0_28) (fun _ h9 => h9) rfl (by decide +kernel) rfl rfl (Nat.le_of_ble_eq_true rfl) dX0_walkFields_126 (fun H locs hP hD hS => ?_)
  replace hP := uA_41_11 hP
  replace hD := hD0 ((stI σ 41 11 ((σ.1 41 11) - 1)))
  refine lv_iinc (v := (x4 + 1)) (lv' := [(4, .int (x4 + 1)), (0, .ref (a 41)), (1, .int x1), (2, .int x2), (3, .int x3)]) hx hb dX0_walkFields_129 hl (k := 4) rfl rfl (by decide) rfl (fun ls hl => ?_)
  refine lv_goto (tgt := 33) hx hb dX0_walkFields_132 (by decide) ?_
  exact hk33 _ _ _ _ _ h _ _ _ hP hD hS (lv_sub hl [1, 2, 3, 4, 0] rfl)

set_option maxRecDepth 100000 in
set_option maxHeartbeats 4000000 in
theorem b_X0_walkFields_33 {p : Program} {l : Launch} {e : Env} {s : State} {m : MethodId} {args : Array Value} {below : List Frame} {meth : Method} {c : Code} {dC : Nat → ClassId} {dI : Nat → Nat → Nat} {a : Nat → Nat} {k : Nat → ClassId} {A : Nat → Prop} {q : ST} (hC : CxA p s m args meth c dC dI k A cX0_walkFields RX0 none 6) {nn : Nat} {r_X0_walk : Int32 → Int32 → Int32 → ST → Option (ST)} (hr_X0_walk : ∀ {sz : Nat} {p0 : Int32} {p1 : Int32} {p2 : Int32} {σ : ST} {q : ST}, r_X0_walk  p0 p1 p2 σ = some q → Met l yX0_walk (.code yX0_walk cX0_walk 9 none :: pw) ({ frames := 164 + nn, cells := 0, slots := 0, locals := 4412 + 28 * nn } : Room) (va_Pc [.ref (a 41), .int p0, .int p1, .int p2] (vPre dC dI (wA a k σ) (tA k) sz)) (qAv dC dI a k (va_A (wA a k σ) sz) q) 0 0 (va_A (wA a k σ) sz)) {r_X0_walkBranches : Int32 → Int32 → Int32 → ST → Option (ST)} (hr_X0_walkBranches : ∀ {sz : Nat} {p0 : Int32} {p1 : Int32} {p2 : Int32} {σ : ST} {q : ST}, r_X0_walkBranches  p0 p1 p2 σ = some q → Met l yX0_walkBranches (.code yX0_walkBranches cX0_walkBranches 6 none :: pw) ({ frames := 164 + nn, cells := 0, slots := 0, locals := 4412 + 28 * nn } : Room) (va_Pc [.ref (a 41), .int p0, .int p1, .int p2] (vPre dC dI (wA a k σ) (tA k) sz)) (qAv dC dI a k (va_A (wA a k σ) sz) q) 0 0 (va_A (wA a k σ) sz)) {r_X0_walkFields : Int32 → Int32 → Int32 → ST → Option (ST)} (hr_X0_walkFields : ∀ {sz : Nat} {p0 : Int32} {p1 : Int32} {p2 : Int32} {σ : ST} {q : ST}, r_X0_walkFields  p0 p1 p2 σ = some q → Met l yX0_walkFields (.code yX0_walkFields cX0_walkFields 6 none :: pw) ({ frames := 164 + nn, cells := 0, slots := 0, locals := 4412 + 28 * nn } : Room) (va_Pc [.ref (a 41), .int p0, .int p1, .int p2] (vPre dC dI (wA a k σ) (tA k) sz)) (qAv dC dI a k (va_A (wA a k σ) sz) q) 0 0 (va_A (wA a k σ) sz))  : ∀ (n : Nat) (x1 : Int32) (x2 : Int32) (x3 : Int32) (x4 : Int32) (σ : ST), f_X0_walkFields_33 r_X0_walk r_X0_walkBranches r_X0_walkFields n x1 x2 x3 x4 σ = some q → GoA p l e ({ frames := 164 + (nn + 1), cells := 0, slots := 0, locals := 4412 + 28 * (nn + 1) } : Room) s m args below meth c (MQ below (qAv dC dI a k A q) args s 0 0 A) dC dI a k A 6 33 σ [(0, .ref (a 41)), (1, .int x1), (2, .int x2), (3, .int x3), (4, .int x4)] [] := by
  intro n
  induction n with
  | zero =>
    intro x1 x2 x3 x4 σ h
    rw [f_X0_walkFields_33] at h
    cases h
  | succ n ih =>
    intro x1 x2 x3 x4 σ h
    have hC0 := hC
    obtain ⟨hx, hb, hr, hml, hown, hts, hlocks, hA, hN, hK⟩ := hC0
    intro H locs ls hP hD hS hl
    have hD0 : ∀ σ1 : ST, va_D A (wA a k σ1) := fun σ1 => wA_D hD
    rw [f_X0_walkFields_33] at h
    refine lv_iload hx hb dX0_walkFields_33 (lv_at hl 4 rfl) ?_
    refine lv_aload_n hx hb dX0_walkFields_35 rfl (lv_at hl 0 rfl) ?_
    refine va_get (D := (dC, dI)) (ci := 0) (C := RX0) (T := TX0) (N := 13) hx hb hts inlX0 hown hK hP 41 gA_41 rfl 0 (by decide) (hts (.fieldLink RX0 51 "ShapeReader$Matcher" "shapes" "LShapeReader$Shapes;") mw_1_0) (fun _ h9 => h9) rfl dX0_walkFields_36 ?_
    refine lv_iload_n hx hb dX0_walkFields_39 rfl (lv_at hl 2 rfl) ?_
    obtain ⟨q1, hc, h⟩ := ib h
    have hF := va_frees hD hS hA
    refine va_calli (va_runV (As := [.int x2]) (rest := [.int x4]) ⟨hx, hb, hml, hown, hts⟩ (s_X5_fieldsOf_4 hc) (cwV 1 hts (gV mw_1_27 mw_1_28 mw_1_29 mw_0_9 mw_49_29) rfl rfl rfl (by decide +kernel) ⟨by show 1 + 1 ≤ 164 + (nn + 1); omega, by show 8 + (2 + 11) + 20 ≤ 4412 + 28 * (nn + 1); omega⟩) (vV (ci := 5) (q0 := 4) hK hP hD hN rfl gA_4) rfl rfl hl.1 rfl (lv_room (Nat.le_of_ble_eq_true rfl)) dX0_walkFields_40 ⟨(Nat.le_of_ble_eq_true rfl), (Nat.le_of_ble_eq_true rfl)⟩) hS (fun q _ h => hF q h) hF (fun r2 u t H locs ht hvm hw hB _ _ hS => ?_)
    obtain rfl : r2 = q1.1 := hw
    replace hP : va_P (dC, dI) vwCl (wA a k q1.2) H := by rw [← ht]; exact hB.1
    replace hD := hD0 (q1.2)
    clear hB hF
    refine lv_icmp_ge (tgt := 135) hx hb dX0_walkFields_43 (by decide) (fun hc => ?_) (fun hc => ?_)
    · replace h := ip hc h
      obtain rfl := Option.some.inj h
      exact W.vret hx hb hr (fun t ht hW => ⟨⟨(), rfl, trivial, ⟨by rw [ht]; exact hP, va_K.moved hW.alike hK, hD⟩⟩, hS.F ht⟩) hS.2.2 dX0_walkFields_135
    · replace h := iq hc h
      refine lv_aload_n hx hb dX0_walkFields_46 rfl (lv_at hl 0 rfl) ?_
      refine lv_iload hx hb dX0_walkFields_47 (lv_at hl 4 rfl) ?_
      obtain ⟨q3, hc, h⟩ := ib h
      have hF := va_frees hD hS hA
      refine va_callv (va_runV (As := [.int x4]) (rest := []) ⟨hx, hb, hml, hown, hts⟩ (s_X0_step hc) (cwV 1 hts (gV mw_3_23 mw_3_24 mw_3_25 mw_0_4 mw_47_21) rfl rfl rfl (by decide +kernel) ⟨by show 0 + 1 ≤ 164 + (nn + 1); omega, by show 8 + (2 + 11) + 0 ≤ 4412 + 28 * (nn + 1); omega⟩) (vV (ci := 0) (q0 := 41) hK hP hD hN rfl gA_41) rfl rfl hl.1 rfl (lv_room (Nat.le_of_ble_eq_true rfl)) dX0_walkFields_49 ⟨(Nat.le_of_ble_eq_true rfl), (Nat.le_of_ble_eq_true rfl)⟩) hS (fun q _ h => hF q h) hF (fun u t H locs ht hvm hw hB _ _ hS => ?_)
      replace hP : va_P (dC, dI) vwCl (wA a k q3) H := by rw [← ht]; exact hB.1
      replace hD := hD0 (q3)
      clear hB hF
      refine lv_aload_n hx hb dX0_walkFields_52 rfl (lv_at hl 0 rfl) ?_
      refine va_get (D := (dC, dI)) (ci := 0) (C := RX0) (T := TX0) (N := 13) hx hb hts inlX0 hown hK hP 41 gA_41 rfl 0 (by decide) (hts (.fieldLink RX0 51 "ShapeReader$Matcher" "shapes" "LShapeReader$Shapes;") mw_1_0) (fun _ h9 => h9) rfl dX0_walkFields_53 ?_
      refine lv_iload_n hx hb dX0_walkFields_56 rfl (lv_at hl 1 rfl) ?_
      refine lv_iload_n hx hb dX0_walkFields_57 rfl (lv_at hl 2 rfl) ?_
      refine lv_iload hx hb dX0_walkFields_58 (lv_at hl 4 rfl) ?_
      obtain ⟨q5, hc, h⟩ := ib h
      have hF := va_frees hD hS hA
      refine va_calli (va_runV (As := [.int x1, .int x2, .int x4]) (rest := []) ⟨hx, hb, hml, hown, hts⟩ (s_X5_sourceOf_4 hc) (cwV 3 hts (gV mw_2_0 mw_2_1 mw_2_2 mw_0_9 mw_50_15) rfl rfl rfl (by decide +kernel) ⟨by show 2 + 1 ≤ 164 + (nn + 1); omega, by show 8 + (7 + 11) + 47 ≤ 4412 + 28 * (nn + 1); omega⟩) (vV (ci := 5) (q0 := 4) hK hP hD hN rfl gA_4) rfl rfl hl.1 rfl (lv_room (Nat.le_of_ble_eq_true rfl)) dX0_walkFields_60 ⟨(Nat.le_of_ble_eq_true rfl), (Nat.le_of_ble_eq_true rfl)⟩) hS (fun q _ h => hF q h) hF (fun r6 u t H locs ht hvm hw hB _ _ hS => ?_)
      obtain rfl : r6 = q5.1 := hw
      replace hP : va_P (dC, dI) vwCl (wA a k q5.2) H := by rw [← ht]; exact hB.1
      replace hD := hD0 (q5.2)
      clear hB hF
      refine lv_istore (lv' := [(5, .int q5.1), (0, .ref (a 41)), (1, .int x1), (2, .int x2), (3, .int x3), (4, .int x4)]) hx hb dX0_walkFields_63 hl (by decide) rfl (fun ls hl => ?_)
      refine lv_iload hx hb dX0_walkFields_65 (lv_at hl 0 rfl) ?_
      refine lv_iconst (v := (-1)) hx hb dX0_walkFields_67 (by decide) ?_
      refine lv_icmp_eq (tgt := 101) hx hb dX0_walkFields_68 (by decide) (fun hc => ?_) (fun hc => ?_)
      · replace h := ip hc h
        refine lv_aload_n hx hb dX0_walkFields_101 rfl (lv_at hl 1 rfl) ?_
        refine va_get (D := (dC, dI)) (ci := 0) (C := RX0) (T := TX0) (N := 13) hx hb hts inlX0 hown hK hP 41 gA_41 rfl 0 (by decide) (hts (.fieldLink RX0 51 "ShapeReader$Matcher" "shapes" "LShapeReader$Shapes;") mw_1_0) (fun _ h9 => h9) rfl dX0_walkFields_102 ?_
        refine lv_iload_n hx hb dX0_walkFields_105 rfl (lv_at hl 3 rfl) ?_
        refine lv_iload hx hb dX0_walkFields_106 (lv_at hl 5 rfl) ?_
        obtain ⟨q7, hc, h⟩ := ib h
        have hF := va_frees hD hS hA
        refine va_calli (va_runV (As := [.int x2, .int x4]) (rest := []) ⟨hx, hb, hml, hown, hts⟩ (s_X5_hasElse_4 hc) (cwV 2 hts (gV mw_2_3 mw_2_4 mw_2_5 mw_0_9 mw_50_4) rfl rfl rfl (by decide +kernel) ⟨by show 1 + 1 ≤ 164 + (nn + 1); omega, by show 8 + (3 + 11) + 21 ≤ 4412 + 28 * (nn + 1); omega⟩) (vV (ci := 5) (q0 := 4) hK hP hD hN rfl gA_4) rfl rfl hl.1 rfl (lv_room (Nat.le_of_ble_eq_true rfl)) dX0_walkFields_108 ⟨(Nat.le_of_ble_eq_true rfl), (Nat.le_of_ble_eq_true rfl)⟩) hS (fun q _ h => hF q h) hF (fun r8 u t H locs ht hvm hw hB _ _ hS => ?_)
        obtain rfl : r8 = q7.1 := hw
        replace hP : va_P (dC, dI) vwCl (wA a k q7.2) H := by rw [← ht]; exact hB.1
        replace hD := hD0 (q7.2)
        clear hB hF
        refine lv_if_ne (tgt := 119) hx hb dX0_walkFields_111 (by decide) (fun hc => ?_) (fun hc => ?_)
        · replace h := iq hc h
          exact b_X0_walkFields_119 hC hr_X0_walk hr_X0_walkBranches hr_X0_walkFields ih h _ _ _ hP hD hS (lv_sub hl [1, 2, 3, 4, 5] rfl)
        · replace h := ip hc h
          refine lv_aload_n hx hb dX0_walkFields_114 rfl (lv_at hl 1 rfl) ?_
          refine lv_iconst (v := 1) hx hb dX0_walkFields_115 (by decide) ?_
          obtain ⟨q9, hc, h⟩ := ib h
          have hF := va_frees hD hS hA
          refine va_callv (va_runV (As := [.int 1]) (rest := []) ⟨hx, hb, hml, hown, hts⟩ (s_X0_addMiss hc) (cwV 1 hts (gV mw_3_17 mw_3_18 mw_3_19 mw_0_4 mw_47_22) rfl rfl rfl (by decide +kernel) ⟨by show 1 + 1 ≤ 164 + (nn + 1); omega, by show 8 + (2 + 11) + 30 ≤ 4412 + 28 * (nn + 1); omega⟩) (vV (ci := 0) (q0 := 41) hK hP hD hN rfl gA_41) rfl rfl hl.1 rfl (lv_room (Nat.le_of_ble_eq_true rfl)) dX0_walkFields_116 ⟨(Nat.le_of_ble_eq_true rfl), (Nat.le_of_ble_eq_true rfl)⟩) hS (fun q _ h => hF q h) hF (fun u t H locs ht hvm hw hB _ _ hS => ?_)
          replace hP : va_P (dC, dI) vwCl (wA a k q9) H := by rw [← ht]; exact hB.1
          replace hD := hD0 (q9)
          clear hB hF
          exact b_X0_walkFields_119 hC hr_X0_walk hr_X0_walkBranches hr_X0_walkFields ih h _ _ _ hP hD hS (lv_sub hl [1, 2, 3, 4, 5] rfl)
      · replace h := iq hc h
        refine lv_aload_n hx hb dX0_walkFields_71 rfl (lv_at hl 1 rfl) ?_
        refine lv_aload_n hx hb dX0_walkFields_72 rfl (lv_at hl 1 rfl) ?_
        refine va_get (D := (dC, dI)) (ci := 0) (C := RX0) (T := TX0) (N := 13) hx hb hts inlX0 hown hK hP 41 gA_41 rfl 0 (by decide) (hts (.fieldLink RX0 51 "ShapeReader$Matcher" "shapes" "LShapeReader$Shapes;") mw_1_0) (fun _ h9 => h9) rfl dX0_walkFields_73 ?_
        refine lv_iload_n hx hb dX0_walkFields_76 rfl (lv_at hl 2 rfl) ?_
        refine lv_iload hx hb dX0_walkFields_77 (lv_at hl 0 rfl) ?_
        obtain ⟨q11, hc, h⟩ := ib h
        have hF := va_frees hD hS hA
        refine va_calli (va_runV (As := [.int x1, .int q5.1]) (rest := [.ref (a 41)]) ⟨hx, hb, hml, hown, hts⟩ (s_X5_typeOf_4 hc) (cwV 2 hts (gV mw_2_6 mw_2_7 mw_2_8 mw_0_9 mw_50_3) rfl rfl rfl (by decide +kernel) ⟨by show 1 + 1 ≤ 164 + (nn + 1); omega, by show 8 + (3 + 11) + 21 ≤ 4412 + 28 * (nn + 1); omega⟩) (vV (ci := 5) (q0 := 4) hK hP hD hN rfl gA_4) rfl rfl hl.1 rfl (lv_room (Nat.le_of_ble_eq_true rfl)) dX0_walkFields_79 ⟨(Nat.le_of_ble_eq_true rfl), (Nat.le_of_ble_eq_true rfl)⟩) hS (fun q _ h => hF q h) hF (fun r12 u t H locs ht hvm hw hB _ _ hS => ?_)
        obtain rfl : r12 = q11.1 := hw
        replace hP : va_P (dC, dI) vwCl (wA a k q11.2) H := by rw [← ht]; exact hB.1
        replace hD := hD0 (q11.2)
        clear hB hF
        refine lv_aload_n hx hb dX0_walkFields_82 rfl (lv_at hl 1 rfl) ?_
        refine va_get (D := (dC, dI)) (ci := 0) (C := RX0) (T := TX0) (N := 13) hx hb hts inlX0 hown hK hP 41 gA_41 rfl 0 (by decide) (hts (.fieldLink RX0 51 "ShapeReader$Matcher" "shapes" "LShapeReader$Shapes;") mw_1_0) (fun _ h9 => h9) rfl dX0_walkFields_83 ?_
        refine lv_iload_n hx hb dX0_walkFields_86 rfl (lv_at hl 3 rfl) ?_
        refine lv_iload hx hb dX0_walkFields_87 (lv_at hl 5 rfl) ?_
        obtain ⟨q13, hc, h⟩ := ib h
        have hF := va_frees hD hS hA
        refine va_calli (va_runV (As := [.int x2, .int x4]) (rest := [.int q11.1, .ref (a 41)]) ⟨hx, hb, hml, hown, hts⟩ (s_X5_typeOf_4 hc) (cwV 2 hts (gV mw_2_6 mw_2_7 mw_2_8 mw_0_9 mw_50_3) rfl rfl rfl (by decide +kernel) ⟨by show 1 + 1 ≤ 164 + (nn + 1); omega, by show 8 + (3 + 11) + 21 ≤ 4412 + 28 * (nn + 1); omega⟩) (vV (ci := 5) (q0 := 4) hK hP hD hN rfl gA_4) rfl rfl hl.1 rfl (lv_room (Nat.le_of_ble_eq_true rfl)) dX0_walkFields_89 ⟨(Nat.le_of_ble_eq_true rfl), (Nat.le_of_ble_eq_true rfl)⟩) hS (fun q _ h => hF q h) hF (fun r14 u t H locs ht hvm hw hB _ _ hS => ?_)
        obtain rfl : r14 = q13.1 := hw
        replace hP : va_P (dC, dI) vwCl (wA a k q13.2) H := by rw [← ht]; exact hB.1
        replace hD := hD0 (q13.2)
        clear hB hF
        refine lv_iload_n hx hb dX0_walkFields_92 rfl (lv_at hl 4 rfl) ?_
        refine lv_iconst (v := 1) hx hb dX0_walkFields_93 (by decide) ?_
        refine lv_iadd hx hb dX0_walkFields_94 ?_
        obtain ⟨q15, hc, h⟩ := ib h
        have hF := va_frees hD hS hA
        refine va_callv (va_runV (As := [.int q11.1, .int q13.1, .int (x3 + 1)]) (rest := []) ⟨hx, hb, hml, hown, hts⟩ (hr_X0_walk hc) (cwV 3 hts (gV mw_3_8 mw_3_9 mw_3_10 mw_0_4 mw_47_18) rfl rfl rfl (by decide +kernel) ⟨by show (164 + nn) + 1 ≤ 164 + (nn + 1); omega, by show 8 + (9 + 11) + (4412 + 28 * nn) ≤ 4412 + 28 * (nn + 1); omega⟩) (vV (ci := 0) (q0 := 41) hK hP hD hN rfl gA_41) rfl rfl hl.1 rfl (lv_room (Nat.le_of_ble_eq_true rfl)) dX0_walkFields_95 ⟨(Nat.le_of_ble_eq_true rfl), (Nat.le_of_ble_eq_true rfl)⟩) hS (fun q _ h => hF q h) hF (fun u t H locs ht hvm hw hB _ _ hS => ?_)
        replace hP : va_P (dC, dI) vwCl (wA a k q15) H := by rw [← ht]; exact hB.1
        replace hD := hD0 (q15)
        clear hB hF
        refine lv_goto (tgt := 119) hx hb dX0_walkFields_98 (by decide) ?_
        exact b_X0_walkFields_119 hC hr_X0_walk hr_X0_walkBranches hr_X0_walkFields ih h _ _ _ hP hD hS (lv_sub hl [1, 2, 3, 4, 5] rfl)

set_option maxRecDepth 100000 in
set_option maxHeartbeats 4000000 in
theorem b_X0_walkFields_e {p : Program} {l : Launch} {e : Env} {s : State} {m : MethodId} {args : Array Value} {below : List Frame} {meth : Method} {c : Code} {dC : Nat → ClassId} {dI : Nat → Nat → Nat} {a : Nat → Nat} {k : Nat → ClassId} {A : Nat → Prop} {q : ST} (hC : CxA p s m args meth c dC dI k A cX0_walkFields RX0 none 6) {nn : Nat} {r_X0_walk : Int32 → Int32 → Int32 → ST → Option (ST)} (hr_X0_walk : ∀ {sz : Nat} {p0 : Int32} {p1 : Int32} {p2 : Int32} {σ : ST} {q : ST}, r_X0_walk  p0 p1 p2 σ = some q → Met l yX0_walk (.code yX0_walk cX0_walk 9 none :: pw) ({ frames := 164 + nn, cells := 0, slots := 0, locals := 4412 + 28 * nn } : Room) (va_Pc [.ref (a 41), .int p0, .int p1, .int p2] (vPre dC dI (wA a k σ) (tA k) sz)) (qAv dC dI a k (va_A (wA a k σ) sz) q) 0 0 (va_A (wA a k σ) sz)) {r_X0_walkBranches : Int32 → Int32 → Int32 → ST → Option (ST)} (hr_X0_walkBranches : ∀ {sz : Nat} {p0 : Int32} {p1 : Int32} {p2 : Int32} {σ : ST} {q : ST}, r_X0_walkBranches  p0 p1 p2 σ = some q → Met l yX0_walkBranches (.code yX0_walkBranches cX0_walkBranches 6 none :: pw) ({ frames := 164 + nn, cells := 0, slots := 0, locals := 4412 + 28 * nn } : Room) (va_Pc [.ref (a 41), .int p0, .int p1, .int p2] (vPre dC dI (wA a k σ) (tA k) sz)) (qAv dC dI a k (va_A (wA a k σ) sz) q) 0 0 (va_A (wA a k σ) sz)) {r_X0_walkFields : Int32 → Int32 → Int32 → ST → Option (ST)} (hr_X0_walkFields : ∀ {sz : Nat} {p0 : Int32} {p1 : Int32} {p2 : Int32} {σ : ST} {q : ST}, r_X0_walkFields  p0 p1 p2 σ = some q → Met l yX0_walkFields (.code yX0_walkFields cX0_walkFields 6 none :: pw) ({ frames := 164 + nn, cells := 0, slots := 0, locals := 4412 + 28 * nn } : Room) (va_Pc [.ref (a 41), .int p0, .int p1, .int p2] (vPre dC dI (wA a k σ) (tA k) sz)) (qAv dC dI a k (va_A (wA a k σ) sz) q) 0 0 (va_A (wA a k σ) sz))  {p0 : Int32} {p1 : Int32} {p2 : Int32} {σ : ST} (h : f_X0_walkFields r_X0_walk r_X0_walkBranches r_X0_walkFields p0 p1 p2 σ = some q) : GoA p l e ({ frames := 164 + (nn + 1), cells := 0, slots := 0, locals := 4412 + 28 * (nn + 1) } : Room) s m args below meth c (MQ below (qAv dC dI a k A q) args s 0 0 A) dC dI a k A 6 0 σ (lv_args 0 [.ref (a 41), .int p0, .int p1, .int p2]) [] := by
  have hC0 := hC
  obtain ⟨hx, hb, hr, hml, hown, hts, hlocks, hA, hN, hK⟩ := hC0
  intro H locs ls hP hD hS hl
  have hD0 : ∀ σ1 : ST, va_D A (wA a k σ1) := fun σ1 => wA_D hD
  replace hl : lv_has ls 6 [(0, .ref (a 41)), (1, .int p0), (2, .int p1), (3, .int p2)] := hl
  unfold f_X0_walkFields at h
  refine lv_aload_n hx hb dX0_walkFields_0 rfl (lv_at hl 0 rfl) ?_
  refine va_get (D := (dC, dI)) (ci := 0) (C := RX0) (T := TX0) (N := 13) hx hb hts inlX0 hown hK hP 41 gA_41 rfl 12 (by decide) (hts (.fieldLink RX0 48 "ShapeReader$Matcher" "seen" "J") mw_0_29) (fun _ h9 => h9) rfl dX0_walkFields_1 ?_
  refine lv_iload_n hx hb dX0_walkFields_4 rfl (lv_at hl 1 rfl) ?_
  refine lv_iload_n hx hb dX0_walkFields_5 rfl (lv_at hl 2 rfl) ?_
  obtain ⟨q1, hc, h⟩ := ib h
  have hF := va_frees hD hS hA
  refine va_calll (va_runS (As := [.int p0, .int p1]) (rest := [.long (σ.2.1 41 12)]) ⟨hx, hb, hml, hown, hts⟩ (s_X0_bitOf hc) (va_cwS 2 hts (gS mw_1_18 mw_1_19 mw_0_4 mw_47_4) rfl rfl rfl (by decide +kernel) ⟨by show 1 + 1 ≤ 164 + (nn + 1); omega, by show 8 + (2 + 11) + 22 ≤ 4412 + 28 * (nn + 1); omega⟩) (vS hK hP hD hN) rfl rfl hl.1 rfl (lv_room (Nat.le_of_ble_eq_true rfl)) dX0_walkFields_6 ⟨(Nat.le_of_ble_eq_true rfl), (Nat.le_of_ble_eq_true rfl)⟩) hS (fun q _ h => hF q h) hF (fun r2 u t H locs ht hvm hw hB _ _ hS => ?_)
  obtain rfl : r2 = q1.1 := hw
  replace hP : va_P (dC, dI) vwCl (wA a k q1.2) H := by rw [← ht]; exact hB.1
  replace hD := hD0 (q1.2)
  clear hB hF
  refine lv_land hx hb dX0_walkFields_9 ?_
  refine lv_lconst (v := 0) hx hb dX0_walkFields_10 (by decide) ?_
  refine W.lcmp hx hb dX0_walkFields_11 ?_
  refine lv_if_eq (tgt := 16) hx hb dX0_walkFields_12 (by decide) (fun hc => ?_) (fun hc => ?_)
  · replace h := ip hc h
    refine lv_aload_n hx hb dX0_walkFields_16 rfl (lv_at hl 0 rfl) ?_
    refine lv_dup hx hb dX0_walkFields_17 rfl ?_
    refine va_get (D := (dC, dI)) (ci := 0) (C := RX0) (T := TX0) (N := 13) hx hb hts inlX0 hown hK hP 41 gA_41 rfl 12 (by decide) (hts (.fieldLink RX0 48 "ShapeReader$Matcher" "seen" "J") mw_0_29) (fun _ h9 => h9) rfl dX0_walkFields_18 ?_
    refine lv_iload_n hx hb dX0_walkFields_21 rfl (lv_at hl 1 rfl) ?_
    refine lv_iload_n hx hb dX0_walkFields_22 rfl (lv_at hl 2 rfl) ?_
    obtain ⟨q3, hc, h⟩ := ib h
    have hF := va_frees hD hS hA
    refine va_calll (va_runS (As := [.int p0, .int p1]) (rest := [.long (q1.2.2.1 41 12), .ref (a 41)]) ⟨hx, hb, hml, hown, hts⟩ (s_X0_bitOf hc) (va_cwS 2 hts (gS mw_1_18 mw_1_19 mw_0_4 mw_47_4) rfl rfl rfl (by decide +kernel) ⟨by show 1 + 1 ≤ 164 + (nn + 1); omega, by show 8 + (2 + 11) + 22 ≤ 4412 + 28 * (nn + 1); omega⟩) (vS hK hP hD hN) rfl rfl hl.1 rfl (lv_room (Nat.le_of_ble_eq_true rfl)) dX0_walkFields_23 ⟨(Nat.le_of_ble_eq_true rfl), (Nat.le_of_ble_eq_true rfl)⟩) hS (fun q _ h => hF q h) hF (fun r4 u t H locs ht hvm hw hB _ _ hS => ?_)
    obtain rfl : r4 = q3.1 := hw
    replace hP : va_P (dC, dI) vwCl (wA a k q3.2) H := by rw [← ht]; exact hB.1
    replace hD := hD0 (q3.2)
    clear hB hF
    refine lv_lor hx hb dX0_walkFields_26 ?_
    refine va_put (D := (dC, dI)) (ci := 0) (ty := .long) (C := RX0) (T := TX0) (N := 13) hx hb hts inlX0 tyX0 tyX0_ok nmX0 hown hK hP hD hS 41 gA_41 rfl 12 (by decide) (hts (.fieldLink RX0 48 "ShapeReader$Matcher" "seen" "J") mw_0_29) (fun _ h9 => h9) rfl (by decide +kernel) rfl rfl (Nat.le_of_ble_eq_true rfl) dX0_walkFields_27 (fun H locs hP hD hS => ?_)
    replace hP := uA_41_12 hP
    replace hD := hD0 ((stL q3.2 41 12 ((q1.2.2.1 41 12) ||| q3.1)))
    refine lv_iconst (v := 0) hx hb dX0_walkFields_30 (by decide) ?_
    refine lv_istore (lv' := [(4, .int 0), (0, .ref (a 41)), (1, .int p0), (2, .int p1), (3, .int p2)]) hx hb dX0_walkFields_31 hl (by decide) rfl (fun ls hl => ?_)
    exact b_X0_walkFields_33 hC hr_X0_walk hr_X0_walkBranches hr_X0_walkFields FU _ _ _ _ _ h _ _ _ hP hD hS (lv_sub hl [1, 2, 3, 4, 0] rfl)
  · replace h := iq hc h
    obtain rfl := Option.some.inj h
    exact W.vret hx hb hr (fun t ht hW => ⟨⟨(), rfl, trivial, ⟨by rw [ht]; exact hP, va_K.moved hW.alike hK, hD⟩⟩, hS.F ht⟩) hS.2.2 dX0_walkFields_15


set_option maxRecDepth 100000 in
set_option maxHeartbeats 4000000 in
theorem s_R_X0_walk {l : Launch} {dC : Nat → ClassId} {dI : Nat → Nat → Nat} {a : Nat → Nat} {k : Nat → ClassId} : ∀ n : Nat, (∀ {sz : Nat} {p0 : Int32} {p1 : Int32} {p2 : Int32} {σ : ST} {q : ST}, (R_X0_walk n).1 p0 p1 p2 σ = some q → Met l yX0_walk (.code yX0_walk cX0_walk 9 none :: pw) ({ frames := 164 + n, cells := 0, slots := 0, locals := 4412 + 28 * n } : Room) (va_Pc [.ref (a 41), .int p0, .int p1, .int p2] (vPre dC dI (wA a k σ) (tA k) sz)) (qAv dC dI a k (va_A (wA a k σ) sz) q) 0 0 (va_A (wA a k σ) sz)) ∧ (∀ {sz : Nat} {p0 : Int32} {p1 : Int32} {p2 : Int32} {σ : ST} {q : ST}, (R_X0_walk n).2.1 p0 p1 p2 σ = some q → Met l yX0_walkBranches (.code yX0_walkBranches cX0_walkBranches 6 none :: pw) ({ frames := 164 + n, cells := 0, slots := 0, locals := 4412 + 28 * n } : Room) (va_Pc [.ref (a 41), .int p0, .int p1, .int p2] (vPre dC dI (wA a k σ) (tA k) sz)) (qAv dC dI a k (va_A (wA a k σ) sz) q) 0 0 (va_A (wA a k σ) sz)) ∧ (∀ {sz : Nat} {p0 : Int32} {p1 : Int32} {p2 : Int32} {σ : ST} {q : ST}, (R_X0_walk n).2.2 p0 p1 p2 σ = some q → Met l yX0_walkFields (.code yX0_walkFields cX0_walkFields 6 none :: pw) ({ frames := 164 + n, cells := 0, slots := 0, locals := 4412 + 28 * n } : Room) (va_Pc [.ref (a 41), .int p0, .int p1, .int p2] (vPre dC dI (wA a k σ) (tA k) sz)) (qAv dC dI a k (va_A (wA a k σ) sz) q) 0 0 (va_A (wA a k σ) sz)) := by
  intro n
  induction n with
  | zero => exact ⟨(fun h => nomatch h), (fun h => nomatch h), (fun h => nomatch h)⟩
  | succ n ih => exact ⟨(fun h => metA (fun A => qAv dC dI a k A _) (plainFor_of_name (by decide)) (Nat.le_of_ble_eq_true rfl) (fun _ _ _ _ _ _ _ _ hC => b_X0_walk_e hC ih.1 ih.2.1 ih.2.2 h)), (fun h => metA (fun A => qAv dC dI a k A _) (plainFor_of_name (by decide)) (Nat.le_of_ble_eq_true rfl) (fun _ _ _ _ _ _ _ _ hC => b_X0_walkBranches_e hC ih.1 ih.2.1 ih.2.2 h)), (fun h => metA (fun A => qAv dC dI a k A _) (plainFor_of_name (by decide)) (Nat.le_of_ble_eq_true rfl) (fun _ _ _ _ _ _ _ _ hC => b_X0_walkFields_e hC ih.1 ih.2.1 ih.2.2 h))⟩
theorem s_X0_walk {l : Launch} {dC : Nat → ClassId} {dI : Nat → Nat → Nat} {a : Nat → Nat} {k : Nat → ClassId} {sz : Nat} {p0 : Int32} {p1 : Int32} {p2 : Int32} {σ : ST} {q : ST} (h : f_T_X0_walk p0 p1 p2 σ = some q) : Met l yX0_walk (.code yX0_walk cX0_walk 9 none :: pw) ({ frames := 324, cells := 0, slots := 0, locals := 8892 } : Room) (va_Pc [.ref (a 41), .int p0, .int p1, .int p2] (vPre dC dI (wA a k σ) (tA k) sz)) (qAv dC dI a k (va_A (wA a k σ) sz) q) 0 0 (va_A (wA a k σ) sz) := (s_R_X0_walk FR).1 h
theorem s_X0_walkBranches {l : Launch} {dC : Nat → ClassId} {dI : Nat → Nat → Nat} {a : Nat → Nat} {k : Nat → ClassId} {sz : Nat} {p0 : Int32} {p1 : Int32} {p2 : Int32} {σ : ST} {q : ST} (h : f_T_X0_walkBranches p0 p1 p2 σ = some q) : Met l yX0_walkBranches (.code yX0_walkBranches cX0_walkBranches 6 none :: pw) ({ frames := 324, cells := 0, slots := 0, locals := 8892 } : Room) (va_Pc [.ref (a 41), .int p0, .int p1, .int p2] (vPre dC dI (wA a k σ) (tA k) sz)) (qAv dC dI a k (va_A (wA a k σ) sz) q) 0 0 (va_A (wA a k σ) sz) := (s_R_X0_walk FR).2.1 h
theorem s_X0_walkFields {l : Launch} {dC : Nat → ClassId} {dI : Nat → Nat → Nat} {a : Nat → Nat} {k : Nat → ClassId} {sz : Nat} {p0 : Int32} {p1 : Int32} {p2 : Int32} {σ : ST} {q : ST} (h : f_T_X0_walkFields p0 p1 p2 σ = some q) : Met l yX0_walkFields (.code yX0_walkFields cX0_walkFields 6 none :: pw) ({ frames := 324, cells := 0, slots := 0, locals := 8892 } : Room) (va_Pc [.ref (a 41), .int p0, .int p1, .int p2] (vPre dC dI (wA a k σ) (tA k) sz)) (qAv dC dI a k (va_A (wA a k σ) sz) q) 0 0 (va_A (wA a k σ) sz) := (s_R_X0_walk FR).2.2 h

def f_X5_rootType (b : Nat) (p0 : Int32) (σ : ST) : Option (Int32 × ST) := if p0 < 0 then (some ((-1), σ)) else (if 6 ≤ p0 then (some ((-1), σ)) else (if 0 ≤ p0.toInt ∧ p0.toInt < 6 then (some ((σ.1 (b + 2) p0.toNatClampNeg), σ)) else none))

set_option maxRecDepth 100000 in
set_option maxHeartbeats 4000000 in
theorem b_X5_rootType_e_4 {p : Program} {l : Launch} {e : Env} {s : State} {m : MethodId} {args : Array Value} {below : List Frame} {meth : Method} {c : Code} {dC : Nat → ClassId} {dI : Nat → Nat → Nat} {a : Nat → Nat} {k : Nat → ClassId} {A : Nat → Prop} {q : Int32 × ST} (hC : CxA p s m args meth c dC dI k A cX5_rootType RX5 (some .int) 2)   {p0 : Int32} {σ : ST} (h : f_X5_rootType 4 p0 σ = some q) : GoA p l e ({ frames := 0, cells := 0, slots := 0, locals := 0 } : Room) s m args below meth c (MQ below (qAi dC dI a k A q) args s 0 0 A) dC dI a k A 2 0 σ (lv_args 0 [.ref (a 4), .int p0]) [] := by
  have hC0 := hC
  obtain ⟨hx, hb, hr, hml, hown, hts, hlocks, hA, hN, hK⟩ := hC0
  intro H locs ls hP hD hS hl
  have hD0 : ∀ σ1 : ST, va_D A (wA a k σ1) := fun σ1 => wA_D hD
  replace hl : lv_has ls 2 [(0, .ref (a 4)), (1, .int p0)] := hl
  unfold f_X5_rootType at h
  refine lv_iload_n hx hb dX5_rootType_0 rfl (lv_at hl 1 rfl) ?_
  refine lv_if_lt (tgt := 19) hx hb dX5_rootType_1 (by decide) (fun hc => ?_) (fun hc => ?_)
  · replace h := ip hc h
    refine lv_iconst (v := (-1)) hx hb dX5_rootType_19 (by decide) ?_
    obtain rfl := Option.some.inj h
    exact W.iret hx hb hr (fun t ht hW => ⟨⟨_, (), rfl, rfl, ⟨by rw [ht]; exact hP, va_K.moved hW.alike hK, hD⟩⟩, hS.F ht⟩) hS.2.2 dX5_rootType_20
  · replace h := iq hc h
    refine lv_iload_n hx hb dX5_rootType_4 rfl (lv_at hl 1 rfl) ?_
    refine lv_bipush (v := 6) hx hb dX5_rootType_5 (by decide) ?_
    refine lv_icmp_ge (tgt := 19) hx hb dX5_rootType_7 (by decide) (fun hc => ?_) (fun hc => ?_)
    · replace h := ip hc h
      refine lv_iconst (v := (-1)) hx hb dX5_rootType_19 (by decide) ?_
      obtain rfl := Option.some.inj h
      exact W.iret hx hb hr (fun t ht hW => ⟨⟨_, (), rfl, rfl, ⟨by rw [ht]; exact hP, va_K.moved hW.alike hK, hD⟩⟩, hS.F ht⟩) hS.2.2 dX5_rootType_20
    · replace h := iq hc h
      refine lv_aload_n hx hb dX5_rootType_10 rfl (lv_at hl 0 rfl) ?_
      refine va_get (D := (dC, dI)) (ci := 5) (C := RX5) (T := TX5) (N := 17) hx hb hts inlX5 hown hK hP 4 gA_4 rfl 3 (by decide) (hts (.fieldLink RX5 22 "ShapeReader$Shapes" "rootTypes" "[I") mw_14_20) (fun _ h9 => h9) rfl dX5_rootType_11 ?_
      refine lv_iload_n hx hb dX5_rootType_14 rfl (lv_at hl 1 rfl) ?_
      obtain ⟨hg1, h⟩ := ig h
      refine va_iald hx hb hK hP 6 3 gA_6 yA_6 (vp_in_iff.mpr hg1) dX5_rootType_15 ?_
      refine lv_goto (tgt := 20) hx hb dX5_rootType_16 (by decide) ?_
      obtain rfl := Option.some.inj h
      exact W.iret hx hb hr (fun t ht hW => ⟨⟨_, (), rfl, rfl, ⟨by rw [ht]; exact hP, va_K.moved hW.alike hK, hD⟩⟩, hS.F ht⟩) hS.2.2 dX5_rootType_20

theorem s_X5_rootType_4 {l : Launch} {dC : Nat → ClassId} {dI : Nat → Nat → Nat} {a : Nat → Nat} {k : Nat → ClassId} {sz : Nat} {p0 : Int32} {σ : ST} {q : Int32 × ST} (h : f_X5_rootType 4 p0 σ = some q) : Met l yX5_rootType (.code yX5_rootType cX5_rootType 2 (some .int) :: pw) ({ frames := 0, cells := 0, slots := 0, locals := 0 } : Room) (va_Pc [.ref (a 4), .int p0] (vPre dC dI (wA a k σ) (tA k) sz)) (qAi dC dI a k (va_A (wA a k σ) sz) q) 0 0 (va_A (wA a k σ) sz) := metA (fun A => qAi dC dI a k A q) (plainFor_of_name (by decide)) (Nat.le_of_ble_eq_true rfl) (fun _ _ _ _ _ _ _ _ hC => b_X5_rootType_e_4 hC h)

set_option maxRecDepth 100000 in
set_option maxHeartbeats 4000000 in
theorem b_X5_rootType_e_20 {p : Program} {l : Launch} {e : Env} {s : State} {m : MethodId} {args : Array Value} {below : List Frame} {meth : Method} {c : Code} {dC : Nat → ClassId} {dI : Nat → Nat → Nat} {a : Nat → Nat} {k : Nat → ClassId} {A : Nat → Prop} {q : Int32 × ST} (hC : CxA p s m args meth c dC dI k A cX5_rootType RX5 (some .int) 2)   {p0 : Int32} {σ : ST} (h : f_X5_rootType 20 p0 σ = some q) : GoA p l e ({ frames := 0, cells := 0, slots := 0, locals := 0 } : Room) s m args below meth c (MQ below (qAi dC dI a k A q) args s 0 0 A) dC dI a k A 2 0 σ (lv_args 0 [.ref (a 20), .int p0]) [] := by
  have hC0 := hC
  obtain ⟨hx, hb, hr, hml, hown, hts, hlocks, hA, hN, hK⟩ := hC0
  intro H locs ls hP hD hS hl
  have hD0 : ∀ σ1 : ST, va_D A (wA a k σ1) := fun σ1 => wA_D hD
  replace hl : lv_has ls 2 [(0, .ref (a 20)), (1, .int p0)] := hl
  unfold f_X5_rootType at h
  refine lv_iload_n hx hb dX5_rootType_0 rfl (lv_at hl 1 rfl) ?_
  refine lv_if_lt (tgt := 19) hx hb dX5_rootType_1 (by decide) (fun hc => ?_) (fun hc => ?_)
  · replace h := ip hc h
    refine lv_iconst (v := (-1)) hx hb dX5_rootType_19 (by decide) ?_
    obtain rfl := Option.some.inj h
    exact W.iret hx hb hr (fun t ht hW => ⟨⟨_, (), rfl, rfl, ⟨by rw [ht]; exact hP, va_K.moved hW.alike hK, hD⟩⟩, hS.F ht⟩) hS.2.2 dX5_rootType_20
  · replace h := iq hc h
    refine lv_iload_n hx hb dX5_rootType_4 rfl (lv_at hl 1 rfl) ?_
    refine lv_bipush (v := 6) hx hb dX5_rootType_5 (by decide) ?_
    refine lv_icmp_ge (tgt := 19) hx hb dX5_rootType_7 (by decide) (fun hc => ?_) (fun hc => ?_)
    · replace h := ip hc h
      refine lv_iconst (v := (-1)) hx hb dX5_rootType_19 (by decide) ?_
      obtain rfl := Option.some.inj h
      exact W.iret hx hb hr (fun t ht hW => ⟨⟨_, (), rfl, rfl, ⟨by rw [ht]; exact hP, va_K.moved hW.alike hK, hD⟩⟩, hS.F ht⟩) hS.2.2 dX5_rootType_20
    · replace h := iq hc h
      refine lv_aload_n hx hb dX5_rootType_10 rfl (lv_at hl 0 rfl) ?_
      refine va_get (D := (dC, dI)) (ci := 5) (C := RX5) (T := TX5) (N := 17) hx hb hts inlX5 hown hK hP 20 gA_20 rfl 3 (by decide) (hts (.fieldLink RX5 22 "ShapeReader$Shapes" "rootTypes" "[I") mw_14_20) (fun _ h9 => h9) rfl dX5_rootType_11 ?_
      refine lv_iload_n hx hb dX5_rootType_14 rfl (lv_at hl 1 rfl) ?_
      obtain ⟨hg1, h⟩ := ig h
      refine va_iald hx hb hK hP 22 18 gA_22 yA_22 (vp_in_iff.mpr hg1) dX5_rootType_15 ?_
      refine lv_goto (tgt := 20) hx hb dX5_rootType_16 (by decide) ?_
      obtain rfl := Option.some.inj h
      exact W.iret hx hb hr (fun t ht hW => ⟨⟨_, (), rfl, rfl, ⟨by rw [ht]; exact hP, va_K.moved hW.alike hK, hD⟩⟩, hS.F ht⟩) hS.2.2 dX5_rootType_20

theorem s_X5_rootType_20 {l : Launch} {dC : Nat → ClassId} {dI : Nat → Nat → Nat} {a : Nat → Nat} {k : Nat → ClassId} {sz : Nat} {p0 : Int32} {σ : ST} {q : Int32 × ST} (h : f_X5_rootType 20 p0 σ = some q) : Met l yX5_rootType (.code yX5_rootType cX5_rootType 2 (some .int) :: pw) ({ frames := 0, cells := 0, slots := 0, locals := 0 } : Room) (va_Pc [.ref (a 20), .int p0] (vPre dC dI (wA a k σ) (tA k) sz)) (qAi dC dI a k (va_A (wA a k σ) sz) q) 0 0 (va_A (wA a k σ) sz) := metA (fun A => qAi dC dI a k A q) (plainFor_of_name (by decide)) (Nat.le_of_ble_eq_true rfl) (fun _ _ _ _ _ _ _ _ hC => b_X5_rootType_e_20 hC h)

def f_X0_collectMisses (p0 : Int32) (p1 : Int32) (σ : ST) : Option (ST) := (f_X0_pairOf  p0 p1 σ).bind fun q1 => if (q1.2.1 41 5) = q1.1 then (some q1.2) else ((f_X5_rootType 4 p0 (stL (stI (stI (stI q1.2 41 5 q1.1) 41 6 0) 41 11 0) 41 12 0)).bind fun q3 => (f_X5_rootType 4 p1 q3.2).bind fun q5 => (f_T_X0_walk  q3.1 q5.1 0 q5.2).bind fun q7 => some q7)

set_option maxRecDepth 100000 in
set_option maxHeartbeats 4000000 in
theorem b_X0_collectMisses_e {p : Program} {l : Launch} {e : Env} {s : State} {m : MethodId} {args : Array Value} {below : List Frame} {meth : Method} {c : Code} {dC : Nat → ClassId} {dI : Nat → Nat → Nat} {a : Nat → Nat} {k : Nat → ClassId} {A : Nat → Prop} {q : ST} (hC : CxA p s m args meth c dC dI k A cX0_collectMisses RX0 none 4)   {p0 : Int32} {p1 : Int32} {σ : ST} (h : f_X0_collectMisses  p0 p1 σ = some q) : GoA p l e ({ frames := 325, cells := 0, slots := 0, locals := 8920 } : Room) s m args below meth c (MQ below (qAv dC dI a k A q) args s 0 0 A) dC dI a k A 4 0 σ (lv_args 0 [.ref (a 41), .int p0, .int p1]) [] := by
  have hC0 := hC
  obtain ⟨hx, hb, hr, hml, hown, hts, hlocks, hA, hN, hK⟩ := hC0
  intro H locs ls hP hD hS hl
  have hD0 : ∀ σ1 : ST, va_D A (wA a k σ1) := fun σ1 => wA_D hD
  replace hl : lv_has ls 4 [(0, .ref (a 41)), (1, .int p0), (2, .int p1)] := hl
  unfold f_X0_collectMisses at h
  refine lv_iload_n hx hb dX0_collectMisses_0 rfl (lv_at hl 1 rfl) ?_
  refine lv_iload_n hx hb dX0_collectMisses_1 rfl (lv_at hl 2 rfl) ?_
  obtain ⟨q1, hc, h⟩ := ib h
  have hF := va_frees hD hS hA
  refine va_calli (va_runS (As := [.int p0, .int p1]) (rest := []) ⟨hx, hb, hml, hown, hts⟩ (s_X0_pairOf hc) (va_cwS 2 hts (gS mw_1_7 mw_1_8 mw_0_4 mw_47_3) rfl rfl rfl (by decide +kernel) ⟨(Nat.le_of_ble_eq_true rfl), (Nat.le_of_ble_eq_true rfl)⟩) (vS hK hP hD hN) rfl rfl hl.1 rfl (lv_room (Nat.le_of_ble_eq_true rfl)) dX0_collectMisses_2 ⟨(Nat.le_of_ble_eq_true rfl), (Nat.le_of_ble_eq_true rfl)⟩) hS (fun q _ h => hF q h) hF (fun r2 u t H locs ht hvm hw hB _ _ hS => ?_)
  obtain rfl : r2 = q1.1 := hw
  replace hP : va_P (dC, dI) vwCl (wA a k q1.2) H := by rw [← ht]; exact hB.1
  replace hD := hD0 (q1.2)
  clear hB hF
  refine lv_istore_n (lv' := [(3, .int q1.1), (0, .ref (a 41)), (1, .int p0), (2, .int p1)]) hx hb dX0_collectMisses_5 rfl hl (by decide) rfl (fun ls hl => ?_)
  refine lv_aload_n hx hb dX0_collectMisses_6 rfl (lv_at hl 1 rfl) ?_
  refine va_get (D := (dC, dI)) (ci := 0) (C := RX0) (T := TX0) (N := 13) hx hb hts inlX0 hown hK hP 41 gA_41 rfl 5 (by decide) (hts (.fieldLink RX0 26 "ShapeReader$Matcher" "missPair" "I") mw_0_22) (fun _ h9 => h9) rfl dX0_collectMisses_7 ?_
  refine lv_iload_n hx hb dX0_collectMisses_10 rfl (lv_at hl 0 rfl) ?_
  refine lv_icmp_ne (tgt := 15) hx hb dX0_collectMisses_11 (by decide) (fun hc => ?_) (fun hc => ?_)
  · replace h := iq hc h
    refine lv_aload_n hx hb dX0_collectMisses_15 rfl (lv_at hl 1 rfl) ?_
    refine lv_iload_n hx hb dX0_collectMisses_16 rfl (lv_at hl 0 rfl) ?_
    refine va_put (D := (dC, dI)) (ci := 0) (ty := .int) (C := RX0) (T := TX0) (N := 13) hx hb hts inlX0 tyX0 tyX0_ok nmX0 hown hK hP hD hS 41 gA_41 rfl 5 (by decide) (hts (.fieldLink RX0 26 "ShapeReader$Matcher" "missPair" "I") mw_0_22) (fun _ h9 => h9) rfl (by decide +kernel) rfl rfl (Nat.le_of_ble_eq_true rfl) dX0_collectMisses_17 (fun H locs hP hD hS => ?_)
    replace hP := uA_41_5 hP
    replace hD := hD0 ((stI q1.2 41 5 q1.1))
    refine lv_aload_n hx hb dX0_collectMisses_20 rfl (lv_at hl 1 rfl) ?_
    refine lv_iconst (v := 0) hx hb dX0_collectMisses_21 (by decide) ?_
    refine va_put (D := (dC, dI)) (ci := 0) (ty := .int) (C := RX0) (T := TX0) (N := 13) hx hb hts inlX0 tyX0 tyX0_ok nmX0 hown hK hP hD hS 41 gA_41 rfl 6 (by decide) (hts (.fieldLink RX0 30 "ShapeReader$Matcher" "missCount" "I") mw_0_23) (fun _ h9 => h9) rfl (by decide +kernel) rfl rfl (Nat.le_of_ble_eq_true rfl) dX0_collectMisses_22 (fun H locs hP hD hS => ?_)
    replace hP := uA_41_6 hP
    replace hD := hD0 ((stI (stI q1.2 41 5 q1.1) 41 6 0))
    refine lv_aload_n hx hb dX0_collectMisses_25 rfl (lv_at hl 1 rfl) ?_
    refine lv_iconst (v := 0) hx hb dX0_collectMisses_26 (by decide) ?_
    refine va_put (D := (dC, dI)) (ci := 0) (ty := .int) (C := RX0) (T := TX0) (N := 13) hx hb hts inlX0 tyX0 tyX0_ok nmX0 hown hK hP hD hS 41 gA_41 rfl 11 (by decide) (hts (.fieldLink RX0 45 "ShapeReader$Matcher" "steps" "I") mw_0_28) (fun _ h9 => h9) rfl (by decide +kernel) rfl rfl (Nat.le_of_ble_eq_true rfl) dX0_collectMisses_27 (fun H locs hP hD hS => ?_)
    replace hP := uA_41_11 hP
    replace hD := hD0 ((stI (stI (stI q1.2 41 5 q1.1) 41 6 0) 41 11 0))
    refine lv_aload_n hx hb dX0_collectMisses_30 rfl (lv_at hl 1 rfl) ?_
    refine lv_lconst (v := 0) hx hb dX0_collectMisses_31 (by decide) ?_
    refine va_put (D := (dC, dI)) (ci := 0) (ty := .long) (C := RX0) (T := TX0) (N := 13) hx hb hts inlX0 tyX0 tyX0_ok nmX0 hown hK hP hD hS 41 gA_41 rfl 12 (by decide) (hts (.fieldLink RX0 48 "ShapeReader$Matcher" "seen" "J") mw_0_29) (fun _ h9 => h9) rfl (by decide +kernel) rfl rfl (Nat.le_of_ble_eq_true rfl) dX0_collectMisses_32 (fun H locs hP hD hS => ?_)
    replace hP := uA_41_12 hP
    replace hD := hD0 ((stL (stI (stI (stI q1.2 41 5 q1.1) 41 6 0) 41 11 0) 41 12 0))
    refine lv_aload_n hx hb dX0_collectMisses_35 rfl (lv_at hl 1 rfl) ?_
    refine lv_aload_n hx hb dX0_collectMisses_36 rfl (lv_at hl 1 rfl) ?_
    refine va_get (D := (dC, dI)) (ci := 0) (C := RX0) (T := TX0) (N := 13) hx hb hts inlX0 hown hK hP 41 gA_41 rfl 0 (by decide) (hts (.fieldLink RX0 51 "ShapeReader$Matcher" "shapes" "LShapeReader$Shapes;") mw_1_0) (fun _ h9 => h9) rfl dX0_collectMisses_37 ?_
    refine lv_iload_n hx hb dX0_collectMisses_40 rfl (lv_at hl 2 rfl) ?_
    obtain ⟨q3, hc, h⟩ := ib h
    have hF := va_frees hD hS hA
    refine va_calli (va_runV (As := [.int p0]) (rest := [.ref (a 41)]) ⟨hx, hb, hml, hown, hts⟩ (s_X5_rootType_4 hc) (cwV 1 hts (gV mw_3_5 mw_3_6 mw_3_7 mw_0_9 mw_49_28) rfl rfl rfl (by decide +kernel) ⟨(Nat.le_of_ble_eq_true rfl), (Nat.le_of_ble_eq_true rfl)⟩) (vV (ci := 5) (q0 := 4) hK hP hD hN rfl gA_4) rfl rfl hl.1 rfl (lv_room (Nat.le_of_ble_eq_true rfl)) dX0_collectMisses_41 ⟨(Nat.le_of_ble_eq_true rfl), (Nat.le_of_ble_eq_true rfl)⟩) hS (fun q _ h => hF q h) hF (fun r4 u t H locs ht hvm hw hB _ _ hS => ?_)
    obtain rfl : r4 = q3.1 := hw
    replace hP : va_P (dC, dI) vwCl (wA a k q3.2) H := by rw [← ht]; exact hB.1
    replace hD := hD0 (q3.2)
    clear hB hF
    refine lv_aload_n hx hb dX0_collectMisses_44 rfl (lv_at hl 1 rfl) ?_
    refine va_get (D := (dC, dI)) (ci := 0) (C := RX0) (T := TX0) (N := 13) hx hb hts inlX0 hown hK hP 41 gA_41 rfl 0 (by decide) (hts (.fieldLink RX0 51 "ShapeReader$Matcher" "shapes" "LShapeReader$Shapes;") mw_1_0) (fun _ h9 => h9) rfl dX0_collectMisses_45 ?_
    refine lv_iload_n hx hb dX0_collectMisses_48 rfl (lv_at hl 3 rfl) ?_
    obtain ⟨q5, hc, h⟩ := ib h
    have hF := va_frees hD hS hA
    refine va_calli (va_runV (As := [.int p1]) (rest := [.int q3.1, .ref (a 41)]) ⟨hx, hb, hml, hown, hts⟩ (s_X5_rootType_4 hc) (cwV 1 hts (gV mw_3_5 mw_3_6 mw_3_7 mw_0_9 mw_49_28) rfl rfl rfl (by decide +kernel) ⟨(Nat.le_of_ble_eq_true rfl), (Nat.le_of_ble_eq_true rfl)⟩) (vV (ci := 5) (q0 := 4) hK hP hD hN rfl gA_4) rfl rfl hl.1 rfl (lv_room (Nat.le_of_ble_eq_true rfl)) dX0_collectMisses_49 ⟨(Nat.le_of_ble_eq_true rfl), (Nat.le_of_ble_eq_true rfl)⟩) hS (fun q _ h => hF q h) hF (fun r6 u t H locs ht hvm hw hB _ _ hS => ?_)
    obtain rfl : r6 = q5.1 := hw
    replace hP : va_P (dC, dI) vwCl (wA a k q5.2) H := by rw [← ht]; exact hB.1
    replace hD := hD0 (q5.2)
    clear hB hF
    refine lv_iconst (v := 0) hx hb dX0_collectMisses_52 (by decide) ?_
    obtain ⟨q7, hc, h⟩ := ib h
    have hF := va_frees hD hS hA
    refine va_callv (va_runV (As := [.int q3.1, .int q5.1, .int 0]) (rest := []) ⟨hx, hb, hml, hown, hts⟩ (s_X0_walk hc) (cwV 3 hts (gV mw_3_8 mw_3_9 mw_3_10 mw_0_4 mw_47_18) rfl rfl rfl (by decide +kernel) ⟨(Nat.le_of_ble_eq_true rfl), (Nat.le_of_ble_eq_true rfl)⟩) (vV (ci := 0) (q0 := 41) hK hP hD hN rfl gA_41) rfl rfl hl.1 rfl (lv_room (Nat.le_of_ble_eq_true rfl)) dX0_collectMisses_53 ⟨(Nat.le_of_ble_eq_true rfl), (Nat.le_of_ble_eq_true rfl)⟩) hS (fun q _ h => hF q h) hF (fun u t H locs ht hvm hw hB _ _ hS => ?_)
    replace hP : va_P (dC, dI) vwCl (wA a k q7) H := by rw [← ht]; exact hB.1
    replace hD := hD0 (q7)
    clear hB hF
    obtain rfl := Option.some.inj h
    exact W.vret hx hb hr (fun t ht hW => ⟨⟨(), rfl, trivial, ⟨by rw [ht]; exact hP, va_K.moved hW.alike hK, hD⟩⟩, hS.F ht⟩) hS.2.2 dX0_collectMisses_56
  · replace h := ip hc h
    obtain rfl := Option.some.inj h
    exact W.vret hx hb hr (fun t ht hW => ⟨⟨(), rfl, trivial, ⟨by rw [ht]; exact hP, va_K.moved hW.alike hK, hD⟩⟩, hS.F ht⟩) hS.2.2 dX0_collectMisses_14

theorem s_X0_collectMisses {l : Launch} {dC : Nat → ClassId} {dI : Nat → Nat → Nat} {a : Nat → Nat} {k : Nat → ClassId} {sz : Nat} {p0 : Int32} {p1 : Int32} {σ : ST} {q : ST} (h : f_X0_collectMisses  p0 p1 σ = some q) : Met l yX0_collectMisses (.code yX0_collectMisses cX0_collectMisses 4 none :: pw) ({ frames := 325, cells := 0, slots := 0, locals := 8920 } : Room) (va_Pc [.ref (a 41), .int p0, .int p1] (vPre dC dI (wA a k σ) (tA k) sz)) (qAv dC dI a k (va_A (wA a k σ) sz) q) 0 0 (va_A (wA a k σ) sz) := metA (fun A => qAv dC dI a k A q) (plainFor_of_name (by decide)) (Nat.le_of_ble_eq_true rfl) (fun _ _ _ _ _ _ _ _ hC => b_X0_collectMisses_e hC h)

def f_X0_fieldsFit_68 (k2 : Int32 → Int32 → Int32 → ST → Option (Int32 × ST)) (x1 : Int32) (x2 : Int32) (x3 : Int32) (y0 : Int32) (σ : ST) : Option (Int32 × ST) := if y0 = 0 then (some (0, σ)) else (k2 x1 x2 (x3 + 1) σ)
def f_X0_fieldsFit_2  : Nat → Int32 → Int32 → Int32 → ST → Option (Int32 × ST)
  | 0, _, _, _, _ => none
  | n + 1, x1, x2, x3, σ => (f_X5_fieldsOf 4 x2 σ).bind fun q1 => if q1.1 ≤ x3 then (some (1, q1.2)) else ((f_X5_sourceOf 4 x1 x2 x3 q1.2).bind fun q3 => if q3.1 = (-1) then ((f_X5_hasElse 4 x2 x3 q3.2).bind fun q11 => f_X0_fieldsFit_68 (f_X0_fieldsFit_2  n) x1 x2 x3 q11.1 q11.2) else ((f_X5_typeOf 4 x1 q3.1 q3.2).bind fun q5 => (f_X5_typeOf 4 x2 x3 q5.2).bind fun q7 => (f_T_X0_fitsWithin  q5.1 q7.1 0 q7.2).bind fun q9 => f_X0_fieldsFit_68 (f_X0_fieldsFit_2  n) x1 x2 x3 q9.1 q9.2))
def f_X0_fieldsFit (p0 : Int32) (p1 : Int32) (σ : ST) : Option (Int32 × ST) := f_X0_fieldsFit_2  FU p0 p1 0 σ

set_option maxRecDepth 100000 in
set_option maxHeartbeats 4000000 in
theorem b_X0_fieldsFit_68 {p : Program} {l : Launch} {e : Env} {s : State} {m : MethodId} {args : Array Value} {below : List Frame} {meth : Method} {c : Code} {dC : Nat → ClassId} {dI : Nat → Nat → Nat} {a : Nat → Nat} {k : Nat → ClassId} {A : Nat → Prop} {q : Int32 × ST} (hC : CxA p s m args meth c dC dI k A cX0_fieldsFit RX0 (some .boolean) 6)  {k2 : Int32 → Int32 → Int32 → ST → Option (Int32 × ST)} (hk2 : ∀ (x1 : Int32) (x2 : Int32) (x3 : Int32) (σ : ST), k2 x1 x2 x3 σ = some q → GoA p l e ({ frames := 163, cells := 0, slots := 0, locals := 4390 } : Room) s m args below meth c (MQ below (qAi dC dI a k A q) args s 0 0 A) dC dI a k A 6 2 σ [(0, .ref (a 41)), (1, .int x1), (2, .int x2), (3, .int x3)] []) {x1 : Int32} {x2 : Int32} {x3 : Int32} {y0 : Int32} {σ : ST} (h : f_X0_fieldsFit_68 k2 x1 x2 x3 y0 σ = some q) : GoA p l e ({ frames := 163, cells := 0, slots := 0, locals := 4390 } : Room) s m args below meth c (MQ below (qAi dC dI a k A q) args s 0 0 A) dC dI a k A 6 68 σ [(0, .ref (a 41)), (1, .int x1), (2, .int x2), (3, .int x3)] [.int y0] := by
  have hC0 := hC
  obtain ⟨hx, hb, hr, hml, hown, hts, hlocks, hA, hN, hK⟩ := hC0
  intro H locs ls hP hD hS hl
  have hD0 : ∀ σ1 : ST, va_D A (wA a k σ1) := fun σ1 => wA_D hD
  unfold f_X0_fieldsFit_68 at h
  refine lv_istore (lv' := [(5, .int y0), (0, .ref (a 41)), (1, .int x1), (2, .int x2), (3, .int x3)]) hx hb dX0_fieldsFit_68 hl (by decide) rfl (fun ls hl => ?_)
  refine lv_iload hx hb dX0_fieldsFit_70 (lv_at hl 0 rfl) ?_
  refine lv_if_ne (tgt := 77) hx hb dX0_fieldsFit_72 (by decide) (fun hc => ?_) (fun hc => ?_)
  · replace h := iq hc h
    refine lv_iinc (v := (x3 + 1)) (lv' := [(3, .int (x3 + 1)), (5, .int y0), (0, .ref (a 41)), (1, .int x1), (2, .int x2)]) hx hb dX0_fieldsFit_77 hl (k := 4) rfl rfl (by decide) rfl (fun ls hl => ?_)
    refine lv_goto (tgt := 2) hx hb dX0_fieldsFit_80 (by decide) ?_
    exact hk2 _ _ _ _ h _ _ _ hP hD hS (lv_sub hl [2, 3, 4, 0] rfl)
  · replace h := ip hc h
    refine lv_iconst (v := 0) hx hb dX0_fieldsFit_75 (by decide) ?_
    obtain rfl := Option.some.inj h
    exact W.zret hx hb hr rfl (fun t ht hW => ⟨⟨_, (), rfl, rfl, ⟨by rw [ht]; exact hP, va_K.moved hW.alike hK, hD⟩⟩, hS.F ht⟩) hS.2.2 dX0_fieldsFit_76

set_option maxRecDepth 100000 in
set_option maxHeartbeats 4000000 in
theorem b_X0_fieldsFit_2 {p : Program} {l : Launch} {e : Env} {s : State} {m : MethodId} {args : Array Value} {below : List Frame} {meth : Method} {c : Code} {dC : Nat → ClassId} {dI : Nat → Nat → Nat} {a : Nat → Nat} {k : Nat → ClassId} {A : Nat → Prop} {q : Int32 × ST} (hC : CxA p s m args meth c dC dI k A cX0_fieldsFit RX0 (some .boolean) 6)   : ∀ (n : Nat) (x1 : Int32) (x2 : Int32) (x3 : Int32) (σ : ST), f_X0_fieldsFit_2  n x1 x2 x3 σ = some q → GoA p l e ({ frames := 163, cells := 0, slots := 0, locals := 4390 } : Room) s m args below meth c (MQ below (qAi dC dI a k A q) args s 0 0 A) dC dI a k A 6 2 σ [(0, .ref (a 41)), (1, .int x1), (2, .int x2), (3, .int x3)] [] := by
  intro n
  induction n with
  | zero =>
    intro x1 x2 x3 σ h
    rw [f_X0_fieldsFit_2] at h
    cases h
  | succ n ih =>
    intro x1 x2 x3 σ h
    have hC0 := hC
    obtain ⟨hx, hb, hr, hml, hown, hts, hlocks, hA, hN, hK⟩ := hC0
    intro H locs ls hP hD hS hl
    have hD0 : ∀ σ1 : ST, va_D A (wA a k σ1) := fun σ1 => wA_D hD
    rw [f_X0_fieldsFit_2] at h
    refine lv_iload_n hx hb dX0_fieldsFit_2 rfl (lv_at hl 3 rfl) ?_
    refine lv_aload_n hx hb dX0_fieldsFit_3 rfl (lv_at hl 0 rfl) ?_
    refine va_get (D := (dC, dI)) (ci := 0) (C := RX0) (T := TX0) (N := 13) hx hb hts inlX0 hown hK hP 41 gA_41 rfl 0 (by decide) (hts (.fieldLink RX0 51 "ShapeReader$Matcher" "shapes" "LShapeReader$Shapes;") mw_1_0) (fun _ h9 => h9) rfl dX0_fieldsFit_4 ?_
    refine lv_iload_n hx hb dX0_fieldsFit_7 rfl (lv_at hl 2 rfl) ?_
    obtain ⟨q1, hc, h⟩ := ib h
    have hF := va_frees hD hS hA
    refine va_calli (va_runV (As := [.int x2]) (rest := [.int x3]) ⟨hx, hb, hml, hown, hts⟩ (s_X5_fieldsOf_4 hc) (cwV 1 hts (gV mw_1_27 mw_1_28 mw_1_29 mw_0_9 mw_49_29) rfl rfl rfl (by decide +kernel) ⟨(Nat.le_of_ble_eq_true rfl), (Nat.le_of_ble_eq_true rfl)⟩) (vV (ci := 5) (q0 := 4) hK hP hD hN rfl gA_4) rfl rfl hl.1 rfl (lv_room (Nat.le_of_ble_eq_true rfl)) dX0_fieldsFit_8 ⟨(Nat.le_of_ble_eq_true rfl), (Nat.le_of_ble_eq_true rfl)⟩) hS (fun q _ h => hF q h) hF (fun r2 u t H locs ht hvm hw hB _ _ hS => ?_)
    obtain rfl : r2 = q1.1 := hw
    replace hP : va_P (dC, dI) vwCl (wA a k q1.2) H := by rw [← ht]; exact hB.1
    replace hD := hD0 (q1.2)
    clear hB hF
    refine lv_icmp_ge (tgt := 83) hx hb dX0_fieldsFit_11 (by decide) (fun hc => ?_) (fun hc => ?_)
    · replace h := ip hc h
      refine lv_iconst (v := 1) hx hb dX0_fieldsFit_83 (by decide) ?_
      obtain rfl := Option.some.inj h
      exact W.zret hx hb hr rfl (fun t ht hW => ⟨⟨_, (), rfl, rfl, ⟨by rw [ht]; exact hP, va_K.moved hW.alike hK, hD⟩⟩, hS.F ht⟩) hS.2.2 dX0_fieldsFit_84
    · replace h := iq hc h
      refine lv_aload_n hx hb dX0_fieldsFit_14 rfl (lv_at hl 0 rfl) ?_
      refine va_get (D := (dC, dI)) (ci := 0) (C := RX0) (T := TX0) (N := 13) hx hb hts inlX0 hown hK hP 41 gA_41 rfl 0 (by decide) (hts (.fieldLink RX0 51 "ShapeReader$Matcher" "shapes" "LShapeReader$Shapes;") mw_1_0) (fun _ h9 => h9) rfl dX0_fieldsFit_15 ?_
      refine lv_iload_n hx hb dX0_fieldsFit_18 rfl (lv_at hl 1 rfl) ?_
      refine lv_iload_n hx hb dX0_fieldsFit_19 rfl (lv_at hl 2 rfl) ?_
      refine lv_iload_n hx hb dX0_fieldsFit_20 rfl (lv_at hl 3 rfl) ?_
      obtain ⟨q3, hc, h⟩ := ib h
      have hF := va_frees hD hS hA
      refine va_calli (va_runV (As := [.int x1, .int x2, .int x3]) (rest := []) ⟨hx, hb, hml, hown, hts⟩ (s_X5_sourceOf_4 hc) (cwV 3 hts (gV mw_2_0 mw_2_1 mw_2_2 mw_0_9 mw_50_15) rfl rfl rfl (by decide +kernel) ⟨(Nat.le_of_ble_eq_true rfl), (Nat.le_of_ble_eq_true rfl)⟩) (vV (ci := 5) (q0 := 4) hK hP hD hN rfl gA_4) rfl rfl hl.1 rfl (lv_room (Nat.le_of_ble_eq_true rfl)) dX0_fieldsFit_21 ⟨(Nat.le_of_ble_eq_true rfl), (Nat.le_of_ble_eq_true rfl)⟩) hS (fun q _ h => hF q h) hF (fun r4 u t H locs ht hvm hw hB _ _ hS => ?_)
      obtain rfl : r4 = q3.1 := hw
      replace hP : va_P (dC, dI) vwCl (wA a k q3.2) H := by rw [← ht]; exact hB.1
      replace hD := hD0 (q3.2)
      clear hB hF
      refine lv_istore (lv' := [(4, .int q3.1), (0, .ref (a 41)), (1, .int x1), (2, .int x2), (3, .int x3)]) hx hb dX0_fieldsFit_24 hl (by decide) rfl (fun ls hl => ?_)
      refine lv_iload hx hb dX0_fieldsFit_26 (lv_at hl 0 rfl) ?_
      refine lv_iconst (v := (-1)) hx hb dX0_fieldsFit_28 (by decide) ?_
      refine lv_icmp_ne (tgt := 44) hx hb dX0_fieldsFit_29 (by decide) (fun hc => ?_) (fun hc => ?_)
      · replace h := iq hc h
        refine lv_aload_n hx hb dX0_fieldsFit_44 rfl (lv_at hl 1 rfl) ?_
        refine lv_aload_n hx hb dX0_fieldsFit_45 rfl (lv_at hl 1 rfl) ?_
        refine va_get (D := (dC, dI)) (ci := 0) (C := RX0) (T := TX0) (N := 13) hx hb hts inlX0 hown hK hP 41 gA_41 rfl 0 (by decide) (hts (.fieldLink RX0 51 "ShapeReader$Matcher" "shapes" "LShapeReader$Shapes;") mw_1_0) (fun _ h9 => h9) rfl dX0_fieldsFit_46 ?_
        refine lv_iload_n hx hb dX0_fieldsFit_49 rfl (lv_at hl 2 rfl) ?_
        refine lv_iload hx hb dX0_fieldsFit_50 (lv_at hl 0 rfl) ?_
        obtain ⟨q5, hc, h⟩ := ib h
        have hF := va_frees hD hS hA
        refine va_calli (va_runV (As := [.int x1, .int q3.1]) (rest := [.ref (a 41)]) ⟨hx, hb, hml, hown, hts⟩ (s_X5_typeOf_4 hc) (cwV 2 hts (gV mw_2_6 mw_2_7 mw_2_8 mw_0_9 mw_50_3) rfl rfl rfl (by decide +kernel) ⟨(Nat.le_of_ble_eq_true rfl), (Nat.le_of_ble_eq_true rfl)⟩) (vV (ci := 5) (q0 := 4) hK hP hD hN rfl gA_4) rfl rfl hl.1 rfl (lv_room (Nat.le_of_ble_eq_true rfl)) dX0_fieldsFit_52 ⟨(Nat.le_of_ble_eq_true rfl), (Nat.le_of_ble_eq_true rfl)⟩) hS (fun q _ h => hF q h) hF (fun r6 u t H locs ht hvm hw hB _ _ hS => ?_)
        obtain rfl : r6 = q5.1 := hw
        replace hP : va_P (dC, dI) vwCl (wA a k q5.2) H := by rw [← ht]; exact hB.1
        replace hD := hD0 (q5.2)
        clear hB hF
        refine lv_aload_n hx hb dX0_fieldsFit_55 rfl (lv_at hl 1 rfl) ?_
        refine va_get (D := (dC, dI)) (ci := 0) (C := RX0) (T := TX0) (N := 13) hx hb hts inlX0 hown hK hP 41 gA_41 rfl 0 (by decide) (hts (.fieldLink RX0 51 "ShapeReader$Matcher" "shapes" "LShapeReader$Shapes;") mw_1_0) (fun _ h9 => h9) rfl dX0_fieldsFit_56 ?_
        refine lv_iload_n hx hb dX0_fieldsFit_59 rfl (lv_at hl 3 rfl) ?_
        refine lv_iload_n hx hb dX0_fieldsFit_60 rfl (lv_at hl 4 rfl) ?_
        obtain ⟨q7, hc, h⟩ := ib h
        have hF := va_frees hD hS hA
        refine va_calli (va_runV (As := [.int x2, .int x3]) (rest := [.int q5.1, .ref (a 41)]) ⟨hx, hb, hml, hown, hts⟩ (s_X5_typeOf_4 hc) (cwV 2 hts (gV mw_2_6 mw_2_7 mw_2_8 mw_0_9 mw_50_3) rfl rfl rfl (by decide +kernel) ⟨(Nat.le_of_ble_eq_true rfl), (Nat.le_of_ble_eq_true rfl)⟩) (vV (ci := 5) (q0 := 4) hK hP hD hN rfl gA_4) rfl rfl hl.1 rfl (lv_room (Nat.le_of_ble_eq_true rfl)) dX0_fieldsFit_61 ⟨(Nat.le_of_ble_eq_true rfl), (Nat.le_of_ble_eq_true rfl)⟩) hS (fun q _ h => hF q h) hF (fun r8 u t H locs ht hvm hw hB _ _ hS => ?_)
        obtain rfl : r8 = q7.1 := hw
        replace hP : va_P (dC, dI) vwCl (wA a k q7.2) H := by rw [← ht]; exact hB.1
        replace hD := hD0 (q7.2)
        clear hB hF
        refine lv_iconst (v := 0) hx hb dX0_fieldsFit_64 (by decide) ?_
        obtain ⟨q9, hc, h⟩ := ib h
        have hF := va_frees hD hS hA
        refine va_calli (va_runV (As := [.int q5.1, .int q7.1, .int 0]) (rest := []) ⟨hx, hb, hml, hown, hts⟩ (s_X0_fitsWithin hc) (cwV 3 hts (gV mw_2_9 mw_2_10 mw_2_11 mw_0_4 mw_47_10) rfl rfl rfl (by decide +kernel) ⟨(Nat.le_of_ble_eq_true rfl), (Nat.le_of_ble_eq_true rfl)⟩) (vV (ci := 0) (q0 := 41) hK hP hD hN rfl gA_41) rfl rfl hl.1 rfl (lv_room (Nat.le_of_ble_eq_true rfl)) dX0_fieldsFit_65 ⟨(Nat.le_of_ble_eq_true rfl), (Nat.le_of_ble_eq_true rfl)⟩) hS (fun q _ h => hF q h) hF (fun r10 u t H locs ht hvm hw hB _ _ hS => ?_)
        obtain rfl : r10 = q9.1 := hw
        replace hP : va_P (dC, dI) vwCl (wA a k q9.2) H := by rw [← ht]; exact hB.1
        replace hD := hD0 (q9.2)
        clear hB hF
        exact b_X0_fieldsFit_68 hC ih h _ _ _ hP hD hS (lv_sub hl [1, 2, 3, 4] rfl)
      · replace h := ip hc h
        refine lv_aload_n hx hb dX0_fieldsFit_32 rfl (lv_at hl 1 rfl) ?_
        refine va_get (D := (dC, dI)) (ci := 0) (C := RX0) (T := TX0) (N := 13) hx hb hts inlX0 hown hK hP 41 gA_41 rfl 0 (by decide) (hts (.fieldLink RX0 51 "ShapeReader$Matcher" "shapes" "LShapeReader$Shapes;") mw_1_0) (fun _ h9 => h9) rfl dX0_fieldsFit_33 ?_
        refine lv_iload_n hx hb dX0_fieldsFit_36 rfl (lv_at hl 3 rfl) ?_
        refine lv_iload_n hx hb dX0_fieldsFit_37 rfl (lv_at hl 4 rfl) ?_
        obtain ⟨q11, hc, h⟩ := ib h
        have hF := va_frees hD hS hA
        refine va_calli (va_runV (As := [.int x2, .int x3]) (rest := []) ⟨hx, hb, hml, hown, hts⟩ (s_X5_hasElse_4 hc) (cwV 2 hts (gV mw_2_3 mw_2_4 mw_2_5 mw_0_9 mw_50_4) rfl rfl rfl (by decide +kernel) ⟨(Nat.le_of_ble_eq_true rfl), (Nat.le_of_ble_eq_true rfl)⟩) (vV (ci := 5) (q0 := 4) hK hP hD hN rfl gA_4) rfl rfl hl.1 rfl (lv_room (Nat.le_of_ble_eq_true rfl)) dX0_fieldsFit_38 ⟨(Nat.le_of_ble_eq_true rfl), (Nat.le_of_ble_eq_true rfl)⟩) hS (fun q _ h => hF q h) hF (fun r12 u t H locs ht hvm hw hB _ _ hS => ?_)
        obtain rfl : r12 = q11.1 := hw
        replace hP : va_P (dC, dI) vwCl (wA a k q11.2) H := by rw [← ht]; exact hB.1
        replace hD := hD0 (q11.2)
        clear hB hF
        refine lv_goto (tgt := 68) hx hb dX0_fieldsFit_41 (by decide) ?_
        exact b_X0_fieldsFit_68 hC ih h _ _ _ hP hD hS (lv_sub hl [1, 2, 3, 4] rfl)

set_option maxRecDepth 100000 in
set_option maxHeartbeats 4000000 in
theorem b_X0_fieldsFit_e {p : Program} {l : Launch} {e : Env} {s : State} {m : MethodId} {args : Array Value} {below : List Frame} {meth : Method} {c : Code} {dC : Nat → ClassId} {dI : Nat → Nat → Nat} {a : Nat → Nat} {k : Nat → ClassId} {A : Nat → Prop} {q : Int32 × ST} (hC : CxA p s m args meth c dC dI k A cX0_fieldsFit RX0 (some .boolean) 6)   {p0 : Int32} {p1 : Int32} {σ : ST} (h : f_X0_fieldsFit  p0 p1 σ = some q) : GoA p l e ({ frames := 163, cells := 0, slots := 0, locals := 4390 } : Room) s m args below meth c (MQ below (qAi dC dI a k A q) args s 0 0 A) dC dI a k A 6 0 σ (lv_args 0 [.ref (a 41), .int p0, .int p1]) [] := by
  have hC0 := hC
  obtain ⟨hx, hb, hr, hml, hown, hts, hlocks, hA, hN, hK⟩ := hC0
  intro H locs ls hP hD hS hl
  have hD0 : ∀ σ1 : ST, va_D A (wA a k σ1) := fun σ1 => wA_D hD
  replace hl : lv_has ls 6 [(0, .ref (a 41)), (1, .int p0), (2, .int p1)] := hl
  unfold f_X0_fieldsFit at h
  refine lv_iconst (v := 0) hx hb dX0_fieldsFit_0 (by decide) ?_
  refine lv_istore_n (lv' := [(3, .int 0), (0, .ref (a 41)), (1, .int p0), (2, .int p1)]) hx hb dX0_fieldsFit_1 rfl hl (by decide) rfl (fun ls hl => ?_)
  exact b_X0_fieldsFit_2 hC FU _ _ _ _ h _ _ _ hP hD hS (lv_sub hl [1, 2, 3, 0] rfl)

theorem s_X0_fieldsFit {l : Launch} {dC : Nat → ClassId} {dI : Nat → Nat → Nat} {a : Nat → Nat} {k : Nat → ClassId} {sz : Nat} {p0 : Int32} {p1 : Int32} {σ : ST} {q : Int32 × ST} (h : f_X0_fieldsFit  p0 p1 σ = some q) : Met l yX0_fieldsFit (.code yX0_fieldsFit cX0_fieldsFit 6 (some .boolean) :: pw) ({ frames := 163, cells := 0, slots := 0, locals := 4390 } : Room) (va_Pc [.ref (a 41), .int p0, .int p1] (vPre dC dI (wA a k σ) (tA k) sz)) (qAi dC dI a k (va_A (wA a k σ) sz) q) 0 0 (va_A (wA a k σ) sz) := metA (fun A => qAi dC dI a k A q) (plainFor_of_name (by decide)) (Nat.le_of_ble_eq_true rfl) (fun _ _ _ _ _ _ _ _ hC => b_X0_fieldsFit_e hC h)

def f_X5_recordsOf (b : Nat) (p0 : Int32) (σ : ST) : Option (Int32 × ST) := if p0 < 0 then (some (0, σ)) else (if 6 ≤ p0 then (some (0, σ)) else (if 0 ≤ p0.toInt ∧ p0.toInt < 6 then (some ((σ.1 (b + 1) p0.toNatClampNeg), σ)) else none))

set_option maxRecDepth 100000 in
set_option maxHeartbeats 4000000 in
theorem b_X5_recordsOf_e_4 {p : Program} {l : Launch} {e : Env} {s : State} {m : MethodId} {args : Array Value} {below : List Frame} {meth : Method} {c : Code} {dC : Nat → ClassId} {dI : Nat → Nat → Nat} {a : Nat → Nat} {k : Nat → ClassId} {A : Nat → Prop} {q : Int32 × ST} (hC : CxA p s m args meth c dC dI k A cX5_recordsOf RX5 (some .int) 2)   {p0 : Int32} {σ : ST} (h : f_X5_recordsOf 4 p0 σ = some q) : GoA p l e ({ frames := 0, cells := 0, slots := 0, locals := 0 } : Room) s m args below meth c (MQ below (qAi dC dI a k A q) args s 0 0 A) dC dI a k A 2 0 σ (lv_args 0 [.ref (a 4), .int p0]) [] := by
  have hC0 := hC
  obtain ⟨hx, hb, hr, hml, hown, hts, hlocks, hA, hN, hK⟩ := hC0
  intro H locs ls hP hD hS hl
  have hD0 : ∀ σ1 : ST, va_D A (wA a k σ1) := fun σ1 => wA_D hD
  replace hl : lv_has ls 2 [(0, .ref (a 4)), (1, .int p0)] := hl
  unfold f_X5_recordsOf at h
  refine lv_iload_n hx hb dX5_recordsOf_0 rfl (lv_at hl 1 rfl) ?_
  refine lv_if_lt (tgt := 19) hx hb dX5_recordsOf_1 (by decide) (fun hc => ?_) (fun hc => ?_)
  · replace h := ip hc h
    refine lv_iconst (v := 0) hx hb dX5_recordsOf_19 (by decide) ?_
    obtain rfl := Option.some.inj h
    exact W.iret hx hb hr (fun t ht hW => ⟨⟨_, (), rfl, rfl, ⟨by rw [ht]; exact hP, va_K.moved hW.alike hK, hD⟩⟩, hS.F ht⟩) hS.2.2 dX5_recordsOf_20
  · replace h := iq hc h
    refine lv_iload_n hx hb dX5_recordsOf_4 rfl (lv_at hl 1 rfl) ?_
    refine lv_bipush (v := 6) hx hb dX5_recordsOf_5 (by decide) ?_
    refine lv_icmp_ge (tgt := 19) hx hb dX5_recordsOf_7 (by decide) (fun hc => ?_) (fun hc => ?_)
    · replace h := ip hc h
      refine lv_iconst (v := 0) hx hb dX5_recordsOf_19 (by decide) ?_
      obtain rfl := Option.some.inj h
      exact W.iret hx hb hr (fun t ht hW => ⟨⟨_, (), rfl, rfl, ⟨by rw [ht]; exact hP, va_K.moved hW.alike hK, hD⟩⟩, hS.F ht⟩) hS.2.2 dX5_recordsOf_20
    · replace h := iq hc h
      refine lv_aload_n hx hb dX5_recordsOf_10 rfl (lv_at hl 0 rfl) ?_
      refine va_get (D := (dC, dI)) (ci := 5) (C := RX5) (T := TX5) (N := 17) hx hb hts inlX5 hown hK hP 4 gA_4 rfl 2 (by decide) (hts (.fieldLink RX5 18 "ShapeReader$Shapes" "recordCounts" "[I") mw_14_19) (fun _ h9 => h9) rfl dX5_recordsOf_11 ?_
      refine lv_iload_n hx hb dX5_recordsOf_14 rfl (lv_at hl 1 rfl) ?_
      obtain ⟨hg1, h⟩ := ig h
      refine va_iald hx hb hK hP 5 2 gA_5 yA_5 (vp_in_iff.mpr hg1) dX5_recordsOf_15 ?_
      refine lv_goto (tgt := 20) hx hb dX5_recordsOf_16 (by decide) ?_
      obtain rfl := Option.some.inj h
      exact W.iret hx hb hr (fun t ht hW => ⟨⟨_, (), rfl, rfl, ⟨by rw [ht]; exact hP, va_K.moved hW.alike hK, hD⟩⟩, hS.F ht⟩) hS.2.2 dX5_recordsOf_20

theorem s_X5_recordsOf_4 {l : Launch} {dC : Nat → ClassId} {dI : Nat → Nat → Nat} {a : Nat → Nat} {k : Nat → ClassId} {sz : Nat} {p0 : Int32} {σ : ST} {q : Int32 × ST} (h : f_X5_recordsOf 4 p0 σ = some q) : Met l yX5_recordsOf (.code yX5_recordsOf cX5_recordsOf 2 (some .int) :: pw) ({ frames := 0, cells := 0, slots := 0, locals := 0 } : Room) (va_Pc [.ref (a 4), .int p0] (vPre dC dI (wA a k σ) (tA k) sz)) (qAi dC dI a k (va_A (wA a k σ) sz) q) 0 0 (va_A (wA a k σ) sz) := metA (fun A => qAi dC dI a k A q) (plainFor_of_name (by decide)) (Nat.le_of_ble_eq_true rfl) (fun _ _ _ _ _ _ _ _ hC => b_X5_recordsOf_e_4 hC h)

set_option maxRecDepth 100000 in
set_option maxHeartbeats 4000000 in
theorem b_X5_recordsOf_e_20 {p : Program} {l : Launch} {e : Env} {s : State} {m : MethodId} {args : Array Value} {below : List Frame} {meth : Method} {c : Code} {dC : Nat → ClassId} {dI : Nat → Nat → Nat} {a : Nat → Nat} {k : Nat → ClassId} {A : Nat → Prop} {q : Int32 × ST} (hC : CxA p s m args meth c dC dI k A cX5_recordsOf RX5 (some .int) 2)   {p0 : Int32} {σ : ST} (h : f_X5_recordsOf 20 p0 σ = some q) : GoA p l e ({ frames := 0, cells := 0, slots := 0, locals := 0 } : Room) s m args below meth c (MQ below (qAi dC dI a k A q) args s 0 0 A) dC dI a k A 2 0 σ (lv_args 0 [.ref (a 20), .int p0]) [] := by
  have hC0 := hC
  obtain ⟨hx, hb, hr, hml, hown, hts, hlocks, hA, hN, hK⟩ := hC0
  intro H locs ls hP hD hS hl
  have hD0 : ∀ σ1 : ST, va_D A (wA a k σ1) := fun σ1 => wA_D hD
  replace hl : lv_has ls 2 [(0, .ref (a 20)), (1, .int p0)] := hl
  unfold f_X5_recordsOf at h
  refine lv_iload_n hx hb dX5_recordsOf_0 rfl (lv_at hl 1 rfl) ?_
  refine lv_if_lt (tgt := 19) hx hb dX5_recordsOf_1 (by decide) (fun hc => ?_) (fun hc => ?_)
  · replace h := ip hc h
    refine lv_iconst (v := 0) hx hb dX5_recordsOf_19 (by decide) ?_
    obtain rfl := Option.some.inj h
    exact W.iret hx hb hr (fun t ht hW => ⟨⟨_, (), rfl, rfl, ⟨by rw [ht]; exact hP, va_K.moved hW.alike hK, hD⟩⟩, hS.F ht⟩) hS.2.2 dX5_recordsOf_20
  · replace h := iq hc h
    refine lv_iload_n hx hb dX5_recordsOf_4 rfl (lv_at hl 1 rfl) ?_
    refine lv_bipush (v := 6) hx hb dX5_recordsOf_5 (by decide) ?_
    refine lv_icmp_ge (tgt := 19) hx hb dX5_recordsOf_7 (by decide) (fun hc => ?_) (fun hc => ?_)
    · replace h := ip hc h
      refine lv_iconst (v := 0) hx hb dX5_recordsOf_19 (by decide) ?_
      obtain rfl := Option.some.inj h
      exact W.iret hx hb hr (fun t ht hW => ⟨⟨_, (), rfl, rfl, ⟨by rw [ht]; exact hP, va_K.moved hW.alike hK, hD⟩⟩, hS.F ht⟩) hS.2.2 dX5_recordsOf_20
    · replace h := iq hc h
      refine lv_aload_n hx hb dX5_recordsOf_10 rfl (lv_at hl 0 rfl) ?_
      refine va_get (D := (dC, dI)) (ci := 5) (C := RX5) (T := TX5) (N := 17) hx hb hts inlX5 hown hK hP 20 gA_20 rfl 2 (by decide) (hts (.fieldLink RX5 18 "ShapeReader$Shapes" "recordCounts" "[I") mw_14_19) (fun _ h9 => h9) rfl dX5_recordsOf_11 ?_
      refine lv_iload_n hx hb dX5_recordsOf_14 rfl (lv_at hl 1 rfl) ?_
      obtain ⟨hg1, h⟩ := ig h
      refine va_iald hx hb hK hP 21 17 gA_21 yA_21 (vp_in_iff.mpr hg1) dX5_recordsOf_15 ?_
      refine lv_goto (tgt := 20) hx hb dX5_recordsOf_16 (by decide) ?_
      obtain rfl := Option.some.inj h
      exact W.iret hx hb hr (fun t ht hW => ⟨⟨_, (), rfl, rfl, ⟨by rw [ht]; exact hP, va_K.moved hW.alike hK, hD⟩⟩, hS.F ht⟩) hS.2.2 dX5_recordsOf_20

theorem s_X5_recordsOf_20 {l : Launch} {dC : Nat → ClassId} {dI : Nat → Nat → Nat} {a : Nat → Nat} {k : Nat → ClassId} {sz : Nat} {p0 : Int32} {σ : ST} {q : Int32 × ST} (h : f_X5_recordsOf 20 p0 σ = some q) : Met l yX5_recordsOf (.code yX5_recordsOf cX5_recordsOf 2 (some .int) :: pw) ({ frames := 0, cells := 0, slots := 0, locals := 0 } : Room) (va_Pc [.ref (a 20), .int p0] (vPre dC dI (wA a k σ) (tA k) sz)) (qAi dC dI a k (va_A (wA a k σ) sz) q) 0 0 (va_A (wA a k σ) sz) := metA (fun A => qAi dC dI a k A q) (plainFor_of_name (by decide)) (Nat.le_of_ble_eq_true rfl) (fun _ _ _ _ _ _ _ _ hC => b_X5_recordsOf_e_20 hC h)
