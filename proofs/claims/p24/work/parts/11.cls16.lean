theorem dX1_clear_0 : decode cX1_clear 0 = .ok (.aload_n 0, 1) := by decide +kernel
theorem dX1_clear_1 : decode cX1_clear 1 = .ok (.getfield 19, 3) := by decide +kernel
theorem dX1_clear_4 : decode cX1_clear 4 = .ok (.iconst (-1), 1) := by decide +kernel
theorem dX1_clear_5 : decode cX1_clear 5 = .ok (.invokestatic 22, 3) := by decide +kernel
theorem dX1_clear_8 : decode cX1_clear 8 = .ok (.return_, 1) := by decide +kernel
theorem dX5_addPlan_0 : decode cX5_addPlan 0 = .ok (.iload_n 1, 1) := by decide +kernel
theorem dX5_addPlan_1 : decode cX5_addPlan 1 = .ok (.ifCond .lt 9, 3) := by decide +kernel
theorem dX5_addPlan_4 : decode cX5_addPlan 4 = .ok (.iload_n 1, 1) := by decide +kernel
theorem dX5_addPlan_5 : decode cX5_addPlan 5 = .ok (.bipush 6, 2) := by decide +kernel
theorem dX5_addPlan_7 : decode cX5_addPlan 7 = .ok (.if_icmp .lt 4, 3) := by decide +kernel
theorem dX5_addPlan_10 : decode cX5_addPlan 10 = .ok (.return_, 1) := by decide +kernel
theorem dX5_addPlan_11 : decode cX5_addPlan 11 = .ok (.aload_n 0, 1) := by decide +kernel
theorem dX5_addPlan_12 : decode cX5_addPlan 12 = .ok (.getfield 18, 3) := by decide +kernel
theorem dX5_addPlan_15 : decode cX5_addPlan 15 = .ok (.iload_n 1, 1) := by decide +kernel
theorem dX5_addPlan_16 : decode cX5_addPlan 16 = .ok (.iconst 0, 1) := by decide +kernel
theorem dX5_addPlan_17 : decode cX5_addPlan 17 = .ok (.iastore, 1) := by decide +kernel
theorem dX5_addPlan_18 : decode cX5_addPlan 18 = .ok (.aload_n 0, 1) := by decide +kernel
theorem dX5_addPlan_19 : decode cX5_addPlan 19 = .ok (.getfield 22, 3) := by decide +kernel
theorem dX5_addPlan_22 : decode cX5_addPlan 22 = .ok (.iload_n 1, 1) := by decide +kernel
theorem dX5_addPlan_23 : decode cX5_addPlan 23 = .ok (.aload_n 0, 1) := by decide +kernel
theorem dX5_addPlan_24 : decode cX5_addPlan 24 = .ok (.bipush 7, 2) := by decide +kernel
theorem dX5_addPlan_26 : decode cX5_addPlan 26 = .ok (.invokevirtual 116, 3) := by decide +kernel
theorem dX5_addPlan_29 : decode cX5_addPlan 29 = .ok (.iastore, 1) := by decide +kernel
theorem dX5_addPlan_30 : decode cX5_addPlan 30 = .ok (.aload_n 0, 1) := by decide +kernel
theorem dX5_addPlan_31 : decode cX5_addPlan 31 = .ok (.aload_n 0, 1) := by decide +kernel
theorem dX5_addPlan_32 : decode cX5_addPlan 32 = .ok (.getfield 22, 3) := by decide +kernel
theorem dX5_addPlan_35 : decode cX5_addPlan 35 = .ok (.iload_n 1, 1) := by decide +kernel
theorem dX5_addPlan_36 : decode cX5_addPlan 36 = .ok (.iaload, 1) := by decide +kernel
theorem dX5_addPlan_37 : decode cX5_addPlan 37 = .ok (.iload_n 1, 1) := by decide +kernel
theorem dX5_addPlan_38 : decode cX5_addPlan 38 = .ok (.bipush 6, 2) := by decide +kernel
theorem dX5_addPlan_40 : decode cX5_addPlan 40 = .ok (.imul, 1) := by decide +kernel
theorem dX5_addPlan_41 : decode cX5_addPlan 41 = .ok (.invokevirtual 119, 3) := by decide +kernel
theorem dX5_addPlan_44 : decode cX5_addPlan 44 = .ok (.aload_n 0, 1) := by decide +kernel
theorem dX5_addPlan_45 : decode cX5_addPlan 45 = .ok (.iload_n 1, 1) := by decide +kernel
theorem dX5_addPlan_46 : decode cX5_addPlan 46 = .ok (.iconst 1, 1) := by decide +kernel
theorem dX5_addPlan_47 : decode cX5_addPlan 47 = .ok (.iadd, 1) := by decide +kernel
theorem dX5_addPlan_48 : decode cX5_addPlan 48 = .ok (.putfield 9, 3) := by decide +kernel
theorem dX5_addPlan_51 : decode cX5_addPlan 51 = .ok (.return_, 1) := by decide +kernel
theorem dX5_addType_0 : decode cX5_addType 0 = .ok (.aload_n 0, 1) := by decide +kernel
theorem dX5_addType_1 : decode cX5_addType 1 = .ok (.getfield 15, 3) := by decide +kernel
theorem dX5_addType_4 : decode cX5_addType 4 = .ok (.sipush 262, 3) := by decide +kernel
theorem dX5_addType_7 : decode cX5_addType 7 = .ok (.if_icmp .lt 5, 3) := by decide +kernel
theorem dX5_addType_10 : decode cX5_addType 10 = .ok (.iconst (-1), 1) := by decide +kernel
theorem dX5_addType_11 : decode cX5_addType 11 = .ok (.ireturn, 1) := by decide +kernel
theorem dX5_addType_12 : decode cX5_addType 12 = .ok (.aload_n 0, 1) := by decide +kernel
theorem dX5_addType_13 : decode cX5_addType 13 = .ok (.getfield 15, 3) := by decide +kernel
theorem dX5_addType_16 : decode cX5_addType 16 = .ok (.istore_n 2, 1) := by decide +kernel
theorem dX5_addType_17 : decode cX5_addType 17 = .ok (.aload_n 0, 1) := by decide +kernel
theorem dX5_addType_18 : decode cX5_addType 18 = .ok (.getfield 50, 3) := by decide +kernel
theorem dX5_addType_21 : decode cX5_addType 21 = .ok (.iload_n 2, 1) := by decide +kernel
theorem dX5_addType_22 : decode cX5_addType 22 = .ok (.iload_n 1, 1) := by decide +kernel
theorem dX5_addType_23 : decode cX5_addType 23 = .ok (.iastore, 1) := by decide +kernel
theorem dX5_addType_24 : decode cX5_addType 24 = .ok (.aload_n 0, 1) := by decide +kernel
theorem dX5_addType_25 : decode cX5_addType 25 = .ok (.getfield 53, 3) := by decide +kernel
theorem dX5_addType_28 : decode cX5_addType 28 = .ok (.iload_n 2, 1) := by decide +kernel
theorem dX5_addType_29 : decode cX5_addType 29 = .ok (.iconst (-1), 1) := by decide +kernel
theorem dX5_addType_30 : decode cX5_addType 30 = .ok (.iastore, 1) := by decide +kernel
theorem dX5_addType_31 : decode cX5_addType 31 = .ok (.aload_n 0, 1) := by decide +kernel
theorem dX5_addType_32 : decode cX5_addType 32 = .ok (.getfield 56, 3) := by decide +kernel
theorem dX5_addType_35 : decode cX5_addType 35 = .ok (.iload_n 2, 1) := by decide +kernel
theorem dX5_addType_36 : decode cX5_addType 36 = .ok (.iconst (-1), 1) := by decide +kernel
theorem dX5_addType_37 : decode cX5_addType 37 = .ok (.iastore, 1) := by decide +kernel
theorem dX5_addType_38 : decode cX5_addType 38 = .ok (.aload_n 0, 1) := by decide +kernel
theorem dX5_addType_39 : decode cX5_addType 39 = .ok (.getfield 59, 3) := by decide +kernel
theorem dX5_addType_42 : decode cX5_addType 42 = .ok (.iload_n 2, 1) := by decide +kernel
theorem dX5_addType_43 : decode cX5_addType 43 = .ok (.lconst 0, 1) := by decide +kernel
theorem dX5_addType_44 : decode cX5_addType 44 = .ok (.lastore, 1) := by decide +kernel
theorem dX5_addType_45 : decode cX5_addType 45 = .ok (.aload_n 0, 1) := by decide +kernel
theorem dX5_addType_46 : decode cX5_addType 46 = .ok (.getfield 62, 3) := by decide +kernel
theorem dX5_addType_49 : decode cX5_addType 49 = .ok (.iload_n 2, 1) := by decide +kernel
theorem dX5_addType_50 : decode cX5_addType 50 = .ok (.iconst 0, 1) := by decide +kernel
theorem dX5_addType_51 : decode cX5_addType 51 = .ok (.iastore, 1) := by decide +kernel
theorem dX5_addType_52 : decode cX5_addType 52 = .ok (.aload_n 0, 1) := by decide +kernel
theorem dX5_addType_53 : decode cX5_addType 53 = .ok (.dup, 1) := by decide +kernel
theorem dX5_addType_54 : decode cX5_addType 54 = .ok (.getfield 15, 3) := by decide +kernel
theorem dX5_addType_57 : decode cX5_addType 57 = .ok (.iconst 1, 1) := by decide +kernel
theorem dX5_addType_58 : decode cX5_addType 58 = .ok (.iadd, 1) := by decide +kernel
theorem dX5_addType_59 : decode cX5_addType 59 = .ok (.putfield 15, 3) := by decide +kernel
theorem dX5_addType_62 : decode cX5_addType 62 = .ok (.iload_n 2, 1) := by decide +kernel
theorem dX5_addType_63 : decode cX5_addType 63 = .ok (.ireturn, 1) := by decide +kernel
theorem dX5_setInner_0 : decode cX5_setInner 0 = .ok (.aload_n 0, 1) := by decide +kernel
theorem dX5_setInner_1 : decode cX5_setInner 1 = .ok (.iload_n 1, 1) := by decide +kernel
theorem dX5_setInner_2 : decode cX5_setInner 2 = .ok (.invokevirtual 79, 3) := by decide +kernel
theorem dX5_setInner_5 : decode cX5_setInner 5 = .ok (.ifCond .eq 10, 3) := by decide +kernel
theorem dX5_setInner_8 : decode cX5_setInner 8 = .ok (.aload_n 0, 1) := by decide +kernel
theorem dX5_setInner_9 : decode cX5_setInner 9 = .ok (.getfield 53, 3) := by decide +kernel
theorem dX5_setInner_12 : decode cX5_setInner 12 = .ok (.iload_n 1, 1) := by decide +kernel
theorem dX5_setInner_13 : decode cX5_setInner 13 = .ok (.iload_n 2, 1) := by decide +kernel
theorem dX5_setInner_14 : decode cX5_setInner 14 = .ok (.iastore, 1) := by decide +kernel
theorem dX5_setInner_15 : decode cX5_setInner 15 = .ok (.return_, 1) := by decide +kernel
theorem dX6_advance_0 : decode cX6_advance 0 = .ok (.aload_n 0, 1) := by decide +kernel
theorem dX6_advance_1 : decode cX6_advance 1 = .ok (.getfield 19, 3) := by decide +kernel
theorem dX6_advance_4 : decode cX6_advance 4 = .ok (.aload_n 0, 1) := by decide +kernel
theorem dX6_advance_5 : decode cX6_advance 5 = .ok (.getfield 15, 3) := by decide +kernel
theorem dX6_advance_8 : decode cX6_advance 8 = .ok (.if_icmp .ge 42, 3) := by decide +kernel
theorem dX6_advance_11 : decode cX6_advance 11 = .ok (.aload_n 0, 1) := by decide +kernel
theorem dX6_advance_12 : decode cX6_advance 12 = .ok (.aload_n 0, 1) := by decide +kernel
theorem dX6_advance_13 : decode cX6_advance 13 = .ok (.getfield 19, 3) := by decide +kernel
theorem dX6_advance_16 : decode cX6_advance 16 = .ok (.invokevirtual 77, 3) := by decide +kernel
theorem dX6_advance_19 : decode cX6_advance 19 = .ok (.bipush 32, 2) := by decide +kernel
theorem dX6_advance_21 : decode cX6_advance 21 = .ok (.if_icmp .eq 16, 3) := by decide +kernel
theorem dX6_advance_24 : decode cX6_advance 24 = .ok (.aload_n 0, 1) := by decide +kernel
theorem dX6_advance_25 : decode cX6_advance 25 = .ok (.aload_n 0, 1) := by decide +kernel
theorem dX6_advance_26 : decode cX6_advance 26 = .ok (.getfield 19, 3) := by decide +kernel
theorem dX6_advance_29 : decode cX6_advance 29 = .ok (.invokevirtual 77, 3) := by decide +kernel
theorem dX6_advance_32 : decode cX6_advance 32 = .ok (.bipush 10, 2) := by decide +kernel
theorem dX6_advance_34 : decode cX6_advance 34 = .ok (.if_icmp .ne 16, 3) := by decide +kernel
theorem dX6_advance_37 : decode cX6_advance 37 = .ok (.aload_n 0, 1) := by decide +kernel
theorem dX6_advance_38 : decode cX6_advance 38 = .ok (.dup, 1) := by decide +kernel
theorem dX6_advance_39 : decode cX6_advance 39 = .ok (.getfield 19, 3) := by decide +kernel
theorem dX6_advance_42 : decode cX6_advance 42 = .ok (.iconst 1, 1) := by decide +kernel
theorem dX6_advance_43 : decode cX6_advance 43 = .ok (.iadd, 1) := by decide +kernel
theorem dX6_advance_44 : decode cX6_advance 44 = .ok (.putfield 19, 3) := by decide +kernel
theorem dX6_advance_47 : decode cX6_advance 47 = .ok (.goto (-47), 3) := by decide +kernel
theorem dX6_advance_50 : decode cX6_advance 50 = .ok (.aload_n 0, 1) := by decide +kernel
theorem dX6_advance_51 : decode cX6_advance 51 = .ok (.aload_n 0, 1) := by decide +kernel
theorem dX6_advance_52 : decode cX6_advance 52 = .ok (.getfield 19, 3) := by decide +kernel
theorem dX6_advance_55 : decode cX6_advance 55 = .ok (.putfield 25, 3) := by decide +kernel
theorem dX6_advance_58 : decode cX6_advance 58 = .ok (.aload_n 0, 1) := by decide +kernel
theorem dX6_advance_59 : decode cX6_advance 59 = .ok (.aload_n 0, 1) := by decide +kernel
theorem dX6_advance_60 : decode cX6_advance 60 = .ok (.getfield 25, 3) := by decide +kernel
theorem dX6_advance_63 : decode cX6_advance 63 = .ok (.invokevirtual 77, 3) := by decide +kernel
theorem dX6_advance_66 : decode cX6_advance 66 = .ok (.istore_n 1, 1) := by decide +kernel
theorem dX6_advance_67 : decode cX6_advance 67 = .ok (.aload_n 0, 1) := by decide +kernel
theorem dX6_advance_68 : decode cX6_advance 68 = .ok (.getfield 25, 3) := by decide +kernel
theorem dX6_advance_71 : decode cX6_advance 71 = .ok (.aload_n 0, 1) := by decide +kernel
theorem dX6_advance_72 : decode cX6_advance 72 = .ok (.getfield 15, 3) := by decide +kernel
theorem dX6_advance_75 : decode cX6_advance 75 = .ok (.if_icmp .lt 11, 3) := by decide +kernel
theorem dX6_advance_78 : decode cX6_advance 78 = .ok (.aload_n 0, 1) := by decide +kernel
theorem dX6_advance_79 : decode cX6_advance 79 = .ok (.iconst 0, 1) := by decide +kernel
theorem dX6_advance_80 : decode cX6_advance 80 = .ok (.putfield 22, 3) := by decide +kernel
theorem dX6_advance_83 : decode cX6_advance 83 = .ok (.goto 109, 3) := by decide +kernel
theorem dX6_advance_86 : decode cX6_advance 86 = .ok (.iload_n 1, 1) := by decide +kernel
theorem dX6_advance_87 : decode cX6_advance 87 = .ok (.invokestatic 81, 3) := by decide +kernel
theorem dX6_advance_90 : decode cX6_advance 90 = .ok (.ifCond .eq 10, 3) := by decide +kernel
theorem dX6_advance_93 : decode cX6_advance 93 = .ok (.aload_n 0, 1) := by decide +kernel
theorem dX6_advance_94 : decode cX6_advance 94 = .ok (.invokevirtual 85, 3) := by decide +kernel
theorem dX6_advance_97 : decode cX6_advance 97 = .ok (.goto 95, 3) := by decide +kernel
theorem dX6_advance_100 : decode cX6_advance 100 = .ok (.iload_n 1, 1) := by decide +kernel
theorem dX6_advance_101 : decode cX6_advance 101 = .ok (.bipush 45, 2) := by decide +kernel
theorem dX6_advance_103 : decode cX6_advance 103 = .ok (.if_icmp .eq 10, 3) := by decide +kernel
theorem dX6_advance_106 : decode cX6_advance 106 = .ok (.iload_n 1, 1) := by decide +kernel
theorem dX6_advance_107 : decode cX6_advance 107 = .ok (.invokestatic 88, 3) := by decide +kernel
theorem dX6_advance_110 : decode cX6_advance 110 = .ok (.ifCond .eq 10, 3) := by decide +kernel
theorem dX6_advance_113 : decode cX6_advance 113 = .ok (.aload_n 0, 1) := by decide +kernel
theorem dX6_advance_114 : decode cX6_advance 114 = .ok (.invokevirtual 91, 3) := by decide +kernel
theorem dX6_advance_117 : decode cX6_advance 117 = .ok (.goto 75, 3) := by decide +kernel
theorem dX6_advance_120 : decode cX6_advance 120 = .ok (.iload_n 1, 1) := by decide +kernel
theorem dX6_advance_121 : decode cX6_advance 121 = .ok (.bipush 34, 2) := by decide +kernel
theorem dX6_advance_123 : decode cX6_advance 123 = .ok (.if_icmp .ne 10, 3) := by decide +kernel
theorem dX6_advance_126 : decode cX6_advance 126 = .ok (.aload_n 0, 1) := by decide +kernel
theorem dX6_advance_127 : decode cX6_advance 127 = .ok (.invokevirtual 94, 3) := by decide +kernel
theorem dX6_advance_130 : decode cX6_advance 130 = .ok (.goto 62, 3) := by decide +kernel
theorem dX6_advance_133 : decode cX6_advance 133 = .ok (.iload_n 1, 1) := by decide +kernel
theorem dX6_advance_134 : decode cX6_advance 134 = .ok (.bipush 123, 2) := by decide +kernel
theorem dX6_advance_136 : decode cX6_advance 136 = .ok (.if_icmp .eq 33, 3) := by decide +kernel
theorem dX6_advance_139 : decode cX6_advance 139 = .ok (.iload_n 1, 1) := by decide +kernel
theorem dX6_advance_140 : decode cX6_advance 140 = .ok (.bipush 125, 2) := by decide +kernel
theorem dX6_advance_142 : decode cX6_advance 142 = .ok (.if_icmp .eq 27, 3) := by decide +kernel
theorem dX6_advance_145 : decode cX6_advance 145 = .ok (.iload_n 1, 1) := by decide +kernel
theorem dX6_advance_146 : decode cX6_advance 146 = .ok (.bipush 91, 2) := by decide +kernel
theorem dX6_advance_148 : decode cX6_advance 148 = .ok (.if_icmp .eq 21, 3) := by decide +kernel
theorem dX6_advance_151 : decode cX6_advance 151 = .ok (.iload_n 1, 1) := by decide +kernel
theorem dX6_advance_152 : decode cX6_advance 152 = .ok (.bipush 93, 2) := by decide +kernel
theorem dX6_advance_154 : decode cX6_advance 154 = .ok (.if_icmp .eq 15, 3) := by decide +kernel
theorem dX6_advance_157 : decode cX6_advance 157 = .ok (.iload_n 1, 1) := by decide +kernel
theorem dX6_advance_158 : decode cX6_advance 158 = .ok (.bipush 44, 2) := by decide +kernel
theorem dX6_advance_160 : decode cX6_advance 160 = .ok (.if_icmp .eq 9, 3) := by decide +kernel
theorem dX6_advance_163 : decode cX6_advance 163 = .ok (.iload_n 1, 1) := by decide +kernel
theorem dX6_advance_164 : decode cX6_advance 164 = .ok (.bipush 59, 2) := by decide +kernel
theorem dX6_advance_166 : decode cX6_advance 166 = .ok (.if_icmp .ne 21, 3) := by decide +kernel
theorem dX6_advance_169 : decode cX6_advance 169 = .ok (.aload_n 0, 1) := by decide +kernel
theorem dX6_advance_170 : decode cX6_advance 170 = .ok (.iload_n 1, 1) := by decide +kernel
theorem dX6_advance_171 : decode cX6_advance 171 = .ok (.putfield 22, 3) := by decide +kernel
theorem dX6_advance_174 : decode cX6_advance 174 = .ok (.aload_n 0, 1) := by decide +kernel
theorem dX6_advance_175 : decode cX6_advance 175 = .ok (.aload_n 0, 1) := by decide +kernel
theorem dX6_advance_176 : decode cX6_advance 176 = .ok (.getfield 25, 3) := by decide +kernel
theorem dX6_advance_179 : decode cX6_advance 179 = .ok (.iconst 1, 1) := by decide +kernel
theorem dX6_advance_180 : decode cX6_advance 180 = .ok (.iadd, 1) := by decide +kernel
theorem dX6_advance_181 : decode cX6_advance 181 = .ok (.putfield 19, 3) := by decide +kernel
theorem dX6_advance_184 : decode cX6_advance 184 = .ok (.goto 8, 3) := by decide +kernel
theorem dX6_advance_187 : decode cX6_advance 187 = .ok (.aload_n 0, 1) := by decide +kernel
theorem dX6_advance_188 : decode cX6_advance 188 = .ok (.iconst 1, 1) := by decide +kernel
theorem dX6_advance_189 : decode cX6_advance 189 = .ok (.putfield 22, 3) := by decide +kernel
theorem dX6_advance_192 : decode cX6_advance 192 = .ok (.return_, 1) := by decide +kernel
theorem dX6_isDigit_0 : decode cX6_isDigit 0 = .ok (.iload_n 0, 1) := by decide +kernel
theorem dX6_isDigit_1 : decode cX6_isDigit 1 = .ok (.bipush 48, 2) := by decide +kernel
theorem dX6_isDigit_3 : decode cX6_isDigit 3 = .ok (.if_icmp .lt 13, 3) := by decide +kernel
theorem dX6_isDigit_6 : decode cX6_isDigit 6 = .ok (.iload_n 0, 1) := by decide +kernel
theorem dX6_isDigit_7 : decode cX6_isDigit 7 = .ok (.bipush 57, 2) := by decide +kernel
theorem dX6_isDigit_9 : decode cX6_isDigit 9 = .ok (.if_icmp .gt 7, 3) := by decide +kernel
theorem dX6_isDigit_12 : decode cX6_isDigit 12 = .ok (.iconst 1, 1) := by decide +kernel
theorem dX6_isDigit_13 : decode cX6_isDigit 13 = .ok (.goto 4, 3) := by decide +kernel
theorem dX6_isDigit_16 : decode cX6_isDigit 16 = .ok (.iconst 0, 1) := by decide +kernel
theorem dX6_isDigit_17 : decode cX6_isDigit 17 = .ok (.ireturn, 1) := by decide +kernel
theorem dX6_isLetter_0 : decode cX6_isLetter 0 = .ok (.iload_n 0, 1) := by decide +kernel
theorem dX6_isLetter_1 : decode cX6_isLetter 1 = .ok (.bipush 97, 2) := by decide +kernel
theorem dX6_isLetter_3 : decode cX6_isLetter 3 = .ok (.if_icmp .lt 13, 3) := by decide +kernel
theorem dX6_isLetter_6 : decode cX6_isLetter 6 = .ok (.iload_n 0, 1) := by decide +kernel
theorem dX6_isLetter_7 : decode cX6_isLetter 7 = .ok (.bipush 122, 2) := by decide +kernel
theorem dX6_isLetter_9 : decode cX6_isLetter 9 = .ok (.if_icmp .gt 7, 3) := by decide +kernel
theorem dX6_isLetter_12 : decode cX6_isLetter 12 = .ok (.iconst 1, 1) := by decide +kernel
theorem dX6_isLetter_13 : decode cX6_isLetter 13 = .ok (.goto 4, 3) := by decide +kernel
theorem dX6_isLetter_16 : decode cX6_isLetter 16 = .ok (.iconst 0, 1) := by decide +kernel
theorem dX6_isLetter_17 : decode cX6_isLetter 17 = .ok (.ireturn, 1) := by decide +kernel
theorem dX6_scanLettered_0 : decode cX6_scanLettered 0 = .ok (.aload_n 0, 1) := by decide +kernel
theorem dX6_scanLettered_1 : decode cX6_scanLettered 1 = .ok (.aload_n 0, 1) := by decide +kernel
theorem dX6_scanLettered_2 : decode cX6_scanLettered 2 = .ok (.getfield 25, 3) := by decide +kernel
theorem dX6_scanLettered_5 : decode cX6_scanLettered 5 = .ok (.iconst 1, 1) := by decide +kernel
theorem dX6_scanLettered_6 : decode cX6_scanLettered 6 = .ok (.iadd, 1) := by decide +kernel
theorem dX6_scanLettered_7 : decode cX6_scanLettered 7 = .ok (.bipush 12, 2) := by decide +kernel
theorem dX6_scanLettered_9 : decode cX6_scanLettered 9 = .ok (.invokevirtual 97, 3) := by decide +kernel
theorem dX6_scanLettered_12 : decode cX6_scanLettered 12 = .ok (.istore_n 1, 1) := by decide +kernel
theorem dX6_scanLettered_13 : decode cX6_scanLettered 13 = .ok (.aload_n 0, 1) := by decide +kernel
theorem dX6_scanLettered_14 : decode cX6_scanLettered 14 = .ok (.getfield 25, 3) := by decide +kernel
theorem dX6_scanLettered_17 : decode cX6_scanLettered 17 = .ok (.iconst 1, 1) := by decide +kernel
theorem dX6_scanLettered_18 : decode cX6_scanLettered 18 = .ok (.iadd, 1) := by decide +kernel
theorem dX6_scanLettered_19 : decode cX6_scanLettered 19 = .ok (.iload_n 1, 1) := by decide +kernel
theorem dX6_scanLettered_20 : decode cX6_scanLettered 20 = .ok (.iadd, 1) := by decide +kernel
theorem dX6_scanLettered_21 : decode cX6_scanLettered 21 = .ok (.istore_n 2, 1) := by decide +kernel
theorem dX6_scanLettered_22 : decode cX6_scanLettered 22 = .ok (.iload_n 1, 1) := by decide +kernel
theorem dX6_scanLettered_23 : decode cX6_scanLettered 23 = .ok (.bipush 12, 2) := by decide +kernel
theorem dX6_scanLettered_25 : decode cX6_scanLettered 25 = .ok (.if_icmp .gt 13, 3) := by decide +kernel
theorem dX6_scanLettered_28 : decode cX6_scanLettered 28 = .ok (.aload_n 0, 1) := by decide +kernel
theorem dX6_scanLettered_29 : decode cX6_scanLettered 29 = .ok (.iload_n 2, 1) := by decide +kernel
theorem dX6_scanLettered_30 : decode cX6_scanLettered 30 = .ok (.invokevirtual 77, 3) := by decide +kernel
theorem dX6_scanLettered_33 : decode cX6_scanLettered 33 = .ok (.bipush 34, 2) := by decide +kernel
theorem dX6_scanLettered_35 : decode cX6_scanLettered 35 = .ok (.if_icmp .eq 9, 3) := by decide +kernel
theorem dX6_scanLettered_38 : decode cX6_scanLettered 38 = .ok (.aload_n 0, 1) := by decide +kernel
theorem dX6_scanLettered_39 : decode cX6_scanLettered 39 = .ok (.iconst 1, 1) := by decide +kernel
theorem dX6_scanLettered_40 : decode cX6_scanLettered 40 = .ok (.putfield 22, 3) := by decide +kernel
theorem dX6_scanLettered_43 : decode cX6_scanLettered 43 = .ok (.return_, 1) := by decide +kernel
theorem dX6_scanLettered_44 : decode cX6_scanLettered 44 = .ok (.aload_n 0, 1) := by decide +kernel
theorem dX6_scanLettered_45 : decode cX6_scanLettered 45 = .ok (.iconst 5, 1) := by decide +kernel
theorem dX6_scanLettered_46 : decode cX6_scanLettered 46 = .ok (.putfield 22, 3) := by decide +kernel
theorem dX6_scanLettered_49 : decode cX6_scanLettered 49 = .ok (.aload_n 0, 1) := by decide +kernel
theorem dX6_scanLettered_50 : decode cX6_scanLettered 50 = .ok (.iload_n 2, 1) := by decide +kernel
theorem dX6_scanLettered_51 : decode cX6_scanLettered 51 = .ok (.iconst 1, 1) := by decide +kernel
theorem dX6_scanLettered_52 : decode cX6_scanLettered 52 = .ok (.iadd, 1) := by decide +kernel
theorem dX6_scanLettered_53 : decode cX6_scanLettered 53 = .ok (.putfield 19, 3) := by decide +kernel
theorem dX6_scanLettered_56 : decode cX6_scanLettered 56 = .ok (.return_, 1) := by decide +kernel
theorem dX6_scanNumber_0 : decode cX6_scanNumber 0 = .ok (.aload_n 0, 1) := by decide +kernel
theorem dX6_scanNumber_1 : decode cX6_scanNumber 1 = .ok (.aload_n 0, 1) := by decide +kernel
theorem dX6_scanNumber_2 : decode cX6_scanNumber 2 = .ok (.aload_n 0, 1) := by decide +kernel
theorem dX6_scanNumber_3 : decode cX6_scanNumber 3 = .ok (.getfield 25, 3) := by decide +kernel
theorem dX6_scanNumber_6 : decode cX6_scanNumber 6 = .ok (.invokevirtual 77, 3) := by decide +kernel
theorem dX6_scanNumber_9 : decode cX6_scanNumber 9 = .ok (.bipush 45, 2) := by decide +kernel
theorem dX6_scanNumber_11 : decode cX6_scanNumber 11 = .ok (.if_icmp .ne 7, 3) := by decide +kernel
theorem dX6_scanNumber_14 : decode cX6_scanNumber 14 = .ok (.iconst 1, 1) := by decide +kernel
theorem dX6_scanNumber_15 : decode cX6_scanNumber 15 = .ok (.goto 4, 3) := by decide +kernel
theorem dX6_scanNumber_18 : decode cX6_scanNumber 18 = .ok (.iconst 0, 1) := by decide +kernel
theorem dX6_scanNumber_19 : decode cX6_scanNumber 19 = .ok (.putfield 38, 3) := by decide +kernel
theorem dX6_scanNumber_22 : decode cX6_scanNumber 22 = .ok (.aload_n 0, 1) := by decide +kernel
theorem dX6_scanNumber_23 : decode cX6_scanNumber 23 = .ok (.iconst 0, 1) := by decide +kernel
theorem dX6_scanNumber_24 : decode cX6_scanNumber 24 = .ok (.putfield 42, 3) := by decide +kernel
theorem dX6_scanNumber_27 : decode cX6_scanNumber 27 = .ok (.aload_n 0, 1) := by decide +kernel
theorem dX6_scanNumber_28 : decode cX6_scanNumber 28 = .ok (.iconst 0, 1) := by decide +kernel
theorem dX6_scanNumber_29 : decode cX6_scanNumber 29 = .ok (.putfield 45, 3) := by decide +kernel
theorem dX6_scanNumber_32 : decode cX6_scanNumber 32 = .ok (.aload_n 0, 1) := by decide +kernel
theorem dX6_scanNumber_33 : decode cX6_scanNumber 33 = .ok (.lconst 0, 1) := by decide +kernel
theorem dX6_scanNumber_34 : decode cX6_scanNumber 34 = .ok (.putfield 35, 3) := by decide +kernel
theorem dX6_scanNumber_37 : decode cX6_scanNumber 37 = .ok (.aload_n 0, 1) := by decide +kernel
theorem dX6_scanNumber_38 : decode cX6_scanNumber 38 = .ok (.iconst 1, 1) := by decide +kernel
theorem dX6_scanNumber_39 : decode cX6_scanNumber 39 = .ok (.putfield 22, 3) := by decide +kernel
theorem dX6_scanNumber_42 : decode cX6_scanNumber 42 = .ok (.aload_n 0, 1) := by decide +kernel
theorem dX6_scanNumber_43 : decode cX6_scanNumber 43 = .ok (.getfield 38, 3) := by decide +kernel
theorem dX6_scanNumber_46 : decode cX6_scanNumber 46 = .ok (.ifCond .eq 12, 3) := by decide +kernel
theorem dX6_scanNumber_49 : decode cX6_scanNumber 49 = .ok (.aload_n 0, 1) := by decide +kernel
theorem dX6_scanNumber_50 : decode cX6_scanNumber 50 = .ok (.getfield 25, 3) := by decide +kernel
theorem dX6_scanNumber_53 : decode cX6_scanNumber 53 = .ok (.iconst 1, 1) := by decide +kernel
theorem dX6_scanNumber_54 : decode cX6_scanNumber 54 = .ok (.iadd, 1) := by decide +kernel
theorem dX6_scanNumber_55 : decode cX6_scanNumber 55 = .ok (.goto 7, 3) := by decide +kernel
theorem dX6_scanNumber_58 : decode cX6_scanNumber 58 = .ok (.aload_n 0, 1) := by decide +kernel
theorem dX6_scanNumber_59 : decode cX6_scanNumber 59 = .ok (.getfield 25, 3) := by decide +kernel
theorem dX6_scanNumber_62 : decode cX6_scanNumber 62 = .ok (.istore_n 1, 1) := by decide +kernel
theorem dX6_scanNumber_63 : decode cX6_scanNumber 63 = .ok (.iconst 0, 1) := by decide +kernel
theorem dX6_scanNumber_64 : decode cX6_scanNumber 64 = .ok (.istore_n 2, 1) := by decide +kernel
theorem dX6_scanNumber_65 : decode cX6_scanNumber 65 = .ok (.iload_n 2, 1) := by decide +kernel
theorem dX6_scanNumber_66 : decode cX6_scanNumber 66 = .ok (.bipush 18, 2) := by decide +kernel
theorem dX6_scanNumber_68 : decode cX6_scanNumber 68 = .ok (.if_icmp .gt 51, 3) := by decide +kernel
theorem dX6_scanNumber_71 : decode cX6_scanNumber 71 = .ok (.aload_n 0, 1) := by decide +kernel
theorem dX6_scanNumber_72 : decode cX6_scanNumber 72 = .ok (.iload_n 1, 1) := by decide +kernel
theorem dX6_scanNumber_73 : decode cX6_scanNumber 73 = .ok (.invokevirtual 77, 3) := by decide +kernel
theorem dX6_scanNumber_76 : decode cX6_scanNumber 76 = .ok (.invokestatic 88, 3) := by decide +kernel
theorem dX6_scanNumber_79 : decode cX6_scanNumber 79 = .ok (.ifCond .eq 40, 3) := by decide +kernel
theorem dX6_scanNumber_82 : decode cX6_scanNumber 82 = .ok (.iload_n 2, 1) := by decide +kernel
theorem dX6_scanNumber_83 : decode cX6_scanNumber 83 = .ok (.bipush 18, 2) := by decide +kernel
theorem dX6_scanNumber_85 : decode cX6_scanNumber 85 = .ok (.if_icmp .ge 25, 3) := by decide +kernel
theorem dX6_scanNumber_88 : decode cX6_scanNumber 88 = .ok (.aload_n 0, 1) := by decide +kernel
theorem dX6_scanNumber_89 : decode cX6_scanNumber 89 = .ok (.aload_n 0, 1) := by decide +kernel
theorem dX6_scanNumber_90 : decode cX6_scanNumber 90 = .ok (.getfield 35, 3) := by decide +kernel
theorem dX6_scanNumber_93 : decode cX6_scanNumber 93 = .ok (.ldc2_w 101, 3) := by decide +kernel
theorem dX6_scanNumber_96 : decode cX6_scanNumber 96 = .ok (.lmul, 1) := by decide +kernel
theorem dX6_scanNumber_97 : decode cX6_scanNumber 97 = .ok (.aload_n 0, 1) := by decide +kernel
theorem dX6_scanNumber_98 : decode cX6_scanNumber 98 = .ok (.iload_n 1, 1) := by decide +kernel
theorem dX6_scanNumber_99 : decode cX6_scanNumber 99 = .ok (.invokevirtual 77, 3) := by decide +kernel
theorem dX6_scanNumber_102 : decode cX6_scanNumber 102 = .ok (.bipush 48, 2) := by decide +kernel
theorem dX6_scanNumber_104 : decode cX6_scanNumber 104 = .ok (.isub, 1) := by decide +kernel
theorem dX6_scanNumber_105 : decode cX6_scanNumber 105 = .ok (.i2l, 1) := by decide +kernel
theorem dX6_scanNumber_106 : decode cX6_scanNumber 106 = .ok (.ladd, 1) := by decide +kernel
theorem dX6_scanNumber_107 : decode cX6_scanNumber 107 = .ok (.putfield 35, 3) := by decide +kernel
theorem dX6_scanNumber_110 : decode cX6_scanNumber 110 = .ok (.iinc 2 1, 3) := by decide +kernel
theorem dX6_scanNumber_113 : decode cX6_scanNumber 113 = .ok (.iinc 1 1, 3) := by decide +kernel
theorem dX6_scanNumber_116 : decode cX6_scanNumber 116 = .ok (.goto (-51), 3) := by decide +kernel
theorem dX6_scanNumber_119 : decode cX6_scanNumber 119 = .ok (.iload_n 2, 1) := by decide +kernel
theorem dX6_scanNumber_120 : decode cX6_scanNumber 120 = .ok (.ifCond .eq 9, 3) := by decide +kernel
theorem dX6_scanNumber_123 : decode cX6_scanNumber 123 = .ok (.iload_n 2, 1) := by decide +kernel
theorem dX6_scanNumber_124 : decode cX6_scanNumber 124 = .ok (.bipush 18, 2) := by decide +kernel
theorem dX6_scanNumber_126 : decode cX6_scanNumber 126 = .ok (.if_icmp .le 4, 3) := by decide +kernel
theorem dX6_scanNumber_129 : decode cX6_scanNumber 129 = .ok (.return_, 1) := by decide +kernel
theorem dX6_scanNumber_130 : decode cX6_scanNumber 130 = .ok (.aload_n 0, 1) := by decide +kernel
theorem dX6_scanNumber_131 : decode cX6_scanNumber 131 = .ok (.iload_n 1, 1) := by decide +kernel
theorem dX6_scanNumber_132 : decode cX6_scanNumber 132 = .ok (.invokevirtual 77, 3) := by decide +kernel
theorem dX6_scanNumber_135 : decode cX6_scanNumber 135 = .ok (.bipush 46, 2) := by decide +kernel
theorem dX6_scanNumber_137 : decode cX6_scanNumber 137 = .ok (.if_icmp .ne 52, 3) := by decide +kernel
theorem dX6_scanNumber_140 : decode cX6_scanNumber 140 = .ok (.aload_n 0, 1) := by decide +kernel
theorem dX6_scanNumber_141 : decode cX6_scanNumber 141 = .ok (.iload_n 1, 1) := by decide +kernel
theorem dX6_scanNumber_142 : decode cX6_scanNumber 142 = .ok (.iconst 1, 1) := by decide +kernel
theorem dX6_scanNumber_143 : decode cX6_scanNumber 143 = .ok (.iadd, 1) := by decide +kernel
theorem dX6_scanNumber_144 : decode cX6_scanNumber 144 = .ok (.invokevirtual 77, 3) := by decide +kernel
theorem dX6_scanNumber_147 : decode cX6_scanNumber 147 = .ok (.invokestatic 88, 3) := by decide +kernel
theorem dX6_scanNumber_150 : decode cX6_scanNumber 150 = .ok (.ifCond .eq 16, 3) := by decide +kernel
theorem dX6_scanNumber_153 : decode cX6_scanNumber 153 = .ok (.aload_n 0, 1) := by decide +kernel
theorem dX6_scanNumber_154 : decode cX6_scanNumber 154 = .ok (.iload_n 1, 1) := by decide +kernel
theorem dX6_scanNumber_155 : decode cX6_scanNumber 155 = .ok (.iconst 2, 1) := by decide +kernel
theorem dX6_scanNumber_156 : decode cX6_scanNumber 156 = .ok (.iadd, 1) := by decide +kernel
theorem dX6_scanNumber_157 : decode cX6_scanNumber 157 = .ok (.invokevirtual 77, 3) := by decide +kernel
theorem dX6_scanNumber_160 : decode cX6_scanNumber 160 = .ok (.invokestatic 88, 3) := by decide +kernel
theorem dX6_scanNumber_163 : decode cX6_scanNumber 163 = .ok (.ifCond .eq 4, 3) := by decide +kernel
theorem dX6_scanNumber_166 : decode cX6_scanNumber 166 = .ok (.return_, 1) := by decide +kernel
theorem dX6_scanNumber_167 : decode cX6_scanNumber 167 = .ok (.aload_n 0, 1) := by decide +kernel
theorem dX6_scanNumber_168 : decode cX6_scanNumber 168 = .ok (.iconst 1, 1) := by decide +kernel
theorem dX6_scanNumber_169 : decode cX6_scanNumber 169 = .ok (.putfield 42, 3) := by decide +kernel
theorem dX6_scanNumber_172 : decode cX6_scanNumber 172 = .ok (.aload_n 0, 1) := by decide +kernel
theorem dX6_scanNumber_173 : decode cX6_scanNumber 173 = .ok (.aload_n 0, 1) := by decide +kernel
theorem dX6_scanNumber_174 : decode cX6_scanNumber 174 = .ok (.iload_n 1, 1) := by decide +kernel
theorem dX6_scanNumber_175 : decode cX6_scanNumber 175 = .ok (.iconst 1, 1) := by decide +kernel
theorem dX6_scanNumber_176 : decode cX6_scanNumber 176 = .ok (.iadd, 1) := by decide +kernel
theorem dX6_scanNumber_177 : decode cX6_scanNumber 177 = .ok (.invokevirtual 77, 3) := by decide +kernel
theorem dX6_scanNumber_180 : decode cX6_scanNumber 180 = .ok (.bipush 48, 2) := by decide +kernel
theorem dX6_scanNumber_182 : decode cX6_scanNumber 182 = .ok (.isub, 1) := by decide +kernel
theorem dX6_scanNumber_183 : decode cX6_scanNumber 183 = .ok (.putfield 45, 3) := by decide +kernel
theorem dX6_scanNumber_186 : decode cX6_scanNumber 186 = .ok (.iinc 1 2, 3) := by decide +kernel
theorem dX6_scanNumber_189 : decode cX6_scanNumber 189 = .ok (.aload_n 0, 1) := by decide +kernel
theorem dX6_scanNumber_190 : decode cX6_scanNumber 190 = .ok (.iconst 4, 1) := by decide +kernel
theorem dX6_scanNumber_191 : decode cX6_scanNumber 191 = .ok (.putfield 22, 3) := by decide +kernel
theorem dX6_scanNumber_194 : decode cX6_scanNumber 194 = .ok (.aload_n 0, 1) := by decide +kernel
theorem dX6_scanNumber_195 : decode cX6_scanNumber 195 = .ok (.iload_n 1, 1) := by decide +kernel
theorem dX6_scanNumber_196 : decode cX6_scanNumber 196 = .ok (.putfield 19, 3) := by decide +kernel
theorem dX6_scanNumber_199 : decode cX6_scanNumber 199 = .ok (.return_, 1) := by decide +kernel
theorem dX6_scanWord_0 : decode cX6_scanWord 0 = .ok (.aload_n 0, 1) := by decide +kernel
theorem dX6_scanWord_1 : decode cX6_scanWord 1 = .ok (.aload_n 0, 1) := by decide +kernel
theorem dX6_scanWord_2 : decode cX6_scanWord 2 = .ok (.getfield 25, 3) := by decide +kernel
theorem dX6_scanWord_5 : decode cX6_scanWord 5 = .ok (.bipush 8, 2) := by decide +kernel
theorem dX6_scanWord_7 : decode cX6_scanWord 7 = .ok (.invokevirtual 97, 3) := by decide +kernel
theorem dX6_scanWord_10 : decode cX6_scanWord 10 = .ok (.istore_n 1, 1) := by decide +kernel
theorem dX6_scanWord_11 : decode cX6_scanWord 11 = .ok (.iload_n 1, 1) := by decide +kernel
theorem dX6_scanWord_12 : decode cX6_scanWord 12 = .ok (.bipush 8, 2) := by decide +kernel
theorem dX6_scanWord_14 : decode cX6_scanWord 14 = .ok (.if_icmp .le 9, 3) := by decide +kernel
theorem dX6_scanWord_17 : decode cX6_scanWord 17 = .ok (.aload_n 0, 1) := by decide +kernel
theorem dX6_scanWord_18 : decode cX6_scanWord 18 = .ok (.iconst 1, 1) := by decide +kernel
theorem dX6_scanWord_19 : decode cX6_scanWord 19 = .ok (.putfield 22, 3) := by decide +kernel
theorem dX6_scanWord_22 : decode cX6_scanWord 22 = .ok (.return_, 1) := by decide +kernel
theorem dX6_scanWord_23 : decode cX6_scanWord 23 = .ok (.aload_n 0, 1) := by decide +kernel
theorem dX6_scanWord_24 : decode cX6_scanWord 24 = .ok (.aload_n 0, 1) := by decide +kernel
theorem dX6_scanWord_25 : decode cX6_scanWord 25 = .ok (.getfield 25, 3) := by decide +kernel
theorem dX6_scanWord_28 : decode cX6_scanWord 28 = .ok (.iload_n 1, 1) := by decide +kernel
theorem dX6_scanWord_29 : decode cX6_scanWord 29 = .ok (.iadd, 1) := by decide +kernel
theorem dX6_scanWord_30 : decode cX6_scanWord 30 = .ok (.putfield 19, 3) := by decide +kernel
theorem dX6_scanWord_33 : decode cX6_scanWord 33 = .ok (.aload_n 0, 1) := by decide +kernel
theorem dX6_scanWord_34 : decode cX6_scanWord 34 = .ok (.iconst 3, 1) := by decide +kernel
theorem dX6_scanWord_35 : decode cX6_scanWord 35 = .ok (.putfield 22, 3) := by decide +kernel
theorem dX6_scanWord_38 : decode cX6_scanWord 38 = .ok (.aload_n 0, 1) := by decide +kernel
theorem dX6_scanWord_39 : decode cX6_scanWord 39 = .ok (.iconst (-1), 1) := by decide +kernel
theorem dX6_scanWord_40 : decode cX6_scanWord 40 = .ok (.putfield 28, 3) := by decide +kernel
theorem dX6_scanWord_43 : decode cX6_scanWord 43 = .ok (.iconst 0, 1) := by decide +kernel
theorem dX6_scanWord_44 : decode cX6_scanWord 44 = .ok (.istore_n 2, 1) := by decide +kernel
theorem dX6_scanWord_45 : decode cX6_scanWord 45 = .ok (.iload_n 2, 1) := by decide +kernel
theorem dX6_scanWord_46 : decode cX6_scanWord 46 = .ok (.bipush 15, 2) := by decide +kernel
theorem dX6_scanWord_48 : decode cX6_scanWord 48 = .ok (.if_icmp .ge 33, 3) := by decide +kernel
theorem dX6_scanWord_51 : decode cX6_scanWord 51 = .ok (.aload_n 0, 1) := by decide +kernel
theorem dX6_scanWord_52 : decode cX6_scanWord 52 = .ok (.getfield 11, 3) := by decide +kernel
theorem dX6_scanWord_55 : decode cX6_scanWord 55 = .ok (.iload_n 2, 1) := by decide +kernel
theorem dX6_scanWord_56 : decode cX6_scanWord 56 = .ok (.laload, 1) := by decide +kernel
theorem dX6_scanWord_57 : decode cX6_scanWord 57 = .ok (.aload_n 0, 1) := by decide +kernel
theorem dX6_scanWord_58 : decode cX6_scanWord 58 = .ok (.getfield 31, 3) := by decide +kernel
theorem dX6_scanWord_61 : decode cX6_scanWord 61 = .ok (.lcmp, 1) := by decide +kernel
theorem dX6_scanWord_62 : decode cX6_scanWord 62 = .ok (.ifCond .ne 13, 3) := by decide +kernel
theorem dX6_scanWord_65 : decode cX6_scanWord 65 = .ok (.aload_n 0, 1) := by decide +kernel
theorem dX6_scanWord_66 : decode cX6_scanWord 66 = .ok (.iconst 2, 1) := by decide +kernel
theorem dX6_scanWord_67 : decode cX6_scanWord 67 = .ok (.putfield 22, 3) := by decide +kernel
theorem dX6_scanWord_70 : decode cX6_scanWord 70 = .ok (.aload_n 0, 1) := by decide +kernel
theorem dX6_scanWord_71 : decode cX6_scanWord 71 = .ok (.iload_n 2, 1) := by decide +kernel
theorem dX6_scanWord_72 : decode cX6_scanWord 72 = .ok (.putfield 28, 3) := by decide +kernel
theorem dX6_scanWord_75 : decode cX6_scanWord 75 = .ok (.iinc 2 1, 3) := by decide +kernel
theorem dX6_scanWord_78 : decode cX6_scanWord 78 = .ok (.goto (-33), 3) := by decide +kernel
theorem dX6_scanWord_81 : decode cX6_scanWord 81 = .ok (.return_, 1) := by decide +kernel
theorem dX6_signAt_0 : decode cX6_signAt 0 = .ok (.iload_n 1, 1) := by decide +kernel
theorem dX6_signAt_1 : decode cX6_signAt 1 = .ok (.ifCond .lt 33, 3) := by decide +kernel
theorem dX6_signAt_4 : decode cX6_signAt 4 = .ok (.iload_n 1, 1) := by decide +kernel
theorem dX6_signAt_5 : decode cX6_signAt 5 = .ok (.aload_n 0, 1) := by decide +kernel
theorem dX6_signAt_6 : decode cX6_signAt 6 = .ok (.getfield 15, 3) := by decide +kernel
theorem dX6_signAt_9 : decode cX6_signAt 9 = .ok (.if_icmp .ge 25, 3) := by decide +kernel
theorem dX6_signAt_12 : decode cX6_signAt 12 = .ok (.iload_n 1, 1) := by decide +kernel
theorem dX6_signAt_13 : decode cX6_signAt 13 = .ok (.aload_n 0, 1) := by decide +kernel
theorem dX6_signAt_14 : decode cX6_signAt 14 = .ok (.getfield 54, 3) := by decide +kernel
theorem dX6_signAt_17 : decode cX6_signAt 17 = .ok (.arraylength, 1) := by decide +kernel
theorem dX6_signAt_18 : decode cX6_signAt 18 = .ok (.if_icmp .ge 16, 3) := by decide +kernel
theorem dX6_signAt_21 : decode cX6_signAt 21 = .ok (.aload_n 0, 1) := by decide +kernel
theorem dX6_signAt_22 : decode cX6_signAt 22 = .ok (.getfield 54, 3) := by decide +kernel
theorem dX6_signAt_25 : decode cX6_signAt 25 = .ok (.iload_n 1, 1) := by decide +kernel
theorem dX6_signAt_26 : decode cX6_signAt 26 = .ok (.baload, 1) := by decide +kernel
theorem dX6_signAt_27 : decode cX6_signAt 27 = .ok (.sipush 255, 3) := by decide +kernel
theorem dX6_signAt_30 : decode cX6_signAt 30 = .ok (.iand, 1) := by decide +kernel
theorem dX6_signAt_31 : decode cX6_signAt 31 = .ok (.goto 4, 3) := by decide +kernel
theorem dX6_signAt_34 : decode cX6_signAt 34 = .ok (.iconst 0, 1) := by decide +kernel
theorem dX6_signAt_35 : decode cX6_signAt 35 = .ok (.ireturn, 1) := by decide +kernel
theorem dX6_takeLetters_0 : decode cX6_takeLetters 0 = .ok (.aload_n 0, 1) := by decide +kernel
theorem dX6_takeLetters_1 : decode cX6_takeLetters 1 = .ok (.lconst 0, 1) := by decide +kernel
theorem dX6_takeLetters_2 : decode cX6_takeLetters 2 = .ok (.putfield 31, 3) := by decide +kernel
theorem dX6_takeLetters_5 : decode cX6_takeLetters 5 = .ok (.iconst 0, 1) := by decide +kernel
theorem dX6_takeLetters_6 : decode cX6_takeLetters 6 = .ok (.istore_n 3, 1) := by decide +kernel
theorem dX6_takeLetters_7 : decode cX6_takeLetters 7 = .ok (.iload_n 3, 1) := by decide +kernel
theorem dX6_takeLetters_8 : decode cX6_takeLetters 8 = .ok (.iload_n 2, 1) := by decide +kernel
theorem dX6_takeLetters_9 : decode cX6_takeLetters 9 = .ok (.if_icmp .gt 92, 3) := by decide +kernel
theorem dX6_takeLetters_12 : decode cX6_takeLetters 12 = .ok (.iload_n 1, 1) := by decide +kernel
theorem dX6_takeLetters_13 : decode cX6_takeLetters 13 = .ok (.iload_n 3, 1) := by decide +kernel
theorem dX6_takeLetters_14 : decode cX6_takeLetters 14 = .ok (.iadd, 1) := by decide +kernel
theorem dX6_takeLetters_15 : decode cX6_takeLetters 15 = .ok (.istore 4, 2) := by decide +kernel
theorem dX6_takeLetters_17 : decode cX6_takeLetters 17 = .ok (.iload 4, 2) := by decide +kernel
theorem dX6_takeLetters_19 : decode cX6_takeLetters 19 = .ok (.ifCond .lt 37, 3) := by decide +kernel
theorem dX6_takeLetters_22 : decode cX6_takeLetters 22 = .ok (.iload 4, 2) := by decide +kernel
theorem dX6_takeLetters_24 : decode cX6_takeLetters 24 = .ok (.aload_n 0, 1) := by decide +kernel
theorem dX6_takeLetters_25 : decode cX6_takeLetters 25 = .ok (.getfield 15, 3) := by decide +kernel
theorem dX6_takeLetters_28 : decode cX6_takeLetters 28 = .ok (.if_icmp .ge 28, 3) := by decide +kernel
theorem dX6_takeLetters_31 : decode cX6_takeLetters 31 = .ok (.iload 4, 2) := by decide +kernel
theorem dX6_takeLetters_33 : decode cX6_takeLetters 33 = .ok (.aload_n 0, 1) := by decide +kernel
theorem dX6_takeLetters_34 : decode cX6_takeLetters 34 = .ok (.getfield 54, 3) := by decide +kernel
theorem dX6_takeLetters_37 : decode cX6_takeLetters 37 = .ok (.arraylength, 1) := by decide +kernel
theorem dX6_takeLetters_38 : decode cX6_takeLetters 38 = .ok (.if_icmp .ge 18, 3) := by decide +kernel
theorem dX6_takeLetters_41 : decode cX6_takeLetters 41 = .ok (.aload_n 0, 1) := by decide +kernel
theorem dX6_takeLetters_42 : decode cX6_takeLetters 42 = .ok (.getfield 54, 3) := by decide +kernel
theorem dX6_takeLetters_45 : decode cX6_takeLetters 45 = .ok (.iload 4, 2) := by decide +kernel
theorem dX6_takeLetters_47 : decode cX6_takeLetters 47 = .ok (.baload, 1) := by decide +kernel
theorem dX6_takeLetters_48 : decode cX6_takeLetters 48 = .ok (.bipush 97, 2) := by decide +kernel
theorem dX6_takeLetters_50 : decode cX6_takeLetters 50 = .ok (.isub, 1) := by decide +kernel
theorem dX6_takeLetters_51 : decode cX6_takeLetters 51 = .ok (.iconst 1, 1) := by decide +kernel
theorem dX6_takeLetters_52 : decode cX6_takeLetters 52 = .ok (.iadd, 1) := by decide +kernel
theorem dX6_takeLetters_53 : decode cX6_takeLetters 53 = .ok (.goto 4, 3) := by decide +kernel
theorem dX6_takeLetters_56 : decode cX6_takeLetters 56 = .ok (.iconst 0, 1) := by decide +kernel
theorem dX6_takeLetters_57 : decode cX6_takeLetters 57 = .ok (.istore 5, 2) := by decide +kernel
theorem dX6_takeLetters_59 : decode cX6_takeLetters 59 = .ok (.iload 5, 2) := by decide +kernel
theorem dX6_takeLetters_61 : decode cX6_takeLetters 61 = .ok (.iconst 1, 1) := by decide +kernel
theorem dX6_takeLetters_62 : decode cX6_takeLetters 62 = .ok (.if_icmp .lt 10, 3) := by decide +kernel
theorem dX6_takeLetters_65 : decode cX6_takeLetters 65 = .ok (.iload 5, 2) := by decide +kernel
theorem dX6_takeLetters_67 : decode cX6_takeLetters 67 = .ok (.bipush 26, 2) := by decide +kernel
theorem dX6_takeLetters_69 : decode cX6_takeLetters 69 = .ok (.if_icmp .le 5, 3) := by decide +kernel
theorem dX6_takeLetters_72 : decode cX6_takeLetters 72 = .ok (.iload_n 3, 1) := by decide +kernel
theorem dX6_takeLetters_73 : decode cX6_takeLetters 73 = .ok (.ireturn, 1) := by decide +kernel
theorem dX6_takeLetters_74 : decode cX6_takeLetters 74 = .ok (.iload_n 3, 1) := by decide +kernel
theorem dX6_takeLetters_75 : decode cX6_takeLetters 75 = .ok (.iload_n 2, 1) := by decide +kernel
theorem dX6_takeLetters_76 : decode cX6_takeLetters 76 = .ok (.if_icmp .ge 19, 3) := by decide +kernel
theorem dX6_takeLetters_79 : decode cX6_takeLetters 79 = .ok (.aload_n 0, 1) := by decide +kernel
theorem dX6_takeLetters_80 : decode cX6_takeLetters 80 = .ok (.dup, 1) := by decide +kernel
theorem dX6_takeLetters_81 : decode cX6_takeLetters 81 = .ok (.getfield 31, 3) := by decide +kernel
theorem dX6_takeLetters_84 : decode cX6_takeLetters 84 = .ok (.iload 5, 2) := by decide +kernel
theorem dX6_takeLetters_86 : decode cX6_takeLetters 86 = .ok (.i2l, 1) := by decide +kernel
theorem dX6_takeLetters_87 : decode cX6_takeLetters 87 = .ok (.iconst 5, 1) := by decide +kernel
theorem dX6_takeLetters_88 : decode cX6_takeLetters 88 = .ok (.iload_n 3, 1) := by decide +kernel
theorem dX6_takeLetters_89 : decode cX6_takeLetters 89 = .ok (.imul, 1) := by decide +kernel
theorem dX6_takeLetters_90 : decode cX6_takeLetters 90 = .ok (.lshl, 1) := by decide +kernel
theorem dX6_takeLetters_91 : decode cX6_takeLetters 91 = .ok (.lor, 1) := by decide +kernel
theorem dX6_takeLetters_92 : decode cX6_takeLetters 92 = .ok (.putfield 31, 3) := by decide +kernel
theorem dX6_takeLetters_95 : decode cX6_takeLetters 95 = .ok (.iinc 3 1, 3) := by decide +kernel
theorem dX6_takeLetters_98 : decode cX6_takeLetters 98 = .ok (.goto (-91), 3) := by decide +kernel
theorem dX6_takeLetters_101 : decode cX6_takeLetters 101 = .ok (.iload_n 2, 1) := by decide +kernel
theorem dX6_takeLetters_102 : decode cX6_takeLetters 102 = .ok (.iconst 1, 1) := by decide +kernel
theorem dX6_takeLetters_103 : decode cX6_takeLetters 103 = .ok (.iadd, 1) := by decide +kernel
theorem dX6_takeLetters_104 : decode cX6_takeLetters 104 = .ok (.ireturn, 1) := by decide +kernel
theorem dX7_isFilled_0 : decode cX7_isFilled 0 = .ok (.aload_n 0, 1) := by decide +kernel
theorem dX7_isFilled_1 : decode cX7_isFilled 1 = .ok (.iload_n 1, 1) := by decide +kernel
theorem dX7_isFilled_2 : decode cX7_isFilled 2 = .ok (.invokevirtual 54, 3) := by decide +kernel
theorem dX7_isFilled_5 : decode cX7_isFilled 5 = .ok (.ifCond .eq 16, 3) := by decide +kernel
theorem dX7_isFilled_8 : decode cX7_isFilled 8 = .ok (.aload_n 0, 1) := by decide +kernel
theorem dX7_isFilled_9 : decode cX7_isFilled 9 = .ok (.getfield 31, 3) := by decide +kernel
theorem dX7_isFilled_12 : decode cX7_isFilled 12 = .ok (.iload_n 1, 1) := by decide +kernel
theorem dX7_isFilled_13 : decode cX7_isFilled 13 = .ok (.baload, 1) := by decide +kernel
theorem dX7_isFilled_14 : decode cX7_isFilled 14 = .ok (.ifCond .eq 7, 3) := by decide +kernel
theorem dX7_isFilled_17 : decode cX7_isFilled 17 = .ok (.iconst 1, 1) := by decide +kernel
theorem dX7_isFilled_18 : decode cX7_isFilled 18 = .ok (.goto 4, 3) := by decide +kernel
theorem dX7_isFilled_21 : decode cX7_isFilled 21 = .ok (.iconst 0, 1) := by decide +kernel
theorem dX7_isFilled_22 : decode cX7_isFilled 22 = .ok (.ireturn, 1) := by decide +kernel
theorem dX7_numberOf_0 : decode cX7_numberOf 0 = .ok (.aload_n 0, 1) := by decide +kernel
theorem dX7_numberOf_1 : decode cX7_numberOf 1 = .ok (.iload_n 1, 1) := by decide +kernel
theorem dX7_numberOf_2 : decode cX7_numberOf 2 = .ok (.invokevirtual 54, 3) := by decide +kernel
theorem dX7_numberOf_5 : decode cX7_numberOf 5 = .ok (.ifCond .eq 12, 3) := by decide +kernel
theorem dX7_numberOf_8 : decode cX7_numberOf 8 = .ok (.aload_n 0, 1) := by decide +kernel
theorem dX7_numberOf_9 : decode cX7_numberOf 9 = .ok (.getfield 51, 3) := by decide +kernel
theorem dX7_numberOf_12 : decode cX7_numberOf 12 = .ok (.iload_n 1, 1) := by decide +kernel
theorem dX7_numberOf_13 : decode cX7_numberOf 13 = .ok (.iaload, 1) := by decide +kernel
theorem dX7_numberOf_14 : decode cX7_numberOf 14 = .ok (.goto 4, 3) := by decide +kernel
theorem dX7_numberOf_17 : decode cX7_numberOf 17 = .ok (.iconst (-1), 1) := by decide +kernel
theorem dX7_numberOf_18 : decode cX7_numberOf 18 = .ok (.ireturn, 1) := by decide +kernel
def f_X10_missStep (p0 : Int32) (p1 : Int32) (p2 : Int32) (p3 : Int32) (σ : ST) : Option (Int32 × ST) := (f_X10_isPlan  p0 σ).bind fun q1 => if q1.1 = 0 then (some ((-1), q1.2)) else ((f_X10_isPlan  p1 q1.2).bind fun q3 => if q3.1 = 0 then (some ((-1), q3.2)) else ((f_X0_findMisses  p0 p1 q3.2).bind fun q5 => (f_X0_stepOfMiss  p2 p3 q5).bind fun q7 => some (q7.1, q7.2)))

set_option maxRecDepth 100000 in
set_option maxHeartbeats 4000000 in
theorem b_X10_missStep_e {p : Program} {l : Launch} {e : Env} {s : State} {m : MethodId} {args : Array Value} {below : List Frame} {meth : Method} {c : Code} {dC : Nat → ClassId} {dI : Nat → Nat → Nat} {a : Nat → Nat} {k : Nat → ClassId} {A : Nat → Prop} {q : Int32 × ST} (hC : CxA p s m args meth c dC dI k A cX10_missStep RX10 (some .int) 5)   {p0 : Int32} {p1 : Int32} {p2 : Int32} {p3 : Int32} {σ : ST} (h : f_X10_missStep  p0 p1 p2 p3 σ = some q) : GoA p l e ({ frames := 327, cells := 0, slots := 0, locals := 8965 } : Room) s m args below meth c (MQ below (qAi dC dI a k A q) args s 0 0 A) dC dI a k A 5 0 σ (lv_args 0 [.ref (a 0), .int p0, .int p1, .int p2, .int p3]) [] := by
  have hC0 := hC
  obtain ⟨hx, hb, hr, hml, hown, hts, hlocks, hA, hN, hK⟩ := hC0
  intro H locs ls hP hD hS hl
  have hD0 : ∀ σ1 : ST, va_D A (wA a k σ1) := fun σ1 => wA_D hD
  replace hl : lv_has ls 5 [(0, .ref (a 0)), (1, .int p0), (2, .int p1), (3, .int p2), (4, .int p3)] := hl
  unfold f_X10_missStep at h
  refine lv_aload_n hx hb dX10_missStep_0 rfl (lv_at hl 0 rfl) ?_
  refine lv_iload_n hx hb dX10_missStep_1 rfl (lv_at hl 1 rfl) ?_
  obtain ⟨q1, hc, h⟩ := ib h
  have hF := va_frees hD hS hA
  refine va_calli (va_runV (As := [.int p0]) (rest := []) ⟨hx, hb, hml, hown, hts⟩ (s_X10_isPlan hc) (cwV 1 hts (gV mw_23_15 mw_23_16 mw_23_17 mw_0_14 mw_52_29) rfl rfl rfl (by decide +kernel) ⟨(Nat.le_of_ble_eq_true rfl), (Nat.le_of_ble_eq_true rfl)⟩) (vV (ci := 10) (q0 := 0) hK hP hD hN rfl gA_0) rfl rfl hl.1 rfl (lv_room (Nat.le_of_ble_eq_true rfl)) dX10_missStep_2 ⟨(Nat.le_of_ble_eq_true rfl), (Nat.le_of_ble_eq_true rfl)⟩) hS (fun q _ h => hF q h) hF (fun r2 u t H locs ht hvm hw hB _ _ hS => ?_)
  obtain rfl : r2 = q1.1 := hw
  replace hP : va_P (dC, dI) vwCl (wA a k q1.2) H := by rw [← ht]; exact hB.1
  replace hD := hD0 (q1.2)
  clear hB hF
  refine lv_if_eq (tgt := 16) hx hb dX10_missStep_5 (by decide) (fun hc => ?_) (fun hc => ?_)
  · replace h := ip hc h
    refine lv_iconst (v := (-1)) hx hb dX10_missStep_16 (by decide) ?_
    obtain rfl := Option.some.inj h
    exact W.iret hx hb hr (fun t ht hW => ⟨⟨_, (), rfl, rfl, ⟨by rw [ht]; exact hP, va_K.moved hW.alike hK, hD⟩⟩, hS.F ht⟩) hS.2.2 dX10_missStep_17
  · replace h := iq hc h
    refine lv_aload_n hx hb dX10_missStep_8 rfl (lv_at hl 0 rfl) ?_
    refine lv_iload_n hx hb dX10_missStep_9 rfl (lv_at hl 2 rfl) ?_
    obtain ⟨q3, hc, h⟩ := ib h
    have hF := va_frees hD hS hA
    refine va_calli (va_runV (As := [.int p1]) (rest := []) ⟨hx, hb, hml, hown, hts⟩ (s_X10_isPlan hc) (cwV 1 hts (gV mw_23_15 mw_23_16 mw_23_17 mw_0_14 mw_52_29) rfl rfl rfl (by decide +kernel) ⟨(Nat.le_of_ble_eq_true rfl), (Nat.le_of_ble_eq_true rfl)⟩) (vV (ci := 10) (q0 := 0) hK hP hD hN rfl gA_0) rfl rfl hl.1 rfl (lv_room (Nat.le_of_ble_eq_true rfl)) dX10_missStep_10 ⟨(Nat.le_of_ble_eq_true rfl), (Nat.le_of_ble_eq_true rfl)⟩) hS (fun q _ h => hF q h) hF (fun r4 u t H locs ht hvm hw hB _ _ hS => ?_)
    obtain rfl : r4 = q3.1 := hw
    replace hP : va_P (dC, dI) vwCl (wA a k q3.2) H := by rw [← ht]; exact hB.1
    replace hD := hD0 (q3.2)
    clear hB hF
    refine lv_if_ne (tgt := 18) hx hb dX10_missStep_13 (by decide) (fun hc => ?_) (fun hc => ?_)
    · replace h := iq hc h
      refine lv_aload_n hx hb dX10_missStep_18 rfl (lv_at hl 0 rfl) ?_
      refine va_get (D := (dC, dI)) (ci := 10) (C := RX10) (T := TX10) (N := 16) hx hb hts inlX10 hown hK hP 0 gA_0 rfl 7 (by decide) (hts (.fieldLink RX10 57 "ShapeReader" "matcher" "LShapeReader$Matcher;") mw_21_17) (fun _ h9 => h9) rfl dX10_missStep_19 ?_
      refine lv_iload_n hx hb dX10_missStep_22 rfl (lv_at hl 1 rfl) ?_
      refine lv_iload_n hx hb dX10_missStep_23 rfl (lv_at hl 2 rfl) ?_
      obtain ⟨q5, hc, h⟩ := ib h
      have hF := va_frees hD hS hA
      refine va_callv (va_runV (As := [.int p0, .int p1]) (rest := []) ⟨hx, hb, hml, hown, hts⟩ (s_X0_findMisses hc) (cwV 2 hts (gV mw_24_29 mw_25_0 mw_25_1 mw_0_4 mw_47_16) rfl rfl rfl (by decide +kernel) ⟨(Nat.le_of_ble_eq_true rfl), (Nat.le_of_ble_eq_true rfl)⟩) (vV (ci := 0) (q0 := 41) hK hP hD hN rfl gA_41) rfl rfl hl.1 rfl (lv_room (Nat.le_of_ble_eq_true rfl)) dX10_missStep_24 ⟨(Nat.le_of_ble_eq_true rfl), (Nat.le_of_ble_eq_true rfl)⟩) hS (fun q _ h => hF q h) hF (fun u t H locs ht hvm hw hB _ _ hS => ?_)
      replace hP : va_P (dC, dI) vwCl (wA a k q5) H := by rw [← ht]; exact hB.1
      replace hD := hD0 (q5)
      clear hB hF
      refine lv_aload_n hx hb dX10_missStep_27 rfl (lv_at hl 0 rfl) ?_
      refine va_get (D := (dC, dI)) (ci := 10) (C := RX10) (T := TX10) (N := 16) hx hb hts inlX10 hown hK hP 0 gA_0 rfl 7 (by decide) (hts (.fieldLink RX10 57 "ShapeReader" "matcher" "LShapeReader$Matcher;") mw_21_17) (fun _ h9 => h9) rfl dX10_missStep_28 ?_
      refine lv_iload_n hx hb dX10_missStep_31 rfl (lv_at hl 3 rfl) ?_
      refine lv_iload hx hb dX10_missStep_32 (lv_at hl 4 rfl) ?_
      obtain ⟨q7, hc, h⟩ := ib h
      have hF := va_frees hD hS hA
      refine va_calli (va_runV (As := [.int p2, .int p3]) (rest := []) ⟨hx, hb, hml, hown, hts⟩ (s_X0_stepOfMiss hc) (cwV 2 hts (gV mw_25_9 mw_25_10 mw_25_11 mw_0_4 mw_47_26) rfl rfl rfl (by decide +kernel) ⟨(Nat.le_of_ble_eq_true rfl), (Nat.le_of_ble_eq_true rfl)⟩) (vV (ci := 0) (q0 := 41) hK hP hD hN rfl gA_41) rfl rfl hl.1 rfl (lv_room (Nat.le_of_ble_eq_true rfl)) dX10_missStep_34 ⟨(Nat.le_of_ble_eq_true rfl), (Nat.le_of_ble_eq_true rfl)⟩) hS (fun q _ h => hF q h) hF (fun r8 u t H locs ht hvm hw hB _ _ hS => ?_)
      obtain rfl : r8 = q7.1 := hw
      replace hP : va_P (dC, dI) vwCl (wA a k q7.2) H := by rw [← ht]; exact hB.1
      replace hD := hD0 (q7.2)
      clear hB hF
      obtain rfl := Option.some.inj h
      exact W.iret hx hb hr (fun t ht hW => ⟨⟨_, (), rfl, rfl, ⟨by rw [ht]; exact hP, va_K.moved hW.alike hK, hD⟩⟩, hS.F ht⟩) hS.2.2 dX10_missStep_37
    · replace h := ip hc h
      refine lv_iconst (v := (-1)) hx hb dX10_missStep_16 (by decide) ?_
      obtain rfl := Option.some.inj h
      exact W.iret hx hb hr (fun t ht hW => ⟨⟨_, (), rfl, rfl, ⟨by rw [ht]; exact hP, va_K.moved hW.alike hK, hD⟩⟩, hS.F ht⟩) hS.2.2 dX10_missStep_17

theorem s_X10_missStep {l : Launch} {dC : Nat → ClassId} {dI : Nat → Nat → Nat} {a : Nat → Nat} {k : Nat → ClassId} {sz : Nat} {p0 : Int32} {p1 : Int32} {p2 : Int32} {p3 : Int32} {σ : ST} {q : Int32 × ST} (h : f_X10_missStep  p0 p1 p2 p3 σ = some q) : Met l yX10_missStep (.code yX10_missStep cX10_missStep 5 (some .int) :: pw) ({ frames := 327, cells := 0, slots := 0, locals := 8965 } : Room) (va_Pc [.ref (a 0), .int p0, .int p1, .int p2, .int p3] (vPre dC dI (wA a k σ) (tA k) sz)) (qAi dC dI a k (va_A (wA a k σ) sz) q) 0 0 (va_A (wA a k σ) sz) := metA (fun A => qAi dC dI a k A q) (plainFor_of_name (by decide)) (Nat.le_of_ble_eq_true rfl) (fun _ _ _ _ _ _ _ _ hC => b_X10_missStep_e hC h)

def f_X7_isFilled (b : Nat) (p0 : Int32) (σ : ST) : Option (Int32 × ST) := (f_X7_isRow b p0 σ).bind fun q1 => if q1.1 = 0 then (some (0, q1.2)) else (if 0 ≤ p0.toInt ∧ p0.toInt < (ln7 b : Nat) then (if (q1.2.1 (b + 5) p0.toNatClampNeg) = 0 then (some (0, q1.2)) else (some (1, q1.2))) else none)

set_option maxRecDepth 100000 in
set_option maxHeartbeats 4000000 in
theorem b_X7_isFilled_e_50 {p : Program} {l : Launch} {e : Env} {s : State} {m : MethodId} {args : Array Value} {below : List Frame} {meth : Method} {c : Code} {dC : Nat → ClassId} {dI : Nat → Nat → Nat} {a : Nat → Nat} {k : Nat → ClassId} {A : Nat → Prop} {q : Int32 × ST} (hC : CxA p s m args meth c dC dI k A cX7_isFilled RX7 (some .boolean) 2)   {p0 : Int32} {σ : ST} (h : f_X7_isFilled 50 p0 σ = some q) : GoA p l e ({ frames := 1, cells := 0, slots := 0, locals := 21 } : Room) s m args below meth c (MQ below (qAi dC dI a k A q) args s 0 0 A) dC dI a k A 2 0 σ (lv_args 0 [.ref (a 50), .int p0]) [] := by
  have hC0 := hC
  obtain ⟨hx, hb, hr, hml, hown, hts, hlocks, hA, hN, hK⟩ := hC0
  intro H locs ls hP hD hS hl
  have hD0 : ∀ σ1 : ST, va_D A (wA a k σ1) := fun σ1 => wA_D hD
  replace hl : lv_has ls 2 [(0, .ref (a 50)), (1, .int p0)] := hl
  unfold f_X7_isFilled at h
  refine lv_aload_n hx hb dX7_isFilled_0 rfl (lv_at hl 0 rfl) ?_
  refine lv_iload_n hx hb dX7_isFilled_1 rfl (lv_at hl 1 rfl) ?_
  obtain ⟨q1, hc, h⟩ := ib h
  have hF := va_frees hD hS hA
  refine va_calli (va_runV (As := [.int p0]) (rest := []) ⟨hx, hb, hml, hown, hts⟩ (s_X7_isRow_50 hc) (cwV 1 hts (gV mw_18_14 mw_18_15 mw_18_16 mw_0_11 mw_51_24) rfl rfl rfl (by decide +kernel) ⟨(Nat.le_of_ble_eq_true rfl), (Nat.le_of_ble_eq_true rfl)⟩) (vV (ci := 7) (q0 := 50) hK hP hD hN rfl gA_50) rfl rfl hl.1 rfl (lv_room (Nat.le_of_ble_eq_true rfl)) dX7_isFilled_2 ⟨(Nat.le_of_ble_eq_true rfl), (Nat.le_of_ble_eq_true rfl)⟩) hS (fun q _ h => hF q h) hF (fun r2 u t H locs ht hvm hw hB _ _ hS => ?_)
  obtain rfl : r2 = q1.1 := hw
  replace hP : va_P (dC, dI) vwCl (wA a k q1.2) H := by rw [← ht]; exact hB.1
  replace hD := hD0 (q1.2)
  clear hB hF
  refine lv_if_eq (tgt := 21) hx hb dX7_isFilled_5 (by decide) (fun hc => ?_) (fun hc => ?_)
  · replace h := ip hc h
    refine lv_iconst (v := 0) hx hb dX7_isFilled_21 (by decide) ?_
    obtain rfl := Option.some.inj h
    exact W.zret hx hb hr rfl (fun t ht hW => ⟨⟨_, (), rfl, rfl, ⟨by rw [ht]; exact hP, va_K.moved hW.alike hK, hD⟩⟩, hS.F ht⟩) hS.2.2 dX7_isFilled_22
  · replace h := iq hc h
    refine lv_aload_n hx hb dX7_isFilled_8 rfl (lv_at hl 0 rfl) ?_
    refine va_get (D := (dC, dI)) (ci := 7) (C := RX7) (T := TX7) (N := 13) hx hb hts inlX7 hown hK hP 50 gA_50 rfl 6 (by decide) (hts (.fieldLink RX7 31 "ShapeReader$Tree" "filled" "[Z") mw_18_7) (fun _ h9 => h9) rfl dX7_isFilled_9 ?_
    refine lv_iload_n hx hb dX7_isFilled_12 rfl (lv_at hl 1 rfl) ?_
    obtain ⟨hg3, h⟩ := ig h
    refine va_zald hx hb hK hP 55 46 gA_55 yA_55 (vp_in_iff.mpr hg3) dX7_isFilled_13 ?_
    refine lv_if_eq (tgt := 21) hx hb dX7_isFilled_14 (by decide) (fun hc => ?_) (fun hc => ?_)
    · replace h := ip hc h
      refine lv_iconst (v := 0) hx hb dX7_isFilled_21 (by decide) ?_
      obtain rfl := Option.some.inj h
      exact W.zret hx hb hr rfl (fun t ht hW => ⟨⟨_, (), rfl, rfl, ⟨by rw [ht]; exact hP, va_K.moved hW.alike hK, hD⟩⟩, hS.F ht⟩) hS.2.2 dX7_isFilled_22
    · replace h := iq hc h
      refine lv_iconst (v := 1) hx hb dX7_isFilled_17 (by decide) ?_
      refine lv_goto (tgt := 22) hx hb dX7_isFilled_18 (by decide) ?_
      obtain rfl := Option.some.inj h
      exact W.zret hx hb hr rfl (fun t ht hW => ⟨⟨_, (), rfl, rfl, ⟨by rw [ht]; exact hP, va_K.moved hW.alike hK, hD⟩⟩, hS.F ht⟩) hS.2.2 dX7_isFilled_22

theorem s_X7_isFilled_50 {l : Launch} {dC : Nat → ClassId} {dI : Nat → Nat → Nat} {a : Nat → Nat} {k : Nat → ClassId} {sz : Nat} {p0 : Int32} {σ : ST} {q : Int32 × ST} (h : f_X7_isFilled 50 p0 σ = some q) : Met l yX7_isFilled (.code yX7_isFilled cX7_isFilled 2 (some .boolean) :: pw) ({ frames := 1, cells := 0, slots := 0, locals := 21 } : Room) (va_Pc [.ref (a 50), .int p0] (vPre dC dI (wA a k σ) (tA k) sz)) (qAi dC dI a k (va_A (wA a k σ) sz) q) 0 0 (va_A (wA a k σ) sz) := metA (fun A => qAi dC dI a k A q) (plainFor_of_name (by decide)) (Nat.le_of_ble_eq_true rfl) (fun _ _ _ _ _ _ _ _ hC => b_X7_isFilled_e_50 hC h)

def f_X7_numberOf (b : Nat) (p0 : Int32) (σ : ST) : Option (Int32 × ST) := (f_X7_isRow b p0 σ).bind fun q1 => if q1.1 = 0 then (some ((-1), q1.2)) else (if 0 ≤ p0.toInt ∧ p0.toInt < (ln7 b : Nat) then (some ((q1.2.1 (b + 11) p0.toNatClampNeg), q1.2)) else none)

set_option maxRecDepth 100000 in
set_option maxHeartbeats 4000000 in
theorem b_X7_numberOf_e_50 {p : Program} {l : Launch} {e : Env} {s : State} {m : MethodId} {args : Array Value} {below : List Frame} {meth : Method} {c : Code} {dC : Nat → ClassId} {dI : Nat → Nat → Nat} {a : Nat → Nat} {k : Nat → ClassId} {A : Nat → Prop} {q : Int32 × ST} (hC : CxA p s m args meth c dC dI k A cX7_numberOf RX7 (some .int) 2)   {p0 : Int32} {σ : ST} (h : f_X7_numberOf 50 p0 σ = some q) : GoA p l e ({ frames := 1, cells := 0, slots := 0, locals := 21 } : Room) s m args below meth c (MQ below (qAi dC dI a k A q) args s 0 0 A) dC dI a k A 2 0 σ (lv_args 0 [.ref (a 50), .int p0]) [] := by
  have hC0 := hC
  obtain ⟨hx, hb, hr, hml, hown, hts, hlocks, hA, hN, hK⟩ := hC0
  intro H locs ls hP hD hS hl
  have hD0 : ∀ σ1 : ST, va_D A (wA a k σ1) := fun σ1 => wA_D hD
  replace hl : lv_has ls 2 [(0, .ref (a 50)), (1, .int p0)] := hl
  unfold f_X7_numberOf at h
  refine lv_aload_n hx hb dX7_numberOf_0 rfl (lv_at hl 0 rfl) ?_
  refine lv_iload_n hx hb dX7_numberOf_1 rfl (lv_at hl 1 rfl) ?_
  obtain ⟨q1, hc, h⟩ := ib h
  have hF := va_frees hD hS hA
  refine va_calli (va_runV (As := [.int p0]) (rest := []) ⟨hx, hb, hml, hown, hts⟩ (s_X7_isRow_50 hc) (cwV 1 hts (gV mw_18_14 mw_18_15 mw_18_16 mw_0_11 mw_51_24) rfl rfl rfl (by decide +kernel) ⟨(Nat.le_of_ble_eq_true rfl), (Nat.le_of_ble_eq_true rfl)⟩) (vV (ci := 7) (q0 := 50) hK hP hD hN rfl gA_50) rfl rfl hl.1 rfl (lv_room (Nat.le_of_ble_eq_true rfl)) dX7_numberOf_2 ⟨(Nat.le_of_ble_eq_true rfl), (Nat.le_of_ble_eq_true rfl)⟩) hS (fun q _ h => hF q h) hF (fun r2 u t H locs ht hvm hw hB _ _ hS => ?_)
  obtain rfl : r2 = q1.1 := hw
  replace hP : va_P (dC, dI) vwCl (wA a k q1.2) H := by rw [← ht]; exact hB.1
  replace hD := hD0 (q1.2)
  clear hB hF
  refine lv_if_eq (tgt := 17) hx hb dX7_numberOf_5 (by decide) (fun hc => ?_) (fun hc => ?_)
  · replace h := ip hc h
    refine lv_iconst (v := (-1)) hx hb dX7_numberOf_17 (by decide) ?_
    obtain rfl := Option.some.inj h
    exact W.iret hx hb hr (fun t ht hW => ⟨⟨_, (), rfl, rfl, ⟨by rw [ht]; exact hP, va_K.moved hW.alike hK, hD⟩⟩, hS.F ht⟩) hS.2.2 dX7_numberOf_18
  · replace h := iq hc h
    refine lv_aload_n hx hb dX7_numberOf_8 rfl (lv_at hl 0 rfl) ?_
    refine va_get (D := (dC, dI)) (ci := 7) (C := RX7) (T := TX7) (N := 13) hx hb hts inlX7 hown hK hP 50 gA_50 rfl 12 (by decide) (hts (.fieldLink RX7 51 "ShapeReader$Tree" "numbers" "[I") mw_18_13) (fun _ h9 => h9) rfl dX7_numberOf_9 ?_
    refine lv_iload_n hx hb dX7_numberOf_12 rfl (lv_at hl 1 rfl) ?_
    obtain ⟨hg3, h⟩ := ig h
    refine va_iald hx hb hK hP 61 52 gA_61 yA_61 (vp_in_iff.mpr hg3) dX7_numberOf_13 ?_
    refine lv_goto (tgt := 18) hx hb dX7_numberOf_14 (by decide) ?_
    obtain rfl := Option.some.inj h
    exact W.iret hx hb hr (fun t ht hW => ⟨⟨_, (), rfl, rfl, ⟨by rw [ht]; exact hP, va_K.moved hW.alike hK, hD⟩⟩, hS.F ht⟩) hS.2.2 dX7_numberOf_18

theorem s_X7_numberOf_50 {l : Launch} {dC : Nat → ClassId} {dI : Nat → Nat → Nat} {a : Nat → Nat} {k : Nat → ClassId} {sz : Nat} {p0 : Int32} {σ : ST} {q : Int32 × ST} (h : f_X7_numberOf 50 p0 σ = some q) : Met l yX7_numberOf (.code yX7_numberOf cX7_numberOf 2 (some .int) :: pw) ({ frames := 1, cells := 0, slots := 0, locals := 21 } : Room) (va_Pc [.ref (a 50), .int p0] (vPre dC dI (wA a k σ) (tA k) sz)) (qAi dC dI a k (va_A (wA a k σ) sz) q) 0 0 (va_A (wA a k σ) sz) := metA (fun A => qAi dC dI a k A q) (plainFor_of_name (by decide)) (Nat.le_of_ble_eq_true rfl) (fun _ _ _ _ _ _ _ _ hC => b_X7_numberOf_e_50 hC h)

def f_X1_clear (σ : ST) : Option (ST) := (f_J7_fill_53178 40 (-1) σ).bind fun q1 => some q1

set_option maxRecDepth 100000 in
set_option maxHeartbeats 4000000 in
theorem b_X1_clear_e {p : Program} {l : Launch} {e : Env} {s : State} {m : MethodId} {args : Array Value} {below : List Frame} {meth : Method} {c : Code} {dC : Nat → ClassId} {dI : Nat → Nat → Nat} {a : Nat → Nat} {k : Nat → ClassId} {A : Nat → Prop} {q : ST} (hC : CxA p s m args meth c dC dI k A cX1_clear RX1 none 1)    {σ : ST} (h : f_X1_clear   σ = some q) : GoA p l e ({ frames := 1, cells := 0, slots := 0, locals := 23 } : Room) s m args below meth c (MQ below (qAv dC dI a k A q) args s 0 0 A) dC dI a k A 1 0 σ (lv_args 0 [.ref (a 37)]) [] := by
  have hC0 := hC
  obtain ⟨hx, hb, hr, hml, hown, hts, hlocks, hA, hN, hK⟩ := hC0
  intro H locs ls hP hD hS hl
  have hD0 : ∀ σ1 : ST, va_D A (wA a k σ1) := fun σ1 => wA_D hD
  replace hl : lv_has ls 1 [(0, .ref (a 37))] := hl
  unfold f_X1_clear at h
  refine lv_aload_n hx hb dX1_clear_0 rfl (lv_at hl 0 rfl) ?_
  refine va_get (D := (dC, dI)) (ci := 1) (C := RX1) (T := TX1) (N := 3) hx hb hts inlX1 hown hK hP 37 gA_37 rfl 2 (by decide) (hts (.fieldLink RX1 19 "ShapeReader$Messages" "plansUsed" "[I") mw_4_9) (fun _ h9 => h9) rfl dX1_clear_1 ?_
  refine lv_iconst (v := (-1)) hx hb dX1_clear_4 (by decide) ?_
  obtain ⟨q1, hc, h⟩ := ib h
  have hF := va_frees hD hS hA
  refine va_callv (va_runS (As := [.ref (a 40), .int (-1)]) (rest := []) ⟨hx, hb, hml, hown, hts⟩ (s_J7_fill_53178_40 hc) (va_cwS 2 hts (gS mw_4_10 mw_1_2 mw_1_3 mw_58_3) rfl rfl rfl (by decide +kernel) ⟨(Nat.le_of_ble_eq_true rfl), (Nat.le_of_ble_eq_true rfl)⟩) (vS hK hP hD hN) rfl rfl hl.1 rfl (lv_room (Nat.le_of_ble_eq_true rfl)) dX1_clear_5 ⟨(Nat.le_of_ble_eq_true rfl), (Nat.le_of_ble_eq_true rfl)⟩) hS (fun q _ h => hF q h) hF (fun u t H locs ht hvm hw hB _ _ hS => ?_)
  replace hP : va_P (dC, dI) vwCl (wA a k q1) H := by rw [← ht]; exact hB.1
  replace hD := hD0 (q1)
  clear hB hF
  obtain rfl := Option.some.inj h
  exact W.vret hx hb hr (fun t ht hW => ⟨⟨(), rfl, trivial, ⟨by rw [ht]; exact hP, va_K.moved hW.alike hK, hD⟩⟩, hS.F ht⟩) hS.2.2 dX1_clear_8

theorem s_X1_clear {l : Launch} {dC : Nat → ClassId} {dI : Nat → Nat → Nat} {a : Nat → Nat} {k : Nat → ClassId} {sz : Nat}  {σ : ST} {q : ST} (h : f_X1_clear   σ = some q) : Met l yX1_clear (.code yX1_clear cX1_clear 1 none :: pw) ({ frames := 1, cells := 0, slots := 0, locals := 23 } : Room) (va_Pc [.ref (a 37)] (vPre dC dI (wA a k σ) (tA k) sz)) (qAv dC dI a k (va_A (wA a k σ) sz) q) 0 0 (va_A (wA a k σ) sz) := metA (fun A => qAv dC dI a k A q) (plainFor_of_name (by decide)) (Nat.le_of_ble_eq_true rfl) (fun _ _ _ _ _ _ _ _ hC => b_X1_clear_e hC h)

def f_X5_addType (b : Nat) (p0 : Int32) (σ : ST) : Option (Int32 × ST) := if (σ.1 b 1) < 262 then (if 0 ≤ (σ.1 b 1).toInt ∧ (σ.1 b 1).toInt < 262 then ((some (stI (stI σ (b + 11) (σ.1 b 1).toNatClampNeg p0) (b + 12) (σ.1 b 1).toNatClampNeg (-1))).bind fun z2 => (some (stL (stI z2 (b + 13) (σ.1 b 1).toNatClampNeg (-1)) (b + 14) (σ.1 b 1).toNatClampNeg 0)).bind fun z3 => (some (stI (stI z3 (b + 15) (σ.1 b 1).toNatClampNeg 0) b 1 (((stI z3 (b + 15) (σ.1 b 1).toNatClampNeg 0).1 b 1) + 1))).bind fun z4 => some ((σ.1 b 1), z4)) else none) else (some ((-1), σ))

set_option maxRecDepth 100000 in
set_option maxHeartbeats 4000000 in
theorem b_X5_addType_e_20 {p : Program} {l : Launch} {e : Env} {s : State} {m : MethodId} {args : Array Value} {below : List Frame} {meth : Method} {c : Code} {dC : Nat → ClassId} {dI : Nat → Nat → Nat} {a : Nat → Nat} {k : Nat → ClassId} {A : Nat → Prop} {q : Int32 × ST} (hC : CxA p s m args meth c dC dI k A cX5_addType RX5 (some .int) 3)   {p0 : Int32} {σ : ST} (h : f_X5_addType 20 p0 σ = some q) : GoA p l e ({ frames := 0, cells := 0, slots := 0, locals := 0 } : Room) s m args below meth c (MQ below (qAi dC dI a k A q) args s 0 0 A) dC dI a k A 3 0 σ (lv_args 0 [.ref (a 20), .int p0]) [] := by
  have hC0 := hC
  obtain ⟨hx, hb, hr, hml, hown, hts, hlocks, hA, hN, hK⟩ := hC0
  intro H locs ls hP hD hS hl
  have hD0 : ∀ σ1 : ST, va_D A (wA a k σ1) := fun σ1 => wA_D hD
  replace hl : lv_has ls 3 [(0, .ref (a 20)), (1, .int p0)] := hl
  unfold f_X5_addType at h
  refine lv_aload_n hx hb dX5_addType_0 rfl (lv_at hl 0 rfl) ?_
  refine va_get (D := (dC, dI)) (ci := 5) (C := RX5) (T := TX5) (N := 17) hx hb hts inlX5 hown hK hP 20 gA_20 rfl 1 (by decide) (hts (.fieldLink RX5 15 "ShapeReader$Shapes" "typeCount" "I") mw_14_18) (fun _ h9 => h9) rfl dX5_addType_1 ?_
  refine lv_sipush (v := 262) hx hb dX5_addType_4 (by decide) ?_
  refine lv_icmp_lt (tgt := 12) hx hb dX5_addType_7 (by decide) (fun hc => ?_) (fun hc => ?_)
  · replace h := ip hc h
    refine lv_aload_n hx hb dX5_addType_12 rfl (lv_at hl 0 rfl) ?_
    refine va_get (D := (dC, dI)) (ci := 5) (C := RX5) (T := TX5) (N := 17) hx hb hts inlX5 hown hK hP 20 gA_20 rfl 1 (by decide) (hts (.fieldLink RX5 15 "ShapeReader$Shapes" "typeCount" "I") mw_14_18) (fun _ h9 => h9) rfl dX5_addType_13 ?_
    refine lv_istore_n (lv' := [(2, .int (σ.1 20 1)), (0, .ref (a 20)), (1, .int p0)]) hx hb dX5_addType_16 rfl hl (by decide) rfl (fun ls hl => ?_)
    refine lv_aload_n hx hb dX5_addType_17 rfl (lv_at hl 1 rfl) ?_
    refine va_get (D := (dC, dI)) (ci := 5) (C := RX5) (T := TX5) (N := 17) hx hb hts inlX5 hown hK hP 20 gA_20 rfl 12 (by decide) (hts (.fieldLink RX5 50 "ShapeReader$Shapes" "sorts" "[I") mw_14_29) (fun _ h9 => h9) rfl dX5_addType_18 ?_
    refine lv_iload_n hx hb dX5_addType_21 rfl (lv_at hl 0 rfl) ?_
    refine lv_iload_n hx hb dX5_addType_22 rfl (lv_at hl 2 rfl) ?_
    obtain ⟨hg1, h⟩ := ig h
    refine va_iast hx hb hK hP hD hS 31 27 gA_31 yA_31 (vp_in_iff.mpr hg1) dX5_addType_23 (fun H locs hP hD hS => ?_)
    replace hP := uA_31 hP
    replace hD := hD0 ((stI σ 31 (σ.1 20 1).toNatClampNeg p0))
    refine lv_aload_n hx hb dX5_addType_24 rfl (lv_at hl 1 rfl) ?_
    refine va_get (D := (dC, dI)) (ci := 5) (C := RX5) (T := TX5) (N := 17) hx hb hts inlX5 hown hK hP 20 gA_20 rfl 13 (by decide) (hts (.fieldLink RX5 53 "ShapeReader$Shapes" "inners" "[I") mw_15_0) (fun _ h9 => h9) rfl dX5_addType_25 ?_
    refine lv_iload_n hx hb dX5_addType_28 rfl (lv_at hl 0 rfl) ?_
    refine lv_iconst (v := (-1)) hx hb dX5_addType_29 (by decide) ?_
    refine va_iast hx hb hK hP hD hS 32 28 gA_32 yA_32 (vp_in_iff.mpr hg1) dX5_addType_30 (fun H locs hP hD hS => ?_)
    replace hP := uA_32 hP
    replace hD := hD0 ((stI (stI σ 31 (σ.1 20 1).toNatClampNeg p0) 32 (σ.1 20 1).toNatClampNeg (-1)))
    obtain ⟨z2, hs, h⟩ := ib h
    replace hs := Option.some.inj hs
    replace hP : va_P (dC, dI) vwCl (wA a k z2) H := by rw [← hs]; exact hP
    replace hD := hD0 z2
    clear hs
    refine lv_aload_n hx hb dX5_addType_31 rfl (lv_at hl 1 rfl) ?_
    refine va_get (D := (dC, dI)) (ci := 5) (C := RX5) (T := TX5) (N := 17) hx hb hts inlX5 hown hK hP 20 gA_20 rfl 14 (by decide) (hts (.fieldLink RX5 56 "ShapeReader$Shapes" "nextBranches" "[I") mw_15_1) (fun _ h9 => h9) rfl dX5_addType_32 ?_
    refine lv_iload_n hx hb dX5_addType_35 rfl (lv_at hl 0 rfl) ?_
    refine lv_iconst (v := (-1)) hx hb dX5_addType_36 (by decide) ?_
    refine va_iast hx hb hK hP hD hS 33 29 gA_33 yA_33 (vp_in_iff.mpr hg1) dX5_addType_37 (fun H locs hP hD hS => ?_)
    replace hP := uA_33 hP
    replace hD := hD0 ((stI z2 33 (σ.1 20 1).toNatClampNeg (-1)))
    refine lv_aload_n hx hb dX5_addType_38 rfl (lv_at hl 1 rfl) ?_
    refine va_get (D := (dC, dI)) (ci := 5) (C := RX5) (T := TX5) (N := 17) hx hb hts inlX5 hown hK hP 20 gA_20 rfl 15 (by decide) (hts (.fieldLink RX5 59 "ShapeReader$Shapes" "askedNames" "[J") mw_15_2) (fun _ h9 => h9) rfl dX5_addType_39 ?_
    refine lv_iload_n hx hb dX5_addType_42 rfl (lv_at hl 0 rfl) ?_
    refine lv_lconst (v := 0) hx hb dX5_addType_43 (by decide) ?_
    refine va_last hx hb hK hP hD hS 34 30 gA_34 yA_34 (vp_in_iff.mpr hg1) dX5_addType_44 (fun H locs hP hD hS => ?_)
    replace hP := uA_34 hP
    replace hD := hD0 ((stL (stI z2 33 (σ.1 20 1).toNatClampNeg (-1)) 34 (σ.1 20 1).toNatClampNeg 0))
    obtain ⟨z3, hs, h⟩ := ib h
    replace hs := Option.some.inj hs
    replace hP : va_P (dC, dI) vwCl (wA a k z3) H := by rw [← hs]; exact hP
    replace hD := hD0 z3
    clear hs
    refine lv_aload_n hx hb dX5_addType_45 rfl (lv_at hl 1 rfl) ?_
    refine va_get (D := (dC, dI)) (ci := 5) (C := RX5) (T := TX5) (N := 17) hx hb hts inlX5 hown hK hP 20 gA_20 rfl 16 (by decide) (hts (.fieldLink RX5 62 "ShapeReader$Shapes" "askedPlaces" "[I") mw_15_3) (fun _ h9 => h9) rfl dX5_addType_46 ?_
    refine lv_iload_n hx hb dX5_addType_49 rfl (lv_at hl 0 rfl) ?_
    refine lv_iconst (v := 0) hx hb dX5_addType_50 (by decide) ?_
    refine va_iast hx hb hK hP hD hS 35 31 gA_35 yA_35 (vp_in_iff.mpr hg1) dX5_addType_51 (fun H locs hP hD hS => ?_)
    replace hP := uA_35 hP
    replace hD := hD0 ((stI z3 35 (σ.1 20 1).toNatClampNeg 0))
    refine lv_aload_n hx hb dX5_addType_52 rfl (lv_at hl 1 rfl) ?_
    refine lv_dup hx hb dX5_addType_53 rfl ?_
    refine va_get (D := (dC, dI)) (ci := 5) (C := RX5) (T := TX5) (N := 17) hx hb hts inlX5 hown hK hP 20 gA_20 rfl 1 (by decide) (hts (.fieldLink RX5 15 "ShapeReader$Shapes" "typeCount" "I") mw_14_18) (fun _ h9 => h9) rfl dX5_addType_54 ?_
    refine lv_iconst (v := 1) hx hb dX5_addType_57 (by decide) ?_
    refine lv_iadd hx hb dX5_addType_58 ?_
    refine va_put (D := (dC, dI)) (ci := 5) (ty := .int) (C := RX5) (T := TX5) (N := 17) hx hb hts inlX5 tyX5 tyX5_ok nmX5 hown hK hP hD hS 20 gA_20 rfl 1 (by decide) (hts (.fieldLink RX5 15 "ShapeReader$Shapes" "typeCount" "I") mw_14_18) (fun _ h9 => h9) rfl (by decide +kernel) rfl rfl (Nat.le_of_ble_eq_true rfl) dX5_addType_59 (fun H locs hP hD hS => ?_)
    replace hP := uA_20_1 hP
    replace hD := hD0 ((stI (stI z3 35 (σ.1 20 1).toNatClampNeg 0) 20 1 (((stI z3 35 (σ.1 20 1).toNatClampNeg 0).1 20 1) + 1)))
    obtain ⟨z4, hs, h⟩ := ib h
    replace hs := Option.some.inj hs
    replace hP : va_P (dC, dI) vwCl (wA a k z4) H := by rw [← hs]; exact hP
    replace hD := hD0 z4
    clear hs
    refine lv_iload_n hx hb dX5_addType_62 rfl (lv_at hl 0 rfl) ?_
    obtain rfl := Option.some.inj h
    exact W.iret hx hb hr (fun t ht hW => ⟨⟨_, (), rfl, rfl, ⟨by rw [ht]; exact hP, va_K.moved hW.alike hK, hD⟩⟩, hS.F ht⟩) hS.2.2 dX5_addType_63
  · replace h := iq hc h
    refine lv_iconst (v := (-1)) hx hb dX5_addType_10 (by decide) ?_
    obtain rfl := Option.some.inj h
    exact W.iret hx hb hr (fun t ht hW => ⟨⟨_, (), rfl, rfl, ⟨by rw [ht]; exact hP, va_K.moved hW.alike hK, hD⟩⟩, hS.F ht⟩) hS.2.2 dX5_addType_11

theorem s_X5_addType_20 {l : Launch} {dC : Nat → ClassId} {dI : Nat → Nat → Nat} {a : Nat → Nat} {k : Nat → ClassId} {sz : Nat} {p0 : Int32} {σ : ST} {q : Int32 × ST} (h : f_X5_addType 20 p0 σ = some q) : Met l yX5_addType (.code yX5_addType cX5_addType 3 (some .int) :: pw) ({ frames := 0, cells := 0, slots := 0, locals := 0 } : Room) (va_Pc [.ref (a 20), .int p0] (vPre dC dI (wA a k σ) (tA k) sz)) (qAi dC dI a k (va_A (wA a k σ) sz) q) 0 0 (va_A (wA a k σ) sz) := metA (fun A => qAi dC dI a k A q) (plainFor_of_name (by decide)) (Nat.le_of_ble_eq_true rfl) (fun _ _ _ _ _ _ _ _ hC => b_X5_addType_e_20 hC h)

def f_X5_setInner (b : Nat) (p0 : Int32) (p1 : Int32) (σ : ST) : Option (ST) := (f_X5_isType b p0 σ).bind fun q1 => if q1.1 = 0 then (some q1.2) else (if 0 ≤ p0.toInt ∧ p0.toInt < 262 then (some (stI q1.2 (b + 12) p0.toNatClampNeg p1)) else none)

set_option maxRecDepth 100000 in
set_option maxHeartbeats 4000000 in
theorem b_X5_setInner_e_20 {p : Program} {l : Launch} {e : Env} {s : State} {m : MethodId} {args : Array Value} {below : List Frame} {meth : Method} {c : Code} {dC : Nat → ClassId} {dI : Nat → Nat → Nat} {a : Nat → Nat} {k : Nat → ClassId} {A : Nat → Prop} {q : ST} (hC : CxA p s m args meth c dC dI k A cX5_setInner RX5 none 3)   {p0 : Int32} {p1 : Int32} {σ : ST} (h : f_X5_setInner 20 p0 p1 σ = some q) : GoA p l e ({ frames := 1, cells := 0, slots := 0, locals := 21 } : Room) s m args below meth c (MQ below (qAv dC dI a k A q) args s 0 0 A) dC dI a k A 3 0 σ (lv_args 0 [.ref (a 20), .int p0, .int p1]) [] := by
  have hC0 := hC
  obtain ⟨hx, hb, hr, hml, hown, hts, hlocks, hA, hN, hK⟩ := hC0
  intro H locs ls hP hD hS hl
  have hD0 : ∀ σ1 : ST, va_D A (wA a k σ1) := fun σ1 => wA_D hD
  replace hl : lv_has ls 3 [(0, .ref (a 20)), (1, .int p0), (2, .int p1)] := hl
  unfold f_X5_setInner at h
  refine lv_aload_n hx hb dX5_setInner_0 rfl (lv_at hl 0 rfl) ?_
  refine lv_iload_n hx hb dX5_setInner_1 rfl (lv_at hl 1 rfl) ?_
  obtain ⟨q1, hc, h⟩ := ib h
  have hF := va_frees hD hS hA
  refine va_calli (va_runV (As := [.int p0]) (rest := []) ⟨hx, hb, hml, hown, hts⟩ (s_X5_isType_20 hc) (cwV 1 hts (gV mw_15_9 mw_15_10 mw_15_11 mw_0_9 mw_49_26) rfl rfl rfl (by decide +kernel) ⟨(Nat.le_of_ble_eq_true rfl), (Nat.le_of_ble_eq_true rfl)⟩) (vV (ci := 5) (q0 := 20) hK hP hD hN rfl gA_20) rfl rfl hl.1 rfl (lv_room (Nat.le_of_ble_eq_true rfl)) dX5_setInner_2 ⟨(Nat.le_of_ble_eq_true rfl), (Nat.le_of_ble_eq_true rfl)⟩) hS (fun q _ h => hF q h) hF (fun r2 u t H locs ht hvm hw hB _ _ hS => ?_)
  obtain rfl : r2 = q1.1 := hw
  replace hP : va_P (dC, dI) vwCl (wA a k q1.2) H := by rw [← ht]; exact hB.1
  replace hD := hD0 (q1.2)
  clear hB hF
  refine lv_if_eq (tgt := 15) hx hb dX5_setInner_5 (by decide) (fun hc => ?_) (fun hc => ?_)
  · replace h := ip hc h
    obtain rfl := Option.some.inj h
    exact W.vret hx hb hr (fun t ht hW => ⟨⟨(), rfl, trivial, ⟨by rw [ht]; exact hP, va_K.moved hW.alike hK, hD⟩⟩, hS.F ht⟩) hS.2.2 dX5_setInner_15
  · replace h := iq hc h
    refine lv_aload_n hx hb dX5_setInner_8 rfl (lv_at hl 0 rfl) ?_
    refine va_get (D := (dC, dI)) (ci := 5) (C := RX5) (T := TX5) (N := 17) hx hb hts inlX5 hown hK hP 20 gA_20 rfl 13 (by decide) (hts (.fieldLink RX5 53 "ShapeReader$Shapes" "inners" "[I") mw_15_0) (fun _ h9 => h9) rfl dX5_setInner_9 ?_
    refine lv_iload_n hx hb dX5_setInner_12 rfl (lv_at hl 1 rfl) ?_
    refine lv_iload_n hx hb dX5_setInner_13 rfl (lv_at hl 2 rfl) ?_
    obtain ⟨hg3, h⟩ := ig h
    refine va_iast hx hb hK hP hD hS 32 28 gA_32 yA_32 (vp_in_iff.mpr hg3) dX5_setInner_14 (fun H locs hP hD hS => ?_)
    replace hP := uA_32 hP
    replace hD := hD0 ((stI q1.2 32 p0.toNatClampNeg p1))
    obtain rfl := Option.some.inj h
    exact W.vret hx hb hr (fun t ht hW => ⟨⟨(), rfl, trivial, ⟨by rw [ht]; exact hP, va_K.moved hW.alike hK, hD⟩⟩, hS.F ht⟩) hS.2.2 dX5_setInner_15

theorem s_X5_setInner_20 {l : Launch} {dC : Nat → ClassId} {dI : Nat → Nat → Nat} {a : Nat → Nat} {k : Nat → ClassId} {sz : Nat} {p0 : Int32} {p1 : Int32} {σ : ST} {q : ST} (h : f_X5_setInner 20 p0 p1 σ = some q) : Met l yX5_setInner (.code yX5_setInner cX5_setInner 3 none :: pw) ({ frames := 1, cells := 0, slots := 0, locals := 21 } : Room) (va_Pc [.ref (a 20), .int p0, .int p1] (vPre dC dI (wA a k σ) (tA k) sz)) (qAv dC dI a k (va_A (wA a k σ) sz) q) 0 0 (va_A (wA a k σ) sz) := metA (fun A => qAv dC dI a k A q) (plainFor_of_name (by decide)) (Nat.le_of_ble_eq_true rfl) (fun _ _ _ _ _ _ _ _ hC => b_X5_setInner_e_20 hC h)

def f_X5_addPlan (b : Nat) (p0 : Int32) (σ : ST) : Option (ST) := if p0 < 0 then (some σ) else (if p0 < 6 then (if 0 ≤ p0.toInt ∧ p0.toInt < 6 then ((f_X5_addType b 7 (stI σ (b + 1) p0.toNatClampNeg 0)).bind fun q2 => (f_X5_setInner b ((stI q2.2 (b + 2) p0.toNatClampNeg q2.1).1 (b + 2) p0.toNatClampNeg) (p0 * 6) (stI q2.2 (b + 2) p0.toNatClampNeg q2.1)).bind fun q4 => some (stI q4 b 0 (p0 + 1))) else none) else (some σ))

set_option maxRecDepth 100000 in
set_option maxHeartbeats 4000000 in
theorem b_X5_addPlan_e_20 {p : Program} {l : Launch} {e : Env} {s : State} {m : MethodId} {args : Array Value} {below : List Frame} {meth : Method} {c : Code} {dC : Nat → ClassId} {dI : Nat → Nat → Nat} {a : Nat → Nat} {k : Nat → ClassId} {A : Nat → Prop} {q : ST} (hC : CxA p s m args meth c dC dI k A cX5_addPlan RX5 none 2)   {p0 : Int32} {σ : ST} (h : f_X5_addPlan 20 p0 σ = some q) : GoA p l e ({ frames := 2, cells := 0, slots := 0, locals := 43 } : Room) s m args below meth c (MQ below (qAv dC dI a k A q) args s 0 0 A) dC dI a k A 2 0 σ (lv_args 0 [.ref (a 20), .int p0]) [] := by
  have hC0 := hC
  obtain ⟨hx, hb, hr, hml, hown, hts, hlocks, hA, hN, hK⟩ := hC0
  intro H locs ls hP hD hS hl
  have hD0 : ∀ σ1 : ST, va_D A (wA a k σ1) := fun σ1 => wA_D hD
  replace hl : lv_has ls 2 [(0, .ref (a 20)), (1, .int p0)] := hl
  unfold f_X5_addPlan at h
  refine lv_iload_n hx hb dX5_addPlan_0 rfl (lv_at hl 1 rfl) ?_
  refine lv_if_lt (tgt := 10) hx hb dX5_addPlan_1 (by decide) (fun hc => ?_) (fun hc => ?_)
  · replace h := ip hc h
    obtain rfl := Option.some.inj h
    exact W.vret hx hb hr (fun t ht hW => ⟨⟨(), rfl, trivial, ⟨by rw [ht]; exact hP, va_K.moved hW.alike hK, hD⟩⟩, hS.F ht⟩) hS.2.2 dX5_addPlan_10
  · replace h := iq hc h
    refine lv_iload_n hx hb dX5_addPlan_4 rfl (lv_at hl 1 rfl) ?_
    refine lv_bipush (v := 6) hx hb dX5_addPlan_5 (by decide) ?_
    refine lv_icmp_lt (tgt := 11) hx hb dX5_addPlan_7 (by decide) (fun hc => ?_) (fun hc => ?_)
    · replace h := ip hc h
      refine lv_aload_n hx hb dX5_addPlan_11 rfl (lv_at hl 0 rfl) ?_
      refine va_get (D := (dC, dI)) (ci := 5) (C := RX5) (T := TX5) (N := 17) hx hb hts inlX5 hown hK hP 20 gA_20 rfl 2 (by decide) (hts (.fieldLink RX5 18 "ShapeReader$Shapes" "recordCounts" "[I") mw_14_19) (fun _ h9 => h9) rfl dX5_addPlan_12 ?_
      refine lv_iload_n hx hb dX5_addPlan_15 rfl (lv_at hl 1 rfl) ?_
      refine lv_iconst (v := 0) hx hb dX5_addPlan_16 (by decide) ?_
      obtain ⟨hg1, h⟩ := ig h
      refine va_iast hx hb hK hP hD hS 21 17 gA_21 yA_21 (vp_in_iff.mpr hg1) dX5_addPlan_17 (fun H locs hP hD hS => ?_)
      replace hP := uA_21 hP
      replace hD := hD0 ((stI σ 21 p0.toNatClampNeg 0))
      refine lv_aload_n hx hb dX5_addPlan_18 rfl (lv_at hl 0 rfl) ?_
      refine va_get (D := (dC, dI)) (ci := 5) (C := RX5) (T := TX5) (N := 17) hx hb hts inlX5 hown hK hP 20 gA_20 rfl 3 (by decide) (hts (.fieldLink RX5 22 "ShapeReader$Shapes" "rootTypes" "[I") mw_14_20) (fun _ h9 => h9) rfl dX5_addPlan_19 ?_
      refine lv_iload_n hx hb dX5_addPlan_22 rfl (lv_at hl 1 rfl) ?_
      refine lv_aload_n hx hb dX5_addPlan_23 rfl (lv_at hl 0 rfl) ?_
      refine lv_bipush (v := 7) hx hb dX5_addPlan_24 (by decide) ?_
      obtain ⟨q2, hc, h⟩ := ib h
      have hF := va_frees hD hS hA
      refine va_calli (va_runV (As := [.int 7]) (rest := [.int p0, .ref (a 22)]) ⟨hx, hb, hml, hown, hts⟩ (s_X5_addType_20 hc) (cwV 1 hts (gV mw_15_23 mw_9_13 mw_9_14 mw_0_9 mw_50_16) rfl rfl rfl (by decide +kernel) ⟨(Nat.le_of_ble_eq_true rfl), (Nat.le_of_ble_eq_true rfl)⟩) (vV (ci := 5) (q0 := 20) hK hP hD hN rfl gA_20) rfl rfl hl.1 rfl (lv_room (Nat.le_of_ble_eq_true rfl)) dX5_addPlan_26 ⟨(Nat.le_of_ble_eq_true rfl), (Nat.le_of_ble_eq_true rfl)⟩) hS (fun q _ h => hF q h) hF (fun r3 u t H locs ht hvm hw hB _ _ hS => ?_)
      obtain rfl : r3 = q2.1 := hw
      replace hP : va_P (dC, dI) vwCl (wA a k q2.2) H := by rw [← ht]; exact hB.1
      replace hD := hD0 (q2.2)
      clear hB hF
      refine va_iast hx hb hK hP hD hS 22 18 gA_22 yA_22 (vp_in_iff.mpr hg1) dX5_addPlan_29 (fun H locs hP hD hS => ?_)
      replace hP := uA_22 hP
      replace hD := hD0 ((stI q2.2 22 p0.toNatClampNeg q2.1))
      refine lv_aload_n hx hb dX5_addPlan_30 rfl (lv_at hl 0 rfl) ?_
      refine lv_aload_n hx hb dX5_addPlan_31 rfl (lv_at hl 0 rfl) ?_
      refine va_get (D := (dC, dI)) (ci := 5) (C := RX5) (T := TX5) (N := 17) hx hb hts inlX5 hown hK hP 20 gA_20 rfl 3 (by decide) (hts (.fieldLink RX5 22 "ShapeReader$Shapes" "rootTypes" "[I") mw_14_20) (fun _ h9 => h9) rfl dX5_addPlan_32 ?_
      refine lv_iload_n hx hb dX5_addPlan_35 rfl (lv_at hl 1 rfl) ?_
      refine va_iald hx hb hK hP 22 18 gA_22 yA_22 (vp_in_iff.mpr hg1) dX5_addPlan_36 ?_
      refine lv_iload_n hx hb dX5_addPlan_37 rfl (lv_at hl 1 rfl) ?_
      refine lv_bipush (v := 6) hx hb dX5_addPlan_38 (by decide) ?_
      refine lv_imul hx hb dX5_addPlan_40 ?_
      obtain ⟨q4, hc, h⟩ := ib h
      have hF := va_frees hD hS hA
      refine va_callv (va_runV (As := [.int ((stI q2.2 22 p0.toNatClampNeg q2.1).1 22 p0.toNatClampNeg), .int (p0 * 6)]) (rest := []) ⟨hx, hb, hml, hown, hts⟩ (s_X5_setInner_20 hc) (cwV 2 hts (gV mw_15_24 mw_9_23 mw_9_24 mw_0_9 mw_50_23) rfl rfl rfl (by decide +kernel) ⟨(Nat.le_of_ble_eq_true rfl), (Nat.le_of_ble_eq_true rfl)⟩) (vV (ci := 5) (q0 := 20) hK hP hD hN rfl gA_20) rfl rfl hl.1 rfl (lv_room (Nat.le_of_ble_eq_true rfl)) dX5_addPlan_41 ⟨(Nat.le_of_ble_eq_true rfl), (Nat.le_of_ble_eq_true rfl)⟩) hS (fun q _ h => hF q h) hF (fun u t H locs ht hvm hw hB _ _ hS => ?_)
      replace hP : va_P (dC, dI) vwCl (wA a k q4) H := by rw [← ht]; exact hB.1
      replace hD := hD0 (q4)
      clear hB hF
      refine lv_aload_n hx hb dX5_addPlan_44 rfl (lv_at hl 0 rfl) ?_
      refine lv_iload_n hx hb dX5_addPlan_45 rfl (lv_at hl 1 rfl) ?_
      refine lv_iconst (v := 1) hx hb dX5_addPlan_46 (by decide) ?_
      refine lv_iadd hx hb dX5_addPlan_47 ?_
      refine va_put (D := (dC, dI)) (ci := 5) (ty := .int) (C := RX5) (T := TX5) (N := 17) hx hb hts inlX5 tyX5 tyX5_ok nmX5 hown hK hP hD hS 20 gA_20 rfl 0 (by decide) (hts (.fieldLink RX5 9 "ShapeReader$Shapes" "planCount" "I") mw_14_17) (fun _ h9 => h9) rfl (by decide +kernel) rfl rfl (Nat.le_of_ble_eq_true rfl) dX5_addPlan_48 (fun H locs hP hD hS => ?_)
      replace hP := uA_20_0 hP
      replace hD := hD0 ((stI q4 20 0 (p0 + 1)))
      obtain rfl := Option.some.inj h
      exact W.vret hx hb hr (fun t ht hW => ⟨⟨(), rfl, trivial, ⟨by rw [ht]; exact hP, va_K.moved hW.alike hK, hD⟩⟩, hS.F ht⟩) hS.2.2 dX5_addPlan_51
    · replace h := iq hc h
      obtain rfl := Option.some.inj h
      exact W.vret hx hb hr (fun t ht hW => ⟨⟨(), rfl, trivial, ⟨by rw [ht]; exact hP, va_K.moved hW.alike hK, hD⟩⟩, hS.F ht⟩) hS.2.2 dX5_addPlan_10

theorem s_X5_addPlan_20 {l : Launch} {dC : Nat → ClassId} {dI : Nat → Nat → Nat} {a : Nat → Nat} {k : Nat → ClassId} {sz : Nat} {p0 : Int32} {σ : ST} {q : ST} (h : f_X5_addPlan 20 p0 σ = some q) : Met l yX5_addPlan (.code yX5_addPlan cX5_addPlan 2 none :: pw) ({ frames := 2, cells := 0, slots := 0, locals := 43 } : Room) (va_Pc [.ref (a 20), .int p0] (vPre dC dI (wA a k σ) (tA k) sz)) (qAv dC dI a k (va_A (wA a k σ) sz) q) 0 0 (va_A (wA a k σ) sz) := metA (fun A => qAv dC dI a k A q) (plainFor_of_name (by decide)) (Nat.le_of_ble_eq_true rfl) (fun _ _ _ _ _ _ _ _ hC => b_X5_addPlan_e_20 hC h)

def f_X6_isDigit (p0 : Int32) (σ : ST) : Option (Int32 × ST) := if p0 < 48 then (some (0, σ)) else (if 57 < p0 then (some (0, σ)) else (some (1, σ)))

set_option maxRecDepth 100000 in
set_option maxHeartbeats 4000000 in
theorem b_X6_isDigit_e {p : Program} {l : Launch} {e : Env} {s : State} {m : MethodId} {args : Array Value} {below : List Frame} {meth : Method} {c : Code} {dC : Nat → ClassId} {dI : Nat → Nat → Nat} {a : Nat → Nat} {k : Nat → ClassId} {A : Nat → Prop} {q : Int32 × ST} (hC : CxA p s m args meth c dC dI k A cX6_isDigit RX6 (some .boolean) 1)   {p0 : Int32} {σ : ST} (h : f_X6_isDigit  p0 σ = some q) : GoA p l e ({ frames := 0, cells := 0, slots := 0, locals := 0 } : Room) s m args below meth c (MQ below (qAi dC dI a k A q) args s 0 0 A) dC dI a k A 1 0 σ (lv_args 0 [.int p0]) [] := by
  have hC0 := hC
  obtain ⟨hx, hb, hr, hml, hown, hts, hlocks, hA, hN, hK⟩ := hC0
  intro H locs ls hP hD hS hl
  have hD0 : ∀ σ1 : ST, va_D A (wA a k σ1) := fun σ1 => wA_D hD
  replace hl : lv_has ls 1 [(0, .int p0)] := hl
  unfold f_X6_isDigit at h
  refine lv_iload_n hx hb dX6_isDigit_0 rfl (lv_at hl 0 rfl) ?_
  refine lv_bipush (v := 48) hx hb dX6_isDigit_1 (by decide) ?_
  refine lv_icmp_lt (tgt := 16) hx hb dX6_isDigit_3 (by decide) (fun hc => ?_) (fun hc => ?_)
  · replace h := ip hc h
    refine lv_iconst (v := 0) hx hb dX6_isDigit_16 (by decide) ?_
    obtain rfl := Option.some.inj h
    exact W.zret hx hb hr rfl (fun t ht hW => ⟨⟨_, (), rfl, rfl, ⟨by rw [ht]; exact hP, va_K.moved hW.alike hK, hD⟩⟩, hS.F ht⟩) hS.2.2 dX6_isDigit_17
  · replace h := iq hc h
    refine lv_iload_n hx hb dX6_isDigit_6 rfl (lv_at hl 0 rfl) ?_
    refine lv_bipush (v := 57) hx hb dX6_isDigit_7 (by decide) ?_
    refine lv_icmp_gt (tgt := 16) hx hb dX6_isDigit_9 (by decide) (fun hc => ?_) (fun hc => ?_)
    · replace h := ip hc h
      refine lv_iconst (v := 0) hx hb dX6_isDigit_16 (by decide) ?_
      obtain rfl := Option.some.inj h
      exact W.zret hx hb hr rfl (fun t ht hW => ⟨⟨_, (), rfl, rfl, ⟨by rw [ht]; exact hP, va_K.moved hW.alike hK, hD⟩⟩, hS.F ht⟩) hS.2.2 dX6_isDigit_17
    · replace h := iq hc h
      refine lv_iconst (v := 1) hx hb dX6_isDigit_12 (by decide) ?_
      refine lv_goto (tgt := 17) hx hb dX6_isDigit_13 (by decide) ?_
      obtain rfl := Option.some.inj h
      exact W.zret hx hb hr rfl (fun t ht hW => ⟨⟨_, (), rfl, rfl, ⟨by rw [ht]; exact hP, va_K.moved hW.alike hK, hD⟩⟩, hS.F ht⟩) hS.2.2 dX6_isDigit_17

theorem s_X6_isDigit {l : Launch} {dC : Nat → ClassId} {dI : Nat → Nat → Nat} {a : Nat → Nat} {k : Nat → ClassId} {sz : Nat} {p0 : Int32} {σ : ST} {q : Int32 × ST} (h : f_X6_isDigit  p0 σ = some q) : Met l yX6_isDigit (.code yX6_isDigit cX6_isDigit 1 (some .boolean) :: pw) ({ frames := 0, cells := 0, slots := 0, locals := 0 } : Room) (va_Pc [.int p0] (vPre dC dI (wA a k σ) (tA k) sz)) (qAi dC dI a k (va_A (wA a k σ) sz) q) 0 0 (va_A (wA a k σ) sz) := metA (fun A => qAi dC dI a k A q) (plainFor_of_name (by decide)) (Nat.le_of_ble_eq_true rfl) (fun _ _ _ _ _ _ _ _ hC => b_X6_isDigit_e hC h)

def f_X6_isLetter (p0 : Int32) (σ : ST) : Option (Int32 × ST) := if p0 < 97 then (some (0, σ)) else (if 122 < p0 then (some (0, σ)) else (some (1, σ)))

set_option maxRecDepth 100000 in
set_option maxHeartbeats 4000000 in
theorem b_X6_isLetter_e {p : Program} {l : Launch} {e : Env} {s : State} {m : MethodId} {args : Array Value} {below : List Frame} {meth : Method} {c : Code} {dC : Nat → ClassId} {dI : Nat → Nat → Nat} {a : Nat → Nat} {k : Nat → ClassId} {A : Nat → Prop} {q : Int32 × ST} (hC : CxA p s m args meth c dC dI k A cX6_isLetter RX6 (some .boolean) 1)   {p0 : Int32} {σ : ST} (h : f_X6_isLetter  p0 σ = some q) : GoA p l e ({ frames := 0, cells := 0, slots := 0, locals := 0 } : Room) s m args below meth c (MQ below (qAi dC dI a k A q) args s 0 0 A) dC dI a k A 1 0 σ (lv_args 0 [.int p0]) [] := by
  have hC0 := hC
  obtain ⟨hx, hb, hr, hml, hown, hts, hlocks, hA, hN, hK⟩ := hC0
  intro H locs ls hP hD hS hl
  have hD0 : ∀ σ1 : ST, va_D A (wA a k σ1) := fun σ1 => wA_D hD
  replace hl : lv_has ls 1 [(0, .int p0)] := hl
  unfold f_X6_isLetter at h
  refine lv_iload_n hx hb dX6_isLetter_0 rfl (lv_at hl 0 rfl) ?_
  refine lv_bipush (v := 97) hx hb dX6_isLetter_1 (by decide) ?_
  refine lv_icmp_lt (tgt := 16) hx hb dX6_isLetter_3 (by decide) (fun hc => ?_) (fun hc => ?_)
  · replace h := ip hc h
    refine lv_iconst (v := 0) hx hb dX6_isLetter_16 (by decide) ?_
    obtain rfl := Option.some.inj h
    exact W.zret hx hb hr rfl (fun t ht hW => ⟨⟨_, (), rfl, rfl, ⟨by rw [ht]; exact hP, va_K.moved hW.alike hK, hD⟩⟩, hS.F ht⟩) hS.2.2 dX6_isLetter_17
  · replace h := iq hc h
    refine lv_iload_n hx hb dX6_isLetter_6 rfl (lv_at hl 0 rfl) ?_
    refine lv_bipush (v := 122) hx hb dX6_isLetter_7 (by decide) ?_
    refine lv_icmp_gt (tgt := 16) hx hb dX6_isLetter_9 (by decide) (fun hc => ?_) (fun hc => ?_)
    · replace h := ip hc h
      refine lv_iconst (v := 0) hx hb dX6_isLetter_16 (by decide) ?_
      obtain rfl := Option.some.inj h
      exact W.zret hx hb hr rfl (fun t ht hW => ⟨⟨_, (), rfl, rfl, ⟨by rw [ht]; exact hP, va_K.moved hW.alike hK, hD⟩⟩, hS.F ht⟩) hS.2.2 dX6_isLetter_17
    · replace h := iq hc h
      refine lv_iconst (v := 1) hx hb dX6_isLetter_12 (by decide) ?_
      refine lv_goto (tgt := 17) hx hb dX6_isLetter_13 (by decide) ?_
      obtain rfl := Option.some.inj h
      exact W.zret hx hb hr rfl (fun t ht hW => ⟨⟨_, (), rfl, rfl, ⟨by rw [ht]; exact hP, va_K.moved hW.alike hK, hD⟩⟩, hS.F ht⟩) hS.2.2 dX6_isLetter_17

theorem s_X6_isLetter {l : Launch} {dC : Nat → ClassId} {dI : Nat → Nat → Nat} {a : Nat → Nat} {k : Nat → ClassId} {sz : Nat} {p0 : Int32} {σ : ST} {q : Int32 × ST} (h : f_X6_isLetter  p0 σ = some q) : Met l yX6_isLetter (.code yX6_isLetter cX6_isLetter 1 (some .boolean) :: pw) ({ frames := 0, cells := 0, slots := 0, locals := 0 } : Room) (va_Pc [.int p0] (vPre dC dI (wA a k σ) (tA k) sz)) (qAi dC dI a k (va_A (wA a k σ) sz) q) 0 0 (va_A (wA a k σ) sz) := metA (fun A => qAi dC dI a k A q) (plainFor_of_name (by decide)) (Nat.le_of_ble_eq_true rfl) (fun _ _ _ _ _ _ _ _ hC => b_X6_isLetter_e hC h)

def f_X6_signAt (p0 : Int32) (σ : ST) : Option (Int32 × ST) := if p0 < 0 then (some (0, σ)) else (if (σ.1 2 2) ≤ p0 then (some (0, σ)) else (if 1000 ≤ p0 then (some (0, σ)) else (if 0 ≤ p0.toInt ∧ p0.toInt < 1000 then (some (((σ.1 1 p0.toNatClampNeg) &&& 255), σ)) else none)))

set_option maxRecDepth 100000 in
set_option maxHeartbeats 4000000 in
theorem b_X6_signAt_e {p : Program} {l : Launch} {e : Env} {s : State} {m : MethodId} {args : Array Value} {below : List Frame} {meth : Method} {c : Code} {dC : Nat → ClassId} {dI : Nat → Nat → Nat} {a : Nat → Nat} {k : Nat → ClassId} {A : Nat → Prop} {q : Int32 × ST} (hC : CxA p s m args meth c dC dI k A cX6_signAt RX6 (some .int) 2)   {p0 : Int32} {σ : ST} (h : f_X6_signAt  p0 σ = some q) : GoA p l e ({ frames := 0, cells := 0, slots := 0, locals := 0 } : Room) s m args below meth c (MQ below (qAi dC dI a k A q) args s 0 0 A) dC dI a k A 2 0 σ (lv_args 0 [.ref (a 2), .int p0]) [] := by
  have hC0 := hC
  obtain ⟨hx, hb, hr, hml, hown, hts, hlocks, hA, hN, hK⟩ := hC0
  intro H locs ls hP hD hS hl
  have hD0 : ∀ σ1 : ST, va_D A (wA a k σ1) := fun σ1 => wA_D hD
  replace hl : lv_has ls 2 [(0, .ref (a 2)), (1, .int p0)] := hl
  unfold f_X6_signAt at h
  refine lv_iload_n hx hb dX6_signAt_0 rfl (lv_at hl 1 rfl) ?_
  refine lv_if_lt (tgt := 34) hx hb dX6_signAt_1 (by decide) (fun hc => ?_) (fun hc => ?_)
  · replace h := ip hc h
    refine lv_iconst (v := 0) hx hb dX6_signAt_34 (by decide) ?_
    obtain rfl := Option.some.inj h
    exact W.iret hx hb hr (fun t ht hW => ⟨⟨_, (), rfl, rfl, ⟨by rw [ht]; exact hP, va_K.moved hW.alike hK, hD⟩⟩, hS.F ht⟩) hS.2.2 dX6_signAt_35
  · replace h := iq hc h
    refine lv_iload_n hx hb dX6_signAt_4 rfl (lv_at hl 1 rfl) ?_
    refine lv_aload_n hx hb dX6_signAt_5 rfl (lv_at hl 0 rfl) ?_
    refine va_get (D := (dC, dI)) (ci := 6) (C := RX6) (T := TX6) (N := 14) hx hb hts inlX6 hown hK hP 2 gA_2 rfl 2 (by decide) (hts (.fieldLink RX6 15 "ShapeReader$Tokens" "end" "I") mw_16_8) (fun _ h9 => h9) rfl dX6_signAt_6 ?_
    refine lv_icmp_ge (tgt := 34) hx hb dX6_signAt_9 (by decide) (fun hc => ?_) (fun hc => ?_)
    · replace h := ip hc h
      refine lv_iconst (v := 0) hx hb dX6_signAt_34 (by decide) ?_
      obtain rfl := Option.some.inj h
      exact W.iret hx hb hr (fun t ht hW => ⟨⟨_, (), rfl, rfl, ⟨by rw [ht]; exact hP, va_K.moved hW.alike hK, hD⟩⟩, hS.F ht⟩) hS.2.2 dX6_signAt_35
    · replace h := iq hc h
      refine lv_iload_n hx hb dX6_signAt_12 rfl (lv_at hl 1 rfl) ?_
      refine lv_aload_n hx hb dX6_signAt_13 rfl (lv_at hl 0 rfl) ?_
      refine va_get (D := (dC, dI)) (ci := 6) (C := RX6) (T := TX6) (N := 14) hx hb hts inlX6 hown hK hP 2 gA_2 rfl 0 (by decide) (hts (.fieldLink RX6 54 "ShapeReader$Tokens" "tape" "[B") mw_16_20) (fun _ h9 => h9) rfl dX6_signAt_14 ?_
      refine va_alen hx hb hK hP 1 0 gA_1 yA_1 (v := 1000) rfl dX6_signAt_17 ?_
      refine lv_icmp_ge (tgt := 34) hx hb dX6_signAt_18 (by decide) (fun hc => ?_) (fun hc => ?_)
      · replace h := ip hc h
        refine lv_iconst (v := 0) hx hb dX6_signAt_34 (by decide) ?_
        obtain rfl := Option.some.inj h
        exact W.iret hx hb hr (fun t ht hW => ⟨⟨_, (), rfl, rfl, ⟨by rw [ht]; exact hP, va_K.moved hW.alike hK, hD⟩⟩, hS.F ht⟩) hS.2.2 dX6_signAt_35
      · replace h := iq hc h
        refine lv_aload_n hx hb dX6_signAt_21 rfl (lv_at hl 0 rfl) ?_
        refine va_get (D := (dC, dI)) (ci := 6) (C := RX6) (T := TX6) (N := 14) hx hb hts inlX6 hown hK hP 2 gA_2 rfl 0 (by decide) (hts (.fieldLink RX6 54 "ShapeReader$Tokens" "tape" "[B") mw_16_20) (fun _ h9 => h9) rfl dX6_signAt_22 ?_
        refine lv_iload_n hx hb dX6_signAt_25 rfl (lv_at hl 1 rfl) ?_
        obtain ⟨hg1, h⟩ := ig h
        refine va_bald hx hb hK hP 1 0 gA_1 yA_1 (vp_in_iff.mpr hg1) dX6_signAt_26 ?_
        refine lv_sipush (v := 255) hx hb dX6_signAt_27 (by decide) ?_
        refine lv_iand hx hb dX6_signAt_30 ?_
        refine lv_goto (tgt := 35) hx hb dX6_signAt_31 (by decide) ?_
        obtain rfl := Option.some.inj h
        exact W.iret hx hb hr (fun t ht hW => ⟨⟨_, (), rfl, rfl, ⟨by rw [ht]; exact hP, va_K.moved hW.alike hK, hD⟩⟩, hS.F ht⟩) hS.2.2 dX6_signAt_35

theorem s_X6_signAt {l : Launch} {dC : Nat → ClassId} {dI : Nat → Nat → Nat} {a : Nat → Nat} {k : Nat → ClassId} {sz : Nat} {p0 : Int32} {σ : ST} {q : Int32 × ST} (h : f_X6_signAt  p0 σ = some q) : Met l yX6_signAt (.code yX6_signAt cX6_signAt 2 (some .int) :: pw) ({ frames := 0, cells := 0, slots := 0, locals := 0 } : Room) (va_Pc [.ref (a 2), .int p0] (vPre dC dI (wA a k σ) (tA k) sz)) (qAi dC dI a k (va_A (wA a k σ) sz) q) 0 0 (va_A (wA a k σ) sz) := metA (fun A => qAi dC dI a k A q) (plainFor_of_name (by decide)) (Nat.le_of_ble_eq_true rfl) (fun _ _ _ _ _ _ _ _ hC => b_X6_signAt_e hC h)

def f_X6_takeLetters_95 (k7 : Int32 → Int32 → Int32 → ST → Option (Int32 × ST)) (x1 : Int32) (x2 : Int32) (x3 : Int32) (σ : ST) : Option (Int32 × ST) := k7 x1 x2 (x3 + 1) σ
def f_X6_takeLetters_57 (k7 : Int32 → Int32 → Int32 → ST → Option (Int32 × ST)) (x1 : Int32) (x2 : Int32) (x3 : Int32) (y0 : Int32) (σ : ST) : Option (Int32 × ST) := if y0 < 1 then (some (x3, σ)) else (if y0 ≤ 26 then (if x2 ≤ x3 then (f_X6_takeLetters_95 k7 x1 x2 x3 σ) else (f_X6_takeLetters_95 k7 x1 x2 x3 (stL σ 2 7 ((σ.2.1 2 7) ||| ((y0.toInt64) <<< ((5 * x3).toInt64 &&& 63)))))) else (some (x3, σ)))
def f_X6_takeLetters_56 (k7 : Int32 → Int32 → Int32 → ST → Option (Int32 × ST)) (x1 : Int32) (x2 : Int32) (x3 : Int32) (σ : ST) : Option (Int32 × ST) := f_X6_takeLetters_57 k7 x1 x2 x3 0 σ
def f_X6_takeLetters_7  : Nat → Int32 → Int32 → Int32 → ST → Option (Int32 × ST)
  | 0, _, _, _, _ => none
  | n + 1, x1, x2, x3, σ => if x2 < x3 then (some ((x2 + 1), σ)) else (if (x1 + x3) < 0 then (f_X6_takeLetters_56 (f_X6_takeLetters_7  n) x1 x2 x3 σ) else (if (σ.1 2 2) ≤ (x1 + x3) then (f_X6_takeLetters_56 (f_X6_takeLetters_7  n) x1 x2 x3 σ) else (if 1000 ≤ (x1 + x3) then (f_X6_takeLetters_56 (f_X6_takeLetters_7  n) x1 x2 x3 σ) else (if 0 ≤ (x1 + x3).toInt ∧ (x1 + x3).toInt < 1000 then (f_X6_takeLetters_57 (f_X6_takeLetters_7  n) x1 x2 x3 (((σ.1 1 (x1 + x3).toNatClampNeg) - 97) + 1) σ) else none))))
def f_X6_takeLetters (p0 : Int32) (p1 : Int32) (σ : ST) : Option (Int32 × ST) := f_X6_takeLetters_7  FU p0 p1 0 (stL σ 2 7 0)

set_option maxRecDepth 100000 in
set_option maxHeartbeats 4000000 in
theorem b_X6_takeLetters_95 {p : Program} {l : Launch} {e : Env} {s : State} {m : MethodId} {args : Array Value} {below : List Frame} {meth : Method} {c : Code} {dC : Nat → ClassId} {dI : Nat → Nat → Nat} {a : Nat → Nat} {k : Nat → ClassId} {A : Nat → Prop} {q : Int32 × ST} (hC : CxA p s m args meth c dC dI k A cX6_takeLetters RX6 (some .int) 6)  {k7 : Int32 → Int32 → Int32 → ST → Option (Int32 × ST)} (hk7 : ∀ (x1 : Int32) (x2 : Int32) (x3 : Int32) (σ : ST), k7 x1 x2 x3 σ = some q → GoA p l e ({ frames := 0, cells := 0, slots := 0, locals := 0 } : Room) s m args below meth c (MQ below (qAi dC dI a k A q) args s 0 0 A) dC dI a k A 6 7 σ [(0, .ref (a 2)), (1, .int x1), (2, .int x2), (3, .int x3)] []) {x1 : Int32} {x2 : Int32} {x3 : Int32} {σ : ST} (h : f_X6_takeLetters_95 k7 x1 x2 x3 σ = some q) : GoA p l e ({ frames := 0, cells := 0, slots := 0, locals := 0 } : Room) s m args below meth c (MQ below (qAi dC dI a k A q) args s 0 0 A) dC dI a k A 6 95 σ [(0, .ref (a 2)), (1, .int x1), (2, .int x2), (3, .int x3)] [] := by
  have hC0 := hC
  obtain ⟨hx, hb, hr, hml, hown, hts, hlocks, hA, hN, hK⟩ := hC0
  intro H locs ls hP hD hS hl
  have hD0 : ∀ σ1 : ST, va_D A (wA a k σ1) := fun σ1 => wA_D hD
  unfold f_X6_takeLetters_95 at h
  refine lv_iinc (v := (x3 + 1)) (lv' := [(3, .int (x3 + 1)), (0, .ref (a 2)), (1, .int x1), (2, .int x2)]) hx hb dX6_takeLetters_95 hl (k := 3) rfl rfl (by decide) rfl (fun ls hl => ?_)
  refine lv_goto (tgt := 7) hx hb dX6_takeLetters_98 (by decide) ?_
  exact hk7 _ _ _ _ h _ _ _ hP hD hS (lv_sub hl [1, 2, 3, 0] rfl)

set_option maxRecDepth 100000 in
set_option maxHeartbeats 4000000 in
theorem b_X6_takeLetters_57 {p : Program} {l : Launch} {e : Env} {s : State} {m : MethodId} {args : Array Value} {below : List Frame} {meth : Method} {c : Code} {dC : Nat → ClassId} {dI : Nat → Nat → Nat} {a : Nat → Nat} {k : Nat → ClassId} {A : Nat → Prop} {q : Int32 × ST} (hC : CxA p s m args meth c dC dI k A cX6_takeLetters RX6 (some .int) 6)  {k7 : Int32 → Int32 → Int32 → ST → Option (Int32 × ST)} (hk7 : ∀ (x1 : Int32) (x2 : Int32) (x3 : Int32) (σ : ST), k7 x1 x2 x3 σ = some q → GoA p l e ({ frames := 0, cells := 0, slots := 0, locals := 0 } : Room) s m args below meth c (MQ below (qAi dC dI a k A q) args s 0 0 A) dC dI a k A 6 7 σ [(0, .ref (a 2)), (1, .int x1), (2, .int x2), (3, .int x3)] []) {x1 : Int32} {x2 : Int32} {x3 : Int32} {y0 : Int32} {σ : ST} (h : f_X6_takeLetters_57 k7 x1 x2 x3 y0 σ = some q) : GoA p l e ({ frames := 0, cells := 0, slots := 0, locals := 0 } : Room) s m args below meth c (MQ below (qAi dC dI a k A q) args s 0 0 A) dC dI a k A 6 57 σ [(0, .ref (a 2)), (1, .int x1), (2, .int x2), (3, .int x3)] [.int y0] := by
  have hC0 := hC
  obtain ⟨hx, hb, hr, hml, hown, hts, hlocks, hA, hN, hK⟩ := hC0
  intro H locs ls hP hD hS hl
  have hD0 : ∀ σ1 : ST, va_D A (wA a k σ1) := fun σ1 => wA_D hD
  unfold f_X6_takeLetters_57 at h
  refine lv_istore (lv' := [(5, .int y0), (0, .ref (a 2)), (1, .int x1), (2, .int x2), (3, .int x3)]) hx hb dX6_takeLetters_57 hl (by decide) rfl (fun ls hl => ?_)
  refine lv_iload hx hb dX6_takeLetters_59 (lv_at hl 0 rfl) ?_
  refine lv_iconst (v := 1) hx hb dX6_takeLetters_61 (by decide) ?_
  refine lv_icmp_lt (tgt := 72) hx hb dX6_takeLetters_62 (by decide) (fun hc => ?_) (fun hc => ?_)
  · replace h := ip hc h
    refine lv_iload_n hx hb dX6_takeLetters_72 rfl (lv_at hl 4 rfl) ?_
    obtain rfl := Option.some.inj h
    exact W.iret hx hb hr (fun t ht hW => ⟨⟨_, (), rfl, rfl, ⟨by rw [ht]; exact hP, va_K.moved hW.alike hK, hD⟩⟩, hS.F ht⟩) hS.2.2 dX6_takeLetters_73
  · replace h := iq hc h
    refine lv_iload hx hb dX6_takeLetters_65 (lv_at hl 0 rfl) ?_
    refine lv_bipush (v := 26) hx hb dX6_takeLetters_67 (by decide) ?_
    refine lv_icmp_le (tgt := 74) hx hb dX6_takeLetters_69 (by decide) (fun hc => ?_) (fun hc => ?_)
    · replace h := ip hc h
      refine lv_iload_n hx hb dX6_takeLetters_74 rfl (lv_at hl 4 rfl) ?_
      refine lv_iload_n hx hb dX6_takeLetters_75 rfl (lv_at hl 3 rfl) ?_
      refine lv_icmp_ge (tgt := 95) hx hb dX6_takeLetters_76 (by decide) (fun hc => ?_) (fun hc => ?_)
      · replace h := ip hc h
        exact b_X6_takeLetters_95 hC hk7 h _ _ _ hP hD hS (lv_sub hl [1, 2, 3, 4] rfl)
      · replace h := iq hc h
        refine lv_aload_n hx hb dX6_takeLetters_79 rfl (lv_at hl 1 rfl) ?_
        refine lv_dup hx hb dX6_takeLetters_80 rfl ?_
        refine va_get (D := (dC, dI)) (ci := 6) (C := RX6) (T := TX6) (N := 14) hx hb hts inlX6 hown hK hP 2 gA_2 rfl 7 (by decide) (hts (.fieldLink RX6 31 "ShapeReader$Tokens" "letters" "J") mw_16_13) (fun _ h9 => h9) rfl dX6_takeLetters_81 ?_
        refine lv_iload hx hb dX6_takeLetters_84 (lv_at hl 0 rfl) ?_
        refine lv_i2l (v := y0.toInt64) hx hb dX6_takeLetters_86 rfl ?_
        refine lv_iconst (v := 5) hx hb dX6_takeLetters_87 (by decide) ?_
        refine lv_iload_n hx hb dX6_takeLetters_88 rfl (lv_at hl 4 rfl) ?_
        refine lv_imul hx hb dX6_takeLetters_89 ?_
        refine lv_lshl (v := ((y0.toInt64) <<< ((5 * x3).toInt64 &&& 63))) hx hb dX6_takeLetters_90 rfl ?_
        refine lv_lor hx hb dX6_takeLetters_91 ?_
        refine va_put (D := (dC, dI)) (ci := 6) (ty := .long) (C := RX6) (T := TX6) (N := 14) hx hb hts inlX6 tyX6 tyX6_ok nmX6 hown hK hP hD hS 2 gA_2 rfl 7 (by decide) (hts (.fieldLink RX6 31 "ShapeReader$Tokens" "letters" "J") mw_16_13) (fun _ h9 => h9) rfl (by decide +kernel) rfl rfl (Nat.le_of_ble_eq_true rfl) dX6_takeLetters_92 (fun H locs hP hD hS => ?_)
        replace hP := uA_2_7 hP
        replace hD := hD0 ((stL σ 2 7 ((σ.2.1 2 7) ||| ((y0.toInt64) <<< ((5 * x3).toInt64 &&& 63)))))
        exact b_X6_takeLetters_95 hC hk7 h _ _ _ hP hD hS (lv_sub hl [1, 2, 3, 4] rfl)
    · replace h := iq hc h
      refine lv_iload_n hx hb dX6_takeLetters_72 rfl (lv_at hl 4 rfl) ?_
      obtain rfl := Option.some.inj h
      exact W.iret hx hb hr (fun t ht hW => ⟨⟨_, (), rfl, rfl, ⟨by rw [ht]; exact hP, va_K.moved hW.alike hK, hD⟩⟩, hS.F ht⟩) hS.2.2 dX6_takeLetters_73

set_option maxRecDepth 100000 in
set_option maxHeartbeats 4000000 in
theorem b_X6_takeLetters_56 {p : Program} {l : Launch} {e : Env} {s : State} {m : MethodId} {args : Array Value} {below : List Frame} {meth : Method} {c : Code} {dC : Nat → ClassId} {dI : Nat → Nat → Nat} {a : Nat → Nat} {k : Nat → ClassId} {A : Nat → Prop} {q : Int32 × ST} (hC : CxA p s m args meth c dC dI k A cX6_takeLetters RX6 (some .int) 6)  {k7 : Int32 → Int32 → Int32 → ST → Option (Int32 × ST)} (hk7 : ∀ (x1 : Int32) (x2 : Int32) (x3 : Int32) (σ : ST), k7 x1 x2 x3 σ = some q → GoA p l e ({ frames := 0, cells := 0, slots := 0, locals := 0 } : Room) s m args below meth c (MQ below (qAi dC dI a k A q) args s 0 0 A) dC dI a k A 6 7 σ [(0, .ref (a 2)), (1, .int x1), (2, .int x2), (3, .int x3)] []) {x1 : Int32} {x2 : Int32} {x3 : Int32} {σ : ST} (h : f_X6_takeLetters_56 k7 x1 x2 x3 σ = some q) : GoA p l e ({ frames := 0, cells := 0, slots := 0, locals := 0 } : Room) s m args below meth c (MQ below (qAi dC dI a k A q) args s 0 0 A) dC dI a k A 6 56 σ [(0, .ref (a 2)), (1, .int x1), (2, .int x2), (3, .int x3)] [] := by
  have hC0 := hC
  obtain ⟨hx, hb, hr, hml, hown, hts, hlocks, hA, hN, hK⟩ := hC0
  intro H locs ls hP hD hS hl
  have hD0 : ∀ σ1 : ST, va_D A (wA a k σ1) := fun σ1 => wA_D hD
  unfold f_X6_takeLetters_56 at h
  refine lv_iconst (v := 0) hx hb dX6_takeLetters_56 (by decide) ?_
  exact b_X6_takeLetters_57 hC hk7 h _ _ _ hP hD hS (lv_sub hl [0, 1, 2, 3] rfl)

set_option maxRecDepth 100000 in
set_option maxHeartbeats 4000000 in
theorem b_X6_takeLetters_7 {p : Program} {l : Launch} {e : Env} {s : State} {m : MethodId} {args : Array Value} {below : List Frame} {meth : Method} {c : Code} {dC : Nat → ClassId} {dI : Nat → Nat → Nat} {a : Nat → Nat} {k : Nat → ClassId} {A : Nat → Prop} {q : Int32 × ST} (hC : CxA p s m args meth c dC dI k A cX6_takeLetters RX6 (some .int) 6)   : ∀ (n : Nat) (x1 : Int32) (x2 : Int32) (x3 : Int32) (σ : ST), f_X6_takeLetters_7  n x1 x2 x3 σ = some q → GoA p l e ({ frames := 0, cells := 0, slots := 0, locals := 0 } : Room) s m args below meth c (MQ below (qAi dC dI a k A q) args s 0 0 A) dC dI a k A 6 7 σ [(0, .ref (a 2)), (1, .int x1), (2, .int x2), (3, .int x3)] [] := by
  intro n
  induction n with
  | zero =>
    intro x1 x2 x3 σ h
    rw [f_X6_takeLetters_7] at h
    cases h
  | succ n ih =>
    intro x1 x2 x3 σ h
    have hC0 := hC
    obtain ⟨hx, hb, hr, hml, hown, hts, hlocks, hA, hN, hK⟩ := hC0
    intro H locs ls hP hD hS hl
    have hD0 : ∀ σ1 : ST, va_D A (wA a k σ1) := fun σ1 => wA_D hD
    rw [f_X6_takeLetters_7] at h
    refine lv_iload_n hx hb dX6_takeLetters_7 rfl (lv_at hl 3 rfl) ?_
    refine lv_iload_n hx hb dX6_takeLetters_8 rfl (lv_at hl 2 rfl) ?_
    refine lv_icmp_gt (tgt := 101) hx hb dX6_takeLetters_9 (by decide) (fun hc => ?_) (fun hc => ?_)
    · replace h := ip hc h
      refine lv_iload_n hx hb dX6_takeLetters_101 rfl (lv_at hl 2 rfl) ?_
      refine lv_iconst (v := 1) hx hb dX6_takeLetters_102 (by decide) ?_
      refine lv_iadd hx hb dX6_takeLetters_103 ?_
      obtain rfl := Option.some.inj h
      exact W.iret hx hb hr (fun t ht hW => ⟨⟨_, (), rfl, rfl, ⟨by rw [ht]; exact hP, va_K.moved hW.alike hK, hD⟩⟩, hS.F ht⟩) hS.2.2 dX6_takeLetters_104
    · replace h := iq hc h
      refine lv_iload_n hx hb dX6_takeLetters_12 rfl (lv_at hl 1 rfl) ?_
      refine lv_iload_n hx hb dX6_takeLetters_13 rfl (lv_at hl 3 rfl) ?_
      refine lv_iadd hx hb dX6_takeLetters_14 ?_
      refine lv_istore (lv' := [(4, .int (x1 + x3)), (0, .ref (a 2)), (1, .int x1), (2, .int x2), (3, .int x3)]) hx hb dX6_takeLetters_15 hl (by decide) rfl (fun ls hl => ?_)
      refine lv_iload hx hb dX6_takeLetters_17 (lv_at hl 0 rfl) ?_
      refine lv_if_lt (tgt := 56) hx hb dX6_takeLetters_19 (by decide) (fun hc => ?_) (fun hc => ?_)
      · replace h := ip hc h
        exact b_X6_takeLetters_56 hC ih h _ _ _ hP hD hS (lv_sub hl [1, 2, 3, 4] rfl)
      · replace h := iq hc h
        refine lv_iload hx hb dX6_takeLetters_22 (lv_at hl 0 rfl) ?_
        refine lv_aload_n hx hb dX6_takeLetters_24 rfl (lv_at hl 1 rfl) ?_
        refine va_get (D := (dC, dI)) (ci := 6) (C := RX6) (T := TX6) (N := 14) hx hb hts inlX6 hown hK hP 2 gA_2 rfl 2 (by decide) (hts (.fieldLink RX6 15 "ShapeReader$Tokens" "end" "I") mw_16_8) (fun _ h9 => h9) rfl dX6_takeLetters_25 ?_
        refine lv_icmp_ge (tgt := 56) hx hb dX6_takeLetters_28 (by decide) (fun hc => ?_) (fun hc => ?_)
        · replace h := ip hc h
          exact b_X6_takeLetters_56 hC ih h _ _ _ hP hD hS (lv_sub hl [1, 2, 3, 4] rfl)
        · replace h := iq hc h
          refine lv_iload hx hb dX6_takeLetters_31 (lv_at hl 0 rfl) ?_
          refine lv_aload_n hx hb dX6_takeLetters_33 rfl (lv_at hl 1 rfl) ?_
          refine va_get (D := (dC, dI)) (ci := 6) (C := RX6) (T := TX6) (N := 14) hx hb hts inlX6 hown hK hP 2 gA_2 rfl 0 (by decide) (hts (.fieldLink RX6 54 "ShapeReader$Tokens" "tape" "[B") mw_16_20) (fun _ h9 => h9) rfl dX6_takeLetters_34 ?_
          refine va_alen hx hb hK hP 1 0 gA_1 yA_1 (v := 1000) rfl dX6_takeLetters_37 ?_
          refine lv_icmp_ge (tgt := 56) hx hb dX6_takeLetters_38 (by decide) (fun hc => ?_) (fun hc => ?_)
          · replace h := ip hc h
            exact b_X6_takeLetters_56 hC ih h _ _ _ hP hD hS (lv_sub hl [1, 2, 3, 4] rfl)
          · replace h := iq hc h
            refine lv_aload_n hx hb dX6_takeLetters_41 rfl (lv_at hl 1 rfl) ?_
            refine va_get (D := (dC, dI)) (ci := 6) (C := RX6) (T := TX6) (N := 14) hx hb hts inlX6 hown hK hP 2 gA_2 rfl 0 (by decide) (hts (.fieldLink RX6 54 "ShapeReader$Tokens" "tape" "[B") mw_16_20) (fun _ h9 => h9) rfl dX6_takeLetters_42 ?_
            refine lv_iload hx hb dX6_takeLetters_45 (lv_at hl 0 rfl) ?_
            obtain ⟨hg1, h⟩ := ig h
            refine va_bald hx hb hK hP 1 0 gA_1 yA_1 (vp_in_iff.mpr hg1) dX6_takeLetters_47 ?_
            refine lv_bipush (v := 97) hx hb dX6_takeLetters_48 (by decide) ?_
            refine lv_isub hx hb dX6_takeLetters_50 ?_
            refine lv_iconst (v := 1) hx hb dX6_takeLetters_51 (by decide) ?_
            refine lv_iadd hx hb dX6_takeLetters_52 ?_
            refine lv_goto (tgt := 57) hx hb dX6_takeLetters_53 (by decide) ?_
            exact b_X6_takeLetters_57 hC ih h _ _ _ hP hD hS (lv_sub hl [1, 2, 3, 4] rfl)

set_option maxRecDepth 100000 in
set_option maxHeartbeats 4000000 in
theorem b_X6_takeLetters_e {p : Program} {l : Launch} {e : Env} {s : State} {m : MethodId} {args : Array Value} {below : List Frame} {meth : Method} {c : Code} {dC : Nat → ClassId} {dI : Nat → Nat → Nat} {a : Nat → Nat} {k : Nat → ClassId} {A : Nat → Prop} {q : Int32 × ST} (hC : CxA p s m args meth c dC dI k A cX6_takeLetters RX6 (some .int) 6)   {p0 : Int32} {p1 : Int32} {σ : ST} (h : f_X6_takeLetters  p0 p1 σ = some q) : GoA p l e ({ frames := 0, cells := 0, slots := 0, locals := 0 } : Room) s m args below meth c (MQ below (qAi dC dI a k A q) args s 0 0 A) dC dI a k A 6 0 σ (lv_args 0 [.ref (a 2), .int p0, .int p1]) [] := by
  have hC0 := hC
  obtain ⟨hx, hb, hr, hml, hown, hts, hlocks, hA, hN, hK⟩ := hC0
  intro H locs ls hP hD hS hl
  have hD0 : ∀ σ1 : ST, va_D A (wA a k σ1) := fun σ1 => wA_D hD
  replace hl : lv_has ls 6 [(0, .ref (a 2)), (1, .int p0), (2, .int p1)] := hl
  unfold f_X6_takeLetters at h
  refine lv_aload_n hx hb dX6_takeLetters_0 rfl (lv_at hl 0 rfl) ?_
  refine lv_lconst (v := 0) hx hb dX6_takeLetters_1 (by decide) ?_
  refine va_put (D := (dC, dI)) (ci := 6) (ty := .long) (C := RX6) (T := TX6) (N := 14) hx hb hts inlX6 tyX6 tyX6_ok nmX6 hown hK hP hD hS 2 gA_2 rfl 7 (by decide) (hts (.fieldLink RX6 31 "ShapeReader$Tokens" "letters" "J") mw_16_13) (fun _ h9 => h9) rfl (by decide +kernel) rfl rfl (Nat.le_of_ble_eq_true rfl) dX6_takeLetters_2 (fun H locs hP hD hS => ?_)
  replace hP := uA_2_7 hP
  replace hD := hD0 ((stL σ 2 7 0))
  refine lv_iconst (v := 0) hx hb dX6_takeLetters_5 (by decide) ?_
  refine lv_istore_n (lv' := [(3, .int 0), (0, .ref (a 2)), (1, .int p0), (2, .int p1)]) hx hb dX6_takeLetters_6 rfl hl (by decide) rfl (fun ls hl => ?_)
  exact b_X6_takeLetters_7 hC FU _ _ _ _ h _ _ _ hP hD hS (lv_sub hl [1, 2, 3, 0] rfl)

theorem s_X6_takeLetters {l : Launch} {dC : Nat → ClassId} {dI : Nat → Nat → Nat} {a : Nat → Nat} {k : Nat → ClassId} {sz : Nat} {p0 : Int32} {p1 : Int32} {σ : ST} {q : Int32 × ST} (h : f_X6_takeLetters  p0 p1 σ = some q) : Met l yX6_takeLetters (.code yX6_takeLetters cX6_takeLetters 6 (some .int) :: pw) ({ frames := 0, cells := 0, slots := 0, locals := 0 } : Room) (va_Pc [.ref (a 2), .int p0, .int p1] (vPre dC dI (wA a k σ) (tA k) sz)) (qAi dC dI a k (va_A (wA a k σ) sz) q) 0 0 (va_A (wA a k σ) sz) := metA (fun A => qAi dC dI a k A q) (plainFor_of_name (by decide)) (Nat.le_of_ble_eq_true rfl) (fun _ _ _ _ _ _ _ _ hC => b_X6_takeLetters_e hC h)

def f_X6_scanLettered_38 (σ : ST) : Option (ST) := some (stI σ 2 4 1)
def f_X6_scanLettered (σ : ST) : Option (ST) := (f_X6_takeLetters  ((σ.1 2 5) + 1) 12 σ).bind fun q1 => if 12 < q1.1 then (f_X6_scanLettered_38   q1.2) else ((f_X6_signAt  (((q1.2.1 2 5) + 1) + q1.1) q1.2).bind fun q3 => if q3.1 = 34 then (some (stI (stI q3.2 2 4 5) 2 3 ((((q1.2.1 2 5) + 1) + q1.1) + 1))) else (f_X6_scanLettered_38   q3.2))

set_option maxRecDepth 100000 in
set_option maxHeartbeats 4000000 in
theorem b_X6_scanLettered_38 {p : Program} {l : Launch} {e : Env} {s : State} {m : MethodId} {args : Array Value} {below : List Frame} {meth : Method} {c : Code} {dC : Nat → ClassId} {dI : Nat → Nat → Nat} {a : Nat → Nat} {k : Nat → ClassId} {A : Nat → Prop} {q : ST} (hC : CxA p s m args meth c dC dI k A cX6_scanLettered RX6 none 3)    {σ : ST} (h : f_X6_scanLettered_38   σ = some q) : GoA p l e ({ frames := 1, cells := 0, slots := 0, locals := 25 } : Room) s m args below meth c (MQ below (qAv dC dI a k A q) args s 0 0 A) dC dI a k A 3 38 σ [(0, .ref (a 2))] [] := by
  have hC0 := hC
  obtain ⟨hx, hb, hr, hml, hown, hts, hlocks, hA, hN, hK⟩ := hC0
  intro H locs ls hP hD hS hl
  have hD0 : ∀ σ1 : ST, va_D A (wA a k σ1) := fun σ1 => wA_D hD
  unfold f_X6_scanLettered_38 at h
  refine lv_aload_n hx hb dX6_scanLettered_38 rfl (lv_at hl 0 rfl) ?_
  refine lv_iconst (v := 1) hx hb dX6_scanLettered_39 (by decide) ?_
  refine va_put (D := (dC, dI)) (ci := 6) (ty := .int) (C := RX6) (T := TX6) (N := 14) hx hb hts inlX6 tyX6 tyX6_ok nmX6 hown hK hP hD hS 2 gA_2 rfl 4 (by decide) (hts (.fieldLink RX6 22 "ShapeReader$Tokens" "kind" "I") mw_16_10) (fun _ h9 => h9) rfl (by decide +kernel) rfl rfl (Nat.le_of_ble_eq_true rfl) dX6_scanLettered_40 (fun H locs hP hD hS => ?_)
  replace hP := uA_2_4 hP
  replace hD := hD0 ((stI σ 2 4 1))
  obtain rfl := Option.some.inj h
  exact W.vret hx hb hr (fun t ht hW => ⟨⟨(), rfl, trivial, ⟨by rw [ht]; exact hP, va_K.moved hW.alike hK, hD⟩⟩, hS.F ht⟩) hS.2.2 dX6_scanLettered_43

set_option maxRecDepth 100000 in
set_option maxHeartbeats 4000000 in
theorem b_X6_scanLettered_e {p : Program} {l : Launch} {e : Env} {s : State} {m : MethodId} {args : Array Value} {below : List Frame} {meth : Method} {c : Code} {dC : Nat → ClassId} {dI : Nat → Nat → Nat} {a : Nat → Nat} {k : Nat → ClassId} {A : Nat → Prop} {q : ST} (hC : CxA p s m args meth c dC dI k A cX6_scanLettered RX6 none 3)    {σ : ST} (h : f_X6_scanLettered   σ = some q) : GoA p l e ({ frames := 1, cells := 0, slots := 0, locals := 25 } : Room) s m args below meth c (MQ below (qAv dC dI a k A q) args s 0 0 A) dC dI a k A 3 0 σ (lv_args 0 [.ref (a 2)]) [] := by
  have hC0 := hC
  obtain ⟨hx, hb, hr, hml, hown, hts, hlocks, hA, hN, hK⟩ := hC0
  intro H locs ls hP hD hS hl
  have hD0 : ∀ σ1 : ST, va_D A (wA a k σ1) := fun σ1 => wA_D hD
  replace hl : lv_has ls 3 [(0, .ref (a 2))] := hl
  unfold f_X6_scanLettered at h
  refine lv_aload_n hx hb dX6_scanLettered_0 rfl (lv_at hl 0 rfl) ?_
  refine lv_aload_n hx hb dX6_scanLettered_1 rfl (lv_at hl 0 rfl) ?_
  refine va_get (D := (dC, dI)) (ci := 6) (C := RX6) (T := TX6) (N := 14) hx hb hts inlX6 hown hK hP 2 gA_2 rfl 5 (by decide) (hts (.fieldLink RX6 25 "ShapeReader$Tokens" "start" "I") mw_16_11) (fun _ h9 => h9) rfl dX6_scanLettered_2 ?_
  refine lv_iconst (v := 1) hx hb dX6_scanLettered_5 (by decide) ?_
  refine lv_iadd hx hb dX6_scanLettered_6 ?_
  refine lv_bipush (v := 12) hx hb dX6_scanLettered_7 (by decide) ?_
  obtain ⟨q1, hc, h⟩ := ib h
  have hF := va_frees hD hS hA
  refine va_calli (va_runV (As := [.int ((σ.1 2 5) + 1), .int 12]) (rest := []) ⟨hx, hb, hml, hown, hts⟩ (s_X6_takeLetters hc) (cwV 2 hts (gV mw_17_16 mw_17_17 mw_17_18 mw_0_10 mw_51_11) rfl rfl rfl (by decide +kernel) ⟨(Nat.le_of_ble_eq_true rfl), (Nat.le_of_ble_eq_true rfl)⟩) (vV (ci := 6) (q0 := 2) hK hP hD hN rfl gA_2) rfl rfl hl.1 rfl (lv_room (Nat.le_of_ble_eq_true rfl)) dX6_scanLettered_9 ⟨(Nat.le_of_ble_eq_true rfl), (Nat.le_of_ble_eq_true rfl)⟩) hS (fun q _ h => hF q h) hF (fun r2 u t H locs ht hvm hw hB _ _ hS => ?_)
  obtain rfl : r2 = q1.1 := hw
  replace hP : va_P (dC, dI) vwCl (wA a k q1.2) H := by rw [← ht]; exact hB.1
  replace hD := hD0 (q1.2)
  clear hB hF
  refine lv_istore_n (lv' := [(1, .int q1.1), (0, .ref (a 2))]) hx hb dX6_scanLettered_12 rfl hl (by decide) rfl (fun ls hl => ?_)
  refine lv_aload_n hx hb dX6_scanLettered_13 rfl (lv_at hl 1 rfl) ?_
  refine va_get (D := (dC, dI)) (ci := 6) (C := RX6) (T := TX6) (N := 14) hx hb hts inlX6 hown hK hP 2 gA_2 rfl 5 (by decide) (hts (.fieldLink RX6 25 "ShapeReader$Tokens" "start" "I") mw_16_11) (fun _ h9 => h9) rfl dX6_scanLettered_14 ?_
  refine lv_iconst (v := 1) hx hb dX6_scanLettered_17 (by decide) ?_
  refine lv_iadd hx hb dX6_scanLettered_18 ?_
  refine lv_iload_n hx hb dX6_scanLettered_19 rfl (lv_at hl 0 rfl) ?_
  refine lv_iadd hx hb dX6_scanLettered_20 ?_
  refine lv_istore_n (lv' := [(2, .int (((q1.2.1 2 5) + 1) + q1.1)), (1, .int q1.1), (0, .ref (a 2))]) hx hb dX6_scanLettered_21 rfl hl (by decide) rfl (fun ls hl => ?_)
  refine lv_iload_n hx hb dX6_scanLettered_22 rfl (lv_at hl 1 rfl) ?_
  refine lv_bipush (v := 12) hx hb dX6_scanLettered_23 (by decide) ?_
  refine lv_icmp_gt (tgt := 38) hx hb dX6_scanLettered_25 (by decide) (fun hc => ?_) (fun hc => ?_)
  · replace h := ip hc h
    exact b_X6_scanLettered_38 hC h _ _ _ hP hD hS (lv_sub hl [2] rfl)
  · replace h := iq hc h
    refine lv_aload_n hx hb dX6_scanLettered_28 rfl (lv_at hl 2 rfl) ?_
    refine lv_iload_n hx hb dX6_scanLettered_29 rfl (lv_at hl 0 rfl) ?_
    obtain ⟨q3, hc, h⟩ := ib h
    have hF := va_frees hD hS hA
    refine va_calli (va_runV (As := [.int (((q1.2.1 2 5) + 1) + q1.1)]) (rest := []) ⟨hx, hb, hml, hown, hts⟩ (s_X6_signAt hc) (cwV 1 hts (gV mw_17_0 mw_17_1 mw_17_2 mw_0_10 mw_51_7) rfl rfl rfl (by decide +kernel) ⟨(Nat.le_of_ble_eq_true rfl), (Nat.le_of_ble_eq_true rfl)⟩) (vV (ci := 6) (q0 := 2) hK hP hD hN rfl gA_2) rfl rfl hl.1 rfl (lv_room (Nat.le_of_ble_eq_true rfl)) dX6_scanLettered_30 ⟨(Nat.le_of_ble_eq_true rfl), (Nat.le_of_ble_eq_true rfl)⟩) hS (fun q _ h => hF q h) hF (fun r4 u t H locs ht hvm hw hB _ _ hS => ?_)
    obtain rfl : r4 = q3.1 := hw
    replace hP : va_P (dC, dI) vwCl (wA a k q3.2) H := by rw [← ht]; exact hB.1
    replace hD := hD0 (q3.2)
    clear hB hF
    refine lv_bipush (v := 34) hx hb dX6_scanLettered_33 (by decide) ?_
    refine lv_icmp_eq (tgt := 44) hx hb dX6_scanLettered_35 (by decide) (fun hc => ?_) (fun hc => ?_)
    · replace h := ip hc h
      refine lv_aload_n hx hb dX6_scanLettered_44 rfl (lv_at hl 2 rfl) ?_
      refine lv_iconst (v := 5) hx hb dX6_scanLettered_45 (by decide) ?_
      refine va_put (D := (dC, dI)) (ci := 6) (ty := .int) (C := RX6) (T := TX6) (N := 14) hx hb hts inlX6 tyX6 tyX6_ok nmX6 hown hK hP hD hS 2 gA_2 rfl 4 (by decide) (hts (.fieldLink RX6 22 "ShapeReader$Tokens" "kind" "I") mw_16_10) (fun _ h9 => h9) rfl (by decide +kernel) rfl rfl (Nat.le_of_ble_eq_true rfl) dX6_scanLettered_46 (fun H locs hP hD hS => ?_)
      replace hP := uA_2_4 hP
      replace hD := hD0 ((stI q3.2 2 4 5))
      refine lv_aload_n hx hb dX6_scanLettered_49 rfl (lv_at hl 2 rfl) ?_
      refine lv_iload_n hx hb dX6_scanLettered_50 rfl (lv_at hl 0 rfl) ?_
      refine lv_iconst (v := 1) hx hb dX6_scanLettered_51 (by decide) ?_
      refine lv_iadd hx hb dX6_scanLettered_52 ?_
      refine va_put (D := (dC, dI)) (ci := 6) (ty := .int) (C := RX6) (T := TX6) (N := 14) hx hb hts inlX6 tyX6 tyX6_ok nmX6 hown hK hP hD hS 2 gA_2 rfl 3 (by decide) (hts (.fieldLink RX6 19 "ShapeReader$Tokens" "next" "I") mw_16_9) (fun _ h9 => h9) rfl (by decide +kernel) rfl rfl (Nat.le_of_ble_eq_true rfl) dX6_scanLettered_53 (fun H locs hP hD hS => ?_)
      replace hP := uA_2_3 hP
      replace hD := hD0 ((stI (stI q3.2 2 4 5) 2 3 ((((q1.2.1 2 5) + 1) + q1.1) + 1)))
      obtain rfl := Option.some.inj h
      exact W.vret hx hb hr (fun t ht hW => ⟨⟨(), rfl, trivial, ⟨by rw [ht]; exact hP, va_K.moved hW.alike hK, hD⟩⟩, hS.F ht⟩) hS.2.2 dX6_scanLettered_56
    · replace h := iq hc h
      exact b_X6_scanLettered_38 hC h _ _ _ hP hD hS (lv_sub hl [2] rfl)

theorem s_X6_scanLettered {l : Launch} {dC : Nat → ClassId} {dI : Nat → Nat → Nat} {a : Nat → Nat} {k : Nat → ClassId} {sz : Nat}  {σ : ST} {q : ST} (h : f_X6_scanLettered   σ = some q) : Met l yX6_scanLettered (.code yX6_scanLettered cX6_scanLettered 3 none :: pw) ({ frames := 1, cells := 0, slots := 0, locals := 25 } : Room) (va_Pc [.ref (a 2)] (vPre dC dI (wA a k σ) (tA k) sz)) (qAv dC dI a k (va_A (wA a k σ) sz) q) 0 0 (va_A (wA a k σ) sz) := metA (fun A => qAv dC dI a k A q) (plainFor_of_name (by decide)) (Nat.le_of_ble_eq_true rfl) (fun _ _ _ _ _ _ _ _ hC => b_X6_scanLettered_e hC h)

def f_X6_scanNumber_110 (k65 : Int32 → Int32 → ST → Option (ST)) (x1 : Int32) (x2 : Int32) (σ : ST) : Option (ST) := k65 (x1 + 1) (x2 + 1) σ
def f_X6_scanNumber_189 (x1 : Int32) (σ : ST) : Option (ST) := some (stI (stI σ 2 4 4) 2 3 x1)
def f_X6_scanNumber_119 (x1 : Int32) (x2 : Int32) (σ : ST) : Option (ST) := if x2 = 0 then (some σ) else (if x2 ≤ 18 then ((f_X6_signAt  x1 σ).bind fun q1 => if q1.1 = 46 then ((f_X6_signAt  (x1 + 1) q1.2).bind fun q3 => (f_X6_isDigit  q3.1 q3.2).bind fun q5 => if q5.1 = 0 then (some q5.2) else ((f_X6_signAt  (x1 + 2) q5.2).bind fun q7 => (f_X6_isDigit  q7.1 q7.2).bind fun q9 => if q9.1 = 0 then ((f_X6_signAt  (x1 + 1) (stI q9.2 2 10 1)).bind fun q11 => f_X6_scanNumber_189  (x1 + 2) (stI q11.2 2 11 (q11.1 - 48))) else (some q9.2))) else (f_X6_scanNumber_189  x1 q1.2)) else (some σ))
def f_X6_scanNumber_65  : Nat → Int32 → Int32 → ST → Option (ST)
  | 0, _, _, _ => none
  | n + 1, x1, x2, σ => if 18 < x2 then (f_X6_scanNumber_119  x1 x2 σ) else ((f_X6_signAt  x1 σ).bind fun q1 => (f_X6_isDigit  q1.1 q1.2).bind fun q3 => if q3.1 = 0 then (f_X6_scanNumber_119  x1 x2 q3.2) else (if 18 ≤ x2 then (f_X6_scanNumber_110 (f_X6_scanNumber_65  n) x1 x2 q3.2) else ((f_X6_signAt  x1 q3.2).bind fun q5 => f_X6_scanNumber_110 (f_X6_scanNumber_65  n) x1 x2 (stL q5.2 2 8 (((q3.2.2.1 2 8) * 10) + ((q5.1 - 48).toInt64))))))
def f_X6_scanNumber_62 (y0 : Int32) (σ : ST) : Option (ST) := f_X6_scanNumber_65  FU y0 0 σ
def f_X6_scanNumber_19 (y0 : Int32) (σ : ST) : Option (ST) := if y0 = 0 ∨ y0 = 1 then (if ((stI (stL (stI (stI (stI σ 2 9 y0) 2 10 0) 2 11 0) 2 8 0) 2 4 1).1 2 9) = 0 then (f_X6_scanNumber_62  ((stI (stL (stI (stI (stI σ 2 9 y0) 2 10 0) 2 11 0) 2 8 0) 2 4 1).1 2 5) (stI (stL (stI (stI (stI σ 2 9 y0) 2 10 0) 2 11 0) 2 8 0) 2 4 1)) else (f_X6_scanNumber_62  (((stI (stL (stI (stI (stI σ 2 9 y0) 2 10 0) 2 11 0) 2 8 0) 2 4 1).1 2 5) + 1) (stI (stL (stI (stI (stI σ 2 9 y0) 2 10 0) 2 11 0) 2 8 0) 2 4 1))) else none
def f_X6_scanNumber (σ : ST) : Option (ST) := (f_X6_signAt  (σ.1 2 5) σ).bind fun q1 => if q1.1 = 45 then (f_X6_scanNumber_19  1 q1.2) else (f_X6_scanNumber_19  0 q1.2)

set_option maxRecDepth 100000 in
set_option maxHeartbeats 4000000 in
theorem b_X6_scanNumber_110 {p : Program} {l : Launch} {e : Env} {s : State} {m : MethodId} {args : Array Value} {below : List Frame} {meth : Method} {c : Code} {dC : Nat → ClassId} {dI : Nat → Nat → Nat} {a : Nat → Nat} {k : Nat → ClassId} {A : Nat → Prop} {q : ST} (hC : CxA p s m args meth c dC dI k A cX6_scanNumber RX6 none 3)  {k65 : Int32 → Int32 → ST → Option (ST)} (hk65 : ∀ (x1 : Int32) (x2 : Int32) (σ : ST), k65 x1 x2 σ = some q → GoA p l e ({ frames := 1, cells := 0, slots := 0, locals := 21 } : Room) s m args below meth c (MQ below (qAv dC dI a k A q) args s 0 0 A) dC dI a k A 3 65 σ [(0, .ref (a 2)), (1, .int x1), (2, .int x2)] []) {x1 : Int32} {x2 : Int32} {σ : ST} (h : f_X6_scanNumber_110 k65 x1 x2 σ = some q) : GoA p l e ({ frames := 1, cells := 0, slots := 0, locals := 21 } : Room) s m args below meth c (MQ below (qAv dC dI a k A q) args s 0 0 A) dC dI a k A 3 110 σ [(0, .ref (a 2)), (1, .int x1), (2, .int x2)] [] := by
  have hC0 := hC
  obtain ⟨hx, hb, hr, hml, hown, hts, hlocks, hA, hN, hK⟩ := hC0
  intro H locs ls hP hD hS hl
  have hD0 : ∀ σ1 : ST, va_D A (wA a k σ1) := fun σ1 => wA_D hD
  unfold f_X6_scanNumber_110 at h
  refine lv_iinc (v := (x2 + 1)) (lv' := [(2, .int (x2 + 1)), (0, .ref (a 2)), (1, .int x1)]) hx hb dX6_scanNumber_110 hl (k := 2) rfl rfl (by decide) rfl (fun ls hl => ?_)
  refine lv_iinc (v := (x1 + 1)) (lv' := [(1, .int (x1 + 1)), (2, .int (x2 + 1)), (0, .ref (a 2))]) hx hb dX6_scanNumber_113 hl (k := 2) rfl rfl (by decide) rfl (fun ls hl => ?_)
  refine lv_goto (tgt := 65) hx hb dX6_scanNumber_116 (by decide) ?_
  exact hk65 _ _ _ h _ _ _ hP hD hS (lv_sub hl [2, 0, 1] rfl)

set_option maxRecDepth 100000 in
set_option maxHeartbeats 4000000 in
theorem b_X6_scanNumber_189 {p : Program} {l : Launch} {e : Env} {s : State} {m : MethodId} {args : Array Value} {below : List Frame} {meth : Method} {c : Code} {dC : Nat → ClassId} {dI : Nat → Nat → Nat} {a : Nat → Nat} {k : Nat → ClassId} {A : Nat → Prop} {q : ST} (hC : CxA p s m args meth c dC dI k A cX6_scanNumber RX6 none 3)   {x1 : Int32} {σ : ST} (h : f_X6_scanNumber_189  x1 σ = some q) : GoA p l e ({ frames := 1, cells := 0, slots := 0, locals := 21 } : Room) s m args below meth c (MQ below (qAv dC dI a k A q) args s 0 0 A) dC dI a k A 3 189 σ [(0, .ref (a 2)), (1, .int x1)] [] := by
  have hC0 := hC
  obtain ⟨hx, hb, hr, hml, hown, hts, hlocks, hA, hN, hK⟩ := hC0
  intro H locs ls hP hD hS hl
  have hD0 : ∀ σ1 : ST, va_D A (wA a k σ1) := fun σ1 => wA_D hD
  unfold f_X6_scanNumber_189 at h
  refine lv_aload_n hx hb dX6_scanNumber_189 rfl (lv_at hl 0 rfl) ?_
  refine lv_iconst (v := 4) hx hb dX6_scanNumber_190 (by decide) ?_
  refine va_put (D := (dC, dI)) (ci := 6) (ty := .int) (C := RX6) (T := TX6) (N := 14) hx hb hts inlX6 tyX6 tyX6_ok nmX6 hown hK hP hD hS 2 gA_2 rfl 4 (by decide) (hts (.fieldLink RX6 22 "ShapeReader$Tokens" "kind" "I") mw_16_10) (fun _ h9 => h9) rfl (by decide +kernel) rfl rfl (Nat.le_of_ble_eq_true rfl) dX6_scanNumber_191 (fun H locs hP hD hS => ?_)
  replace hP := uA_2_4 hP
  replace hD := hD0 ((stI σ 2 4 4))
  refine lv_aload_n hx hb dX6_scanNumber_194 rfl (lv_at hl 0 rfl) ?_
  refine lv_iload_n hx hb dX6_scanNumber_195 rfl (lv_at hl 1 rfl) ?_
  refine va_put (D := (dC, dI)) (ci := 6) (ty := .int) (C := RX6) (T := TX6) (N := 14) hx hb hts inlX6 tyX6 tyX6_ok nmX6 hown hK hP hD hS 2 gA_2 rfl 3 (by decide) (hts (.fieldLink RX6 19 "ShapeReader$Tokens" "next" "I") mw_16_9) (fun _ h9 => h9) rfl (by decide +kernel) rfl rfl (Nat.le_of_ble_eq_true rfl) dX6_scanNumber_196 (fun H locs hP hD hS => ?_)
  replace hP := uA_2_3 hP
  replace hD := hD0 ((stI (stI σ 2 4 4) 2 3 x1))
  obtain rfl := Option.some.inj h
  exact W.vret hx hb hr (fun t ht hW => ⟨⟨(), rfl, trivial, ⟨by rw [ht]; exact hP, va_K.moved hW.alike hK, hD⟩⟩, hS.F ht⟩) hS.2.2 dX6_scanNumber_199

set_option maxRecDepth 100000 in
set_option maxHeartbeats 4000000 in
theorem b_X6_scanNumber_119 {p : Program} {l : Launch} {e : Env} {s : State} {m : MethodId} {args : Array Value} {below : List Frame} {meth : Method} {c : Code} {dC : Nat → ClassId} {dI : Nat → Nat → Nat} {a : Nat → Nat} {k : Nat → ClassId} {A : Nat → Prop} {q : ST} (hC : CxA p s m args meth c dC dI k A cX6_scanNumber RX6 none 3)   {x1 : Int32} {x2 : Int32} {σ : ST} (h : f_X6_scanNumber_119  x1 x2 σ = some q) : GoA p l e ({ frames := 1, cells := 0, slots := 0, locals := 21 } : Room) s m args below meth c (MQ below (qAv dC dI a k A q) args s 0 0 A) dC dI a k A 3 119 σ [(0, .ref (a 2)), (1, .int x1), (2, .int x2)] [] := by
  have hC0 := hC
  obtain ⟨hx, hb, hr, hml, hown, hts, hlocks, hA, hN, hK⟩ := hC0
  intro H locs ls hP hD hS hl
  have hD0 : ∀ σ1 : ST, va_D A (wA a k σ1) := fun σ1 => wA_D hD
  unfold f_X6_scanNumber_119 at h
  refine lv_iload_n hx hb dX6_scanNumber_119 rfl (lv_at hl 2 rfl) ?_
  refine lv_if_eq (tgt := 129) hx hb dX6_scanNumber_120 (by decide) (fun hc => ?_) (fun hc => ?_)
  · replace h := ip hc h
    obtain rfl := Option.some.inj h
    exact W.vret hx hb hr (fun t ht hW => ⟨⟨(), rfl, trivial, ⟨by rw [ht]; exact hP, va_K.moved hW.alike hK, hD⟩⟩, hS.F ht⟩) hS.2.2 dX6_scanNumber_129
  · replace h := iq hc h
    refine lv_iload_n hx hb dX6_scanNumber_123 rfl (lv_at hl 2 rfl) ?_
    refine lv_bipush (v := 18) hx hb dX6_scanNumber_124 (by decide) ?_
    refine lv_icmp_le (tgt := 130) hx hb dX6_scanNumber_126 (by decide) (fun hc => ?_) (fun hc => ?_)
    · replace h := ip hc h
      refine lv_aload_n hx hb dX6_scanNumber_130 rfl (lv_at hl 0 rfl) ?_
      refine lv_iload_n hx hb dX6_scanNumber_131 rfl (lv_at hl 1 rfl) ?_
      obtain ⟨q1, hc, h⟩ := ib h
      have hF := va_frees hD hS hA
      refine va_calli (va_runV (As := [.int x1]) (rest := []) ⟨hx, hb, hml, hown, hts⟩ (s_X6_signAt hc) (cwV 1 hts (gV mw_17_0 mw_17_1 mw_17_2 mw_0_10 mw_51_7) rfl rfl rfl (by decide +kernel) ⟨(Nat.le_of_ble_eq_true rfl), (Nat.le_of_ble_eq_true rfl)⟩) (vV (ci := 6) (q0 := 2) hK hP hD hN rfl gA_2) rfl rfl hl.1 rfl (lv_room (Nat.le_of_ble_eq_true rfl)) dX6_scanNumber_132 ⟨(Nat.le_of_ble_eq_true rfl), (Nat.le_of_ble_eq_true rfl)⟩) hS (fun q _ h => hF q h) hF (fun r2 u t H locs ht hvm hw hB _ _ hS => ?_)
      obtain rfl : r2 = q1.1 := hw
      replace hP : va_P (dC, dI) vwCl (wA a k q1.2) H := by rw [← ht]; exact hB.1
      replace hD := hD0 (q1.2)
      clear hB hF
      refine lv_bipush (v := 46) hx hb dX6_scanNumber_135 (by decide) ?_
      refine lv_icmp_ne (tgt := 189) hx hb dX6_scanNumber_137 (by decide) (fun hc => ?_) (fun hc => ?_)
      · replace h := iq hc h
        exact b_X6_scanNumber_189 hC h _ _ _ hP hD hS (lv_sub hl [0, 1] rfl)
      · replace h := ip hc h
        refine lv_aload_n hx hb dX6_scanNumber_140 rfl (lv_at hl 0 rfl) ?_
        refine lv_iload_n hx hb dX6_scanNumber_141 rfl (lv_at hl 1 rfl) ?_
        refine lv_iconst (v := 1) hx hb dX6_scanNumber_142 (by decide) ?_
        refine lv_iadd hx hb dX6_scanNumber_143 ?_
        obtain ⟨q3, hc, h⟩ := ib h
        have hF := va_frees hD hS hA
        refine va_calli (va_runV (As := [.int (x1 + 1)]) (rest := []) ⟨hx, hb, hml, hown, hts⟩ (s_X6_signAt hc) (cwV 1 hts (gV mw_17_0 mw_17_1 mw_17_2 mw_0_10 mw_51_7) rfl rfl rfl (by decide +kernel) ⟨(Nat.le_of_ble_eq_true rfl), (Nat.le_of_ble_eq_true rfl)⟩) (vV (ci := 6) (q0 := 2) hK hP hD hN rfl gA_2) rfl rfl hl.1 rfl (lv_room (Nat.le_of_ble_eq_true rfl)) dX6_scanNumber_144 ⟨(Nat.le_of_ble_eq_true rfl), (Nat.le_of_ble_eq_true rfl)⟩) hS (fun q _ h => hF q h) hF (fun r4 u t H locs ht hvm hw hB _ _ hS => ?_)
        obtain rfl : r4 = q3.1 := hw
        replace hP : va_P (dC, dI) vwCl (wA a k q3.2) H := by rw [← ht]; exact hB.1
        replace hD := hD0 (q3.2)
        clear hB hF
        obtain ⟨q5, hc, h⟩ := ib h
        have hF := va_frees hD hS hA
        refine va_calli (va_runS (As := [.int q3.1]) (rest := []) ⟨hx, hb, hml, hown, hts⟩ (s_X6_isDigit hc) (va_cwS 1 hts (gS mw_17_8 mw_17_9 mw_0_10 mw_51_10) rfl rfl rfl (by decide +kernel) ⟨(Nat.le_of_ble_eq_true rfl), (Nat.le_of_ble_eq_true rfl)⟩) (vS hK hP hD hN) rfl rfl hl.1 rfl (lv_room (Nat.le_of_ble_eq_true rfl)) dX6_scanNumber_147 ⟨(Nat.le_of_ble_eq_true rfl), (Nat.le_of_ble_eq_true rfl)⟩) hS (fun q _ h => hF q h) hF (fun r6 u t H locs ht hvm hw hB _ _ hS => ?_)
        obtain rfl : r6 = q5.1 := hw
        replace hP : va_P (dC, dI) vwCl (wA a k q5.2) H := by rw [← ht]; exact hB.1
        replace hD := hD0 (q5.2)
        clear hB hF
        refine lv_if_eq (tgt := 166) hx hb dX6_scanNumber_150 (by decide) (fun hc => ?_) (fun hc => ?_)
        · replace h := ip hc h
          obtain rfl := Option.some.inj h
          exact W.vret hx hb hr (fun t ht hW => ⟨⟨(), rfl, trivial, ⟨by rw [ht]; exact hP, va_K.moved hW.alike hK, hD⟩⟩, hS.F ht⟩) hS.2.2 dX6_scanNumber_166
        · replace h := iq hc h
          refine lv_aload_n hx hb dX6_scanNumber_153 rfl (lv_at hl 0 rfl) ?_
          refine lv_iload_n hx hb dX6_scanNumber_154 rfl (lv_at hl 1 rfl) ?_
          refine lv_iconst (v := 2) hx hb dX6_scanNumber_155 (by decide) ?_
          refine lv_iadd hx hb dX6_scanNumber_156 ?_
          obtain ⟨q7, hc, h⟩ := ib h
          have hF := va_frees hD hS hA
          refine va_calli (va_runV (As := [.int (x1 + 2)]) (rest := []) ⟨hx, hb, hml, hown, hts⟩ (s_X6_signAt hc) (cwV 1 hts (gV mw_17_0 mw_17_1 mw_17_2 mw_0_10 mw_51_7) rfl rfl rfl (by decide +kernel) ⟨(Nat.le_of_ble_eq_true rfl), (Nat.le_of_ble_eq_true rfl)⟩) (vV (ci := 6) (q0 := 2) hK hP hD hN rfl gA_2) rfl rfl hl.1 rfl (lv_room (Nat.le_of_ble_eq_true rfl)) dX6_scanNumber_157 ⟨(Nat.le_of_ble_eq_true rfl), (Nat.le_of_ble_eq_true rfl)⟩) hS (fun q _ h => hF q h) hF (fun r8 u t H locs ht hvm hw hB _ _ hS => ?_)
          obtain rfl : r8 = q7.1 := hw
          replace hP : va_P (dC, dI) vwCl (wA a k q7.2) H := by rw [← ht]; exact hB.1
          replace hD := hD0 (q7.2)
          clear hB hF
          obtain ⟨q9, hc, h⟩ := ib h
          have hF := va_frees hD hS hA
          refine va_calli (va_runS (As := [.int q7.1]) (rest := []) ⟨hx, hb, hml, hown, hts⟩ (s_X6_isDigit hc) (va_cwS 1 hts (gS mw_17_8 mw_17_9 mw_0_10 mw_51_10) rfl rfl rfl (by decide +kernel) ⟨(Nat.le_of_ble_eq_true rfl), (Nat.le_of_ble_eq_true rfl)⟩) (vS hK hP hD hN) rfl rfl hl.1 rfl (lv_room (Nat.le_of_ble_eq_true rfl)) dX6_scanNumber_160 ⟨(Nat.le_of_ble_eq_true rfl), (Nat.le_of_ble_eq_true rfl)⟩) hS (fun q _ h => hF q h) hF (fun r10 u t H locs ht hvm hw hB _ _ hS => ?_)
          obtain rfl : r10 = q9.1 := hw
          replace hP : va_P (dC, dI) vwCl (wA a k q9.2) H := by rw [← ht]; exact hB.1
          replace hD := hD0 (q9.2)
          clear hB hF
          refine lv_if_eq (tgt := 167) hx hb dX6_scanNumber_163 (by decide) (fun hc => ?_) (fun hc => ?_)
          · replace h := ip hc h
            refine lv_aload_n hx hb dX6_scanNumber_167 rfl (lv_at hl 0 rfl) ?_
            refine lv_iconst (v := 1) hx hb dX6_scanNumber_168 (by decide) ?_
            refine va_put (D := (dC, dI)) (ci := 6) (ty := .boolean) (C := RX6) (T := TX6) (N := 14) hx hb hts inlX6 tyX6 tyX6_ok nmX6 hown hK hP hD hS 2 gA_2 rfl 10 (by decide) (hts (.fieldLink RX6 42 "ShapeReader$Tokens" "dotted" "Z") mw_16_16) (fun _ h9 => h9) rfl (by decide +kernel) rfl rfl (Nat.le_of_ble_eq_true rfl) dX6_scanNumber_169 (fun H locs hP hD hS => ?_)
            replace hP := uA_2_10 hP
            replace hD := hD0 ((stI q9.2 2 10 1))
            refine lv_aload_n hx hb dX6_scanNumber_172 rfl (lv_at hl 0 rfl) ?_
            refine lv_aload_n hx hb dX6_scanNumber_173 rfl (lv_at hl 0 rfl) ?_
            refine lv_iload_n hx hb dX6_scanNumber_174 rfl (lv_at hl 1 rfl) ?_
            refine lv_iconst (v := 1) hx hb dX6_scanNumber_175 (by decide) ?_
            refine lv_iadd hx hb dX6_scanNumber_176 ?_
            obtain ⟨q11, hc, h⟩ := ib h
            have hF := va_frees hD hS hA
            refine va_calli (va_runV (As := [.int (x1 + 1)]) (rest := [.ref (a 2)]) ⟨hx, hb, hml, hown, hts⟩ (s_X6_signAt hc) (cwV 1 hts (gV mw_17_0 mw_17_1 mw_17_2 mw_0_10 mw_51_7) rfl rfl rfl (by decide +kernel) ⟨(Nat.le_of_ble_eq_true rfl), (Nat.le_of_ble_eq_true rfl)⟩) (vV (ci := 6) (q0 := 2) hK hP hD hN rfl gA_2) rfl rfl hl.1 rfl (lv_room (Nat.le_of_ble_eq_true rfl)) dX6_scanNumber_177 ⟨(Nat.le_of_ble_eq_true rfl), (Nat.le_of_ble_eq_true rfl)⟩) hS (fun q _ h => hF q h) hF (fun r12 u t H locs ht hvm hw hB _ _ hS => ?_)
            obtain rfl : r12 = q11.1 := hw
            replace hP : va_P (dC, dI) vwCl (wA a k q11.2) H := by rw [← ht]; exact hB.1
            replace hD := hD0 (q11.2)
            clear hB hF
            refine lv_bipush (v := 48) hx hb dX6_scanNumber_180 (by decide) ?_
            refine lv_isub hx hb dX6_scanNumber_182 ?_
            refine va_put (D := (dC, dI)) (ci := 6) (ty := .int) (C := RX6) (T := TX6) (N := 14) hx hb hts inlX6 tyX6 tyX6_ok nmX6 hown hK hP hD hS 2 gA_2 rfl 11 (by decide) (hts (.fieldLink RX6 45 "ShapeReader$Tokens" "tenths" "I") mw_16_17) (fun _ h9 => h9) rfl (by decide +kernel) rfl rfl (Nat.le_of_ble_eq_true rfl) dX6_scanNumber_183 (fun H locs hP hD hS => ?_)
            replace hP := uA_2_11 hP
            replace hD := hD0 ((stI q11.2 2 11 (q11.1 - 48)))
            refine lv_iinc (v := (x1 + 2)) (lv' := [(1, .int (x1 + 2)), (0, .ref (a 2)), (2, .int x2)]) hx hb dX6_scanNumber_186 hl (k := 1) rfl rfl (by decide) rfl (fun ls hl => ?_)
            exact b_X6_scanNumber_189 hC h _ _ _ hP hD hS (lv_sub hl [1, 0] rfl)
          · replace h := iq hc h
            obtain rfl := Option.some.inj h
            exact W.vret hx hb hr (fun t ht hW => ⟨⟨(), rfl, trivial, ⟨by rw [ht]; exact hP, va_K.moved hW.alike hK, hD⟩⟩, hS.F ht⟩) hS.2.2 dX6_scanNumber_166
    · replace h := iq hc h
      obtain rfl := Option.some.inj h
      exact W.vret hx hb hr (fun t ht hW => ⟨⟨(), rfl, trivial, ⟨by rw [ht]; exact hP, va_K.moved hW.alike hK, hD⟩⟩, hS.F ht⟩) hS.2.2 dX6_scanNumber_129

set_option maxRecDepth 100000 in
set_option maxHeartbeats 4000000 in
theorem b_X6_scanNumber_65 {p : Program} {l : Launch} {e : Env} {s : State} {m : MethodId} {args : Array Value} {below : List Frame} {meth : Method} {c : Code} {dC : Nat → ClassId} {dI : Nat → Nat → Nat} {a : Nat → Nat} {k : Nat → ClassId} {A : Nat → Prop} {q : ST} (hC : CxA p s m args meth c dC dI k A cX6_scanNumber RX6 none 3)   : ∀ (n : Nat) (x1 : Int32) (x2 : Int32) (σ : ST), f_X6_scanNumber_65  n x1 x2 σ = some q → GoA p l e ({ frames := 1, cells := 0, slots := 0, locals := 21 } : Room) s m args below meth c (MQ below (qAv dC dI a k A q) args s 0 0 A) dC dI a k A 3 65 σ [(0, .ref (a 2)), (1, .int x1), (2, .int x2)] [] := by
  intro n
  induction n with
  | zero =>
    intro x1 x2 σ h
    rw [f_X6_scanNumber_65] at h
    cases h
  | succ n ih =>
    intro x1 x2 σ h
    have hC0 := hC
    obtain ⟨hx, hb, hr, hml, hown, hts, hlocks, hA, hN, hK⟩ := hC0
    intro H locs ls hP hD hS hl
    have hD0 : ∀ σ1 : ST, va_D A (wA a k σ1) := fun σ1 => wA_D hD
    rw [f_X6_scanNumber_65] at h
    refine lv_iload_n hx hb dX6_scanNumber_65 rfl (lv_at hl 2 rfl) ?_
    refine lv_bipush (v := 18) hx hb dX6_scanNumber_66 (by decide) ?_
    refine lv_icmp_gt (tgt := 119) hx hb dX6_scanNumber_68 (by decide) (fun hc => ?_) (fun hc => ?_)
    · replace h := ip hc h
      exact b_X6_scanNumber_119 hC h _ _ _ hP hD hS (lv_sub hl [0, 1, 2] rfl)
    · replace h := iq hc h
      refine lv_aload_n hx hb dX6_scanNumber_71 rfl (lv_at hl 0 rfl) ?_
      refine lv_iload_n hx hb dX6_scanNumber_72 rfl (lv_at hl 1 rfl) ?_
      obtain ⟨q1, hc, h⟩ := ib h
      have hF := va_frees hD hS hA
      refine va_calli (va_runV (As := [.int x1]) (rest := []) ⟨hx, hb, hml, hown, hts⟩ (s_X6_signAt hc) (cwV 1 hts (gV mw_17_0 mw_17_1 mw_17_2 mw_0_10 mw_51_7) rfl rfl rfl (by decide +kernel) ⟨(Nat.le_of_ble_eq_true rfl), (Nat.le_of_ble_eq_true rfl)⟩) (vV (ci := 6) (q0 := 2) hK hP hD hN rfl gA_2) rfl rfl hl.1 rfl (lv_room (Nat.le_of_ble_eq_true rfl)) dX6_scanNumber_73 ⟨(Nat.le_of_ble_eq_true rfl), (Nat.le_of_ble_eq_true rfl)⟩) hS (fun q _ h => hF q h) hF (fun r2 u t H locs ht hvm hw hB _ _ hS => ?_)
      obtain rfl : r2 = q1.1 := hw
      replace hP : va_P (dC, dI) vwCl (wA a k q1.2) H := by rw [← ht]; exact hB.1
      replace hD := hD0 (q1.2)
      clear hB hF
      obtain ⟨q3, hc, h⟩ := ib h
      have hF := va_frees hD hS hA
      refine va_calli (va_runS (As := [.int q1.1]) (rest := []) ⟨hx, hb, hml, hown, hts⟩ (s_X6_isDigit hc) (va_cwS 1 hts (gS mw_17_8 mw_17_9 mw_0_10 mw_51_10) rfl rfl rfl (by decide +kernel) ⟨(Nat.le_of_ble_eq_true rfl), (Nat.le_of_ble_eq_true rfl)⟩) (vS hK hP hD hN) rfl rfl hl.1 rfl (lv_room (Nat.le_of_ble_eq_true rfl)) dX6_scanNumber_76 ⟨(Nat.le_of_ble_eq_true rfl), (Nat.le_of_ble_eq_true rfl)⟩) hS (fun q _ h => hF q h) hF (fun r4 u t H locs ht hvm hw hB _ _ hS => ?_)
      obtain rfl : r4 = q3.1 := hw
      replace hP : va_P (dC, dI) vwCl (wA a k q3.2) H := by rw [← ht]; exact hB.1
      replace hD := hD0 (q3.2)
      clear hB hF
      refine lv_if_eq (tgt := 119) hx hb dX6_scanNumber_79 (by decide) (fun hc => ?_) (fun hc => ?_)
      · replace h := ip hc h
        exact b_X6_scanNumber_119 hC h _ _ _ hP hD hS (lv_sub hl [0, 1, 2] rfl)
      · replace h := iq hc h
        refine lv_iload_n hx hb dX6_scanNumber_82 rfl (lv_at hl 2 rfl) ?_
        refine lv_bipush (v := 18) hx hb dX6_scanNumber_83 (by decide) ?_
        refine lv_icmp_ge (tgt := 110) hx hb dX6_scanNumber_85 (by decide) (fun hc => ?_) (fun hc => ?_)
        · replace h := ip hc h
          exact b_X6_scanNumber_110 hC ih h _ _ _ hP hD hS (lv_sub hl [0, 1, 2] rfl)
        · replace h := iq hc h
          refine lv_aload_n hx hb dX6_scanNumber_88 rfl (lv_at hl 0 rfl) ?_
          refine lv_aload_n hx hb dX6_scanNumber_89 rfl (lv_at hl 0 rfl) ?_
          refine va_get (D := (dC, dI)) (ci := 6) (C := RX6) (T := TX6) (N := 14) hx hb hts inlX6 hown hK hP 2 gA_2 rfl 8 (by decide) (hts (.fieldLink RX6 35 "ShapeReader$Tokens" "digits" "J") mw_16_14) (fun _ h9 => h9) rfl dX6_scanNumber_90 ?_
          refine lv_ldc2 (v := 10) hx hb hown (hts (.constantLong RX6 101 (10)) mw_17_19) dX6_scanNumber_93 ?_
          refine lv_lmul hx hb dX6_scanNumber_96 ?_
          refine lv_aload_n hx hb dX6_scanNumber_97 rfl (lv_at hl 0 rfl) ?_
          refine lv_iload_n hx hb dX6_scanNumber_98 rfl (lv_at hl 1 rfl) ?_
          obtain ⟨q5, hc, h⟩ := ib h
          have hF := va_frees hD hS hA
          refine va_calli (va_runV (As := [.int x1]) (rest := [.long ((q3.2.2.1 2 8) * 10), .ref (a 2)]) ⟨hx, hb, hml, hown, hts⟩ (s_X6_signAt hc) (cwV 1 hts (gV mw_17_0 mw_17_1 mw_17_2 mw_0_10 mw_51_7) rfl rfl rfl (by decide +kernel) ⟨(Nat.le_of_ble_eq_true rfl), (Nat.le_of_ble_eq_true rfl)⟩) (vV (ci := 6) (q0 := 2) hK hP hD hN rfl gA_2) rfl rfl hl.1 rfl (lv_room (Nat.le_of_ble_eq_true rfl)) dX6_scanNumber_99 ⟨(Nat.le_of_ble_eq_true rfl), (Nat.le_of_ble_eq_true rfl)⟩) hS (fun q _ h => hF q h) hF (fun r6 u t H locs ht hvm hw hB _ _ hS => ?_)
          obtain rfl : r6 = q5.1 := hw
          replace hP : va_P (dC, dI) vwCl (wA a k q5.2) H := by rw [← ht]; exact hB.1
          replace hD := hD0 (q5.2)
          clear hB hF
          refine lv_bipush (v := 48) hx hb dX6_scanNumber_102 (by decide) ?_
          refine lv_isub hx hb dX6_scanNumber_104 ?_
          refine lv_i2l (v := (q5.1 - 48).toInt64) hx hb dX6_scanNumber_105 rfl ?_
          refine lv_ladd hx hb dX6_scanNumber_106 ?_
          refine va_put (D := (dC, dI)) (ci := 6) (ty := .long) (C := RX6) (T := TX6) (N := 14) hx hb hts inlX6 tyX6 tyX6_ok nmX6 hown hK hP hD hS 2 gA_2 rfl 8 (by decide) (hts (.fieldLink RX6 35 "ShapeReader$Tokens" "digits" "J") mw_16_14) (fun _ h9 => h9) rfl (by decide +kernel) rfl rfl (Nat.le_of_ble_eq_true rfl) dX6_scanNumber_107 (fun H locs hP hD hS => ?_)
          replace hP := uA_2_8 hP
          replace hD := hD0 ((stL q5.2 2 8 (((q3.2.2.1 2 8) * 10) + ((q5.1 - 48).toInt64))))
          exact b_X6_scanNumber_110 hC ih h _ _ _ hP hD hS (lv_sub hl [0, 1, 2] rfl)

set_option maxRecDepth 100000 in
set_option maxHeartbeats 4000000 in
theorem b_X6_scanNumber_62 {p : Program} {l : Launch} {e : Env} {s : State} {m : MethodId} {args : Array Value} {below : List Frame} {meth : Method} {c : Code} {dC : Nat → ClassId} {dI : Nat → Nat → Nat} {a : Nat → Nat} {k : Nat → ClassId} {A : Nat → Prop} {q : ST} (hC : CxA p s m args meth c dC dI k A cX6_scanNumber RX6 none 3)   {y0 : Int32} {σ : ST} (h : f_X6_scanNumber_62  y0 σ = some q) : GoA p l e ({ frames := 1, cells := 0, slots := 0, locals := 21 } : Room) s m args below meth c (MQ below (qAv dC dI a k A q) args s 0 0 A) dC dI a k A 3 62 σ [(0, .ref (a 2))] [.int y0] := by
  have hC0 := hC
  obtain ⟨hx, hb, hr, hml, hown, hts, hlocks, hA, hN, hK⟩ := hC0
  intro H locs ls hP hD hS hl
  have hD0 : ∀ σ1 : ST, va_D A (wA a k σ1) := fun σ1 => wA_D hD
  unfold f_X6_scanNumber_62 at h
  refine lv_istore_n (lv' := [(1, .int y0), (0, .ref (a 2))]) hx hb dX6_scanNumber_62 rfl hl (by decide) rfl (fun ls hl => ?_)
  refine lv_iconst (v := 0) hx hb dX6_scanNumber_63 (by decide) ?_
  refine lv_istore_n (lv' := [(2, .int 0), (1, .int y0), (0, .ref (a 2))]) hx hb dX6_scanNumber_64 rfl hl (by decide) rfl (fun ls hl => ?_)
  exact b_X6_scanNumber_65 hC FU _ _ _ h _ _ _ hP hD hS (lv_sub hl [2, 1, 0] rfl)

set_option maxRecDepth 100000 in
set_option maxHeartbeats 4000000 in
theorem b_X6_scanNumber_19 {p : Program} {l : Launch} {e : Env} {s : State} {m : MethodId} {args : Array Value} {below : List Frame} {meth : Method} {c : Code} {dC : Nat → ClassId} {dI : Nat → Nat → Nat} {a : Nat → Nat} {k : Nat → ClassId} {A : Nat → Prop} {q : ST} (hC : CxA p s m args meth c dC dI k A cX6_scanNumber RX6 none 3)   {y0 : Int32} {σ : ST} (h : f_X6_scanNumber_19  y0 σ = some q) : GoA p l e ({ frames := 1, cells := 0, slots := 0, locals := 21 } : Room) s m args below meth c (MQ below (qAv dC dI a k A q) args s 0 0 A) dC dI a k A 3 19 σ [(0, .ref (a 2))] [.int y0, .ref (a 2)] := by
  have hC0 := hC
  obtain ⟨hx, hb, hr, hml, hown, hts, hlocks, hA, hN, hK⟩ := hC0
  intro H locs ls hP hD hS hl
  have hD0 : ∀ σ1 : ST, va_D A (wA a k σ1) := fun σ1 => wA_D hD
  unfold f_X6_scanNumber_19 at h
  obtain ⟨hg1, h⟩ := ig h
  refine va_put (D := (dC, dI)) (ci := 6) (ty := .boolean) (C := RX6) (T := TX6) (N := 14) hx hb hts inlX6 tyX6 tyX6_ok nmX6 hown hK hP hD hS 2 gA_2 rfl 9 (by decide) (hts (.fieldLink RX6 38 "ShapeReader$Tokens" "minus" "Z") mw_16_15) (fun _ h9 => h9) rfl (by decide +kernel) (zn hg1) (zf hg1) (Nat.le_of_ble_eq_true rfl) dX6_scanNumber_19 (fun H locs hP hD hS => ?_)
  replace hP := uA_2_9 hP
  replace hD := hD0 ((stI σ 2 9 y0))
  refine lv_aload_n hx hb dX6_scanNumber_22 rfl (lv_at hl 0 rfl) ?_
  refine lv_iconst (v := 0) hx hb dX6_scanNumber_23 (by decide) ?_
  refine va_put (D := (dC, dI)) (ci := 6) (ty := .boolean) (C := RX6) (T := TX6) (N := 14) hx hb hts inlX6 tyX6 tyX6_ok nmX6 hown hK hP hD hS 2 gA_2 rfl 10 (by decide) (hts (.fieldLink RX6 42 "ShapeReader$Tokens" "dotted" "Z") mw_16_16) (fun _ h9 => h9) rfl (by decide +kernel) rfl rfl (Nat.le_of_ble_eq_true rfl) dX6_scanNumber_24 (fun H locs hP hD hS => ?_)
  replace hP := uA_2_10 hP
  replace hD := hD0 ((stI (stI σ 2 9 y0) 2 10 0))
  refine lv_aload_n hx hb dX6_scanNumber_27 rfl (lv_at hl 0 rfl) ?_
  refine lv_iconst (v := 0) hx hb dX6_scanNumber_28 (by decide) ?_
  refine va_put (D := (dC, dI)) (ci := 6) (ty := .int) (C := RX6) (T := TX6) (N := 14) hx hb hts inlX6 tyX6 tyX6_ok nmX6 hown hK hP hD hS 2 gA_2 rfl 11 (by decide) (hts (.fieldLink RX6 45 "ShapeReader$Tokens" "tenths" "I") mw_16_17) (fun _ h9 => h9) rfl (by decide +kernel) rfl rfl (Nat.le_of_ble_eq_true rfl) dX6_scanNumber_29 (fun H locs hP hD hS => ?_)
  replace hP := uA_2_11 hP
  replace hD := hD0 ((stI (stI (stI σ 2 9 y0) 2 10 0) 2 11 0))
  refine lv_aload_n hx hb dX6_scanNumber_32 rfl (lv_at hl 0 rfl) ?_
  refine lv_lconst (v := 0) hx hb dX6_scanNumber_33 (by decide) ?_
  refine va_put (D := (dC, dI)) (ci := 6) (ty := .long) (C := RX6) (T := TX6) (N := 14) hx hb hts inlX6 tyX6 tyX6_ok nmX6 hown hK hP hD hS 2 gA_2 rfl 8 (by decide) (hts (.fieldLink RX6 35 "ShapeReader$Tokens" "digits" "J") mw_16_14) (fun _ h9 => h9) rfl (by decide +kernel) rfl rfl (Nat.le_of_ble_eq_true rfl) dX6_scanNumber_34 (fun H locs hP hD hS => ?_)
  replace hP := uA_2_8 hP
  replace hD := hD0 ((stL (stI (stI (stI σ 2 9 y0) 2 10 0) 2 11 0) 2 8 0))
  refine lv_aload_n hx hb dX6_scanNumber_37 rfl (lv_at hl 0 rfl) ?_
  refine lv_iconst (v := 1) hx hb dX6_scanNumber_38 (by decide) ?_
  refine va_put (D := (dC, dI)) (ci := 6) (ty := .int) (C := RX6) (T := TX6) (N := 14) hx hb hts inlX6 tyX6 tyX6_ok nmX6 hown hK hP hD hS 2 gA_2 rfl 4 (by decide) (hts (.fieldLink RX6 22 "ShapeReader$Tokens" "kind" "I") mw_16_10) (fun _ h9 => h9) rfl (by decide +kernel) rfl rfl (Nat.le_of_ble_eq_true rfl) dX6_scanNumber_39 (fun H locs hP hD hS => ?_)
  replace hP := uA_2_4 hP
  replace hD := hD0 ((stI (stL (stI (stI (stI σ 2 9 y0) 2 10 0) 2 11 0) 2 8 0) 2 4 1))
  refine lv_aload_n hx hb dX6_scanNumber_42 rfl (lv_at hl 0 rfl) ?_
  refine va_get (D := (dC, dI)) (ci := 6) (C := RX6) (T := TX6) (N := 14) hx hb hts inlX6 hown hK hP 2 gA_2 rfl 9 (by decide) (hts (.fieldLink RX6 38 "ShapeReader$Tokens" "minus" "Z") mw_16_15) (fun _ h9 => h9) rfl dX6_scanNumber_43 ?_
  refine lv_if_eq (tgt := 58) hx hb dX6_scanNumber_46 (by decide) (fun hc => ?_) (fun hc => ?_)
  · replace h := ip hc h
    refine lv_aload_n hx hb dX6_scanNumber_58 rfl (lv_at hl 0 rfl) ?_
    refine va_get (D := (dC, dI)) (ci := 6) (C := RX6) (T := TX6) (N := 14) hx hb hts inlX6 hown hK hP 2 gA_2 rfl 5 (by decide) (hts (.fieldLink RX6 25 "ShapeReader$Tokens" "start" "I") mw_16_11) (fun _ h9 => h9) rfl dX6_scanNumber_59 ?_
    exact b_X6_scanNumber_62 hC h _ _ _ hP hD hS (lv_sub hl [0] rfl)
  · replace h := iq hc h
    refine lv_aload_n hx hb dX6_scanNumber_49 rfl (lv_at hl 0 rfl) ?_
    refine va_get (D := (dC, dI)) (ci := 6) (C := RX6) (T := TX6) (N := 14) hx hb hts inlX6 hown hK hP 2 gA_2 rfl 5 (by decide) (hts (.fieldLink RX6 25 "ShapeReader$Tokens" "start" "I") mw_16_11) (fun _ h9 => h9) rfl dX6_scanNumber_50 ?_
    refine lv_iconst (v := 1) hx hb dX6_scanNumber_53 (by decide) ?_
    refine lv_iadd hx hb dX6_scanNumber_54 ?_
    refine lv_goto (tgt := 62) hx hb dX6_scanNumber_55 (by decide) ?_
    exact b_X6_scanNumber_62 hC h _ _ _ hP hD hS (lv_sub hl [0] rfl)

set_option maxRecDepth 100000 in
set_option maxHeartbeats 4000000 in
theorem b_X6_scanNumber_e {p : Program} {l : Launch} {e : Env} {s : State} {m : MethodId} {args : Array Value} {below : List Frame} {meth : Method} {c : Code} {dC : Nat → ClassId} {dI : Nat → Nat → Nat} {a : Nat → Nat} {k : Nat → ClassId} {A : Nat → Prop} {q : ST} (hC : CxA p s m args meth c dC dI k A cX6_scanNumber RX6 none 3)    {σ : ST} (h : f_X6_scanNumber   σ = some q) : GoA p l e ({ frames := 1, cells := 0, slots := 0, locals := 21 } : Room) s m args below meth c (MQ below (qAv dC dI a k A q) args s 0 0 A) dC dI a k A 3 0 σ (lv_args 0 [.ref (a 2)]) [] := by
  have hC0 := hC
  obtain ⟨hx, hb, hr, hml, hown, hts, hlocks, hA, hN, hK⟩ := hC0
  intro H locs ls hP hD hS hl
  have hD0 : ∀ σ1 : ST, va_D A (wA a k σ1) := fun σ1 => wA_D hD
  replace hl : lv_has ls 3 [(0, .ref (a 2))] := hl
  unfold f_X6_scanNumber at h
  refine lv_aload_n hx hb dX6_scanNumber_0 rfl (lv_at hl 0 rfl) ?_
  refine lv_aload_n hx hb dX6_scanNumber_1 rfl (lv_at hl 0 rfl) ?_
  refine lv_aload_n hx hb dX6_scanNumber_2 rfl (lv_at hl 0 rfl) ?_
  refine va_get (D := (dC, dI)) (ci := 6) (C := RX6) (T := TX6) (N := 14) hx hb hts inlX6 hown hK hP 2 gA_2 rfl 5 (by decide) (hts (.fieldLink RX6 25 "ShapeReader$Tokens" "start" "I") mw_16_11) (fun _ h9 => h9) rfl dX6_scanNumber_3 ?_
  obtain ⟨q1, hc, h⟩ := ib h
  have hF := va_frees hD hS hA
  refine va_calli (va_runV (As := [.int (σ.1 2 5)]) (rest := [.ref (a 2)]) ⟨hx, hb, hml, hown, hts⟩ (s_X6_signAt hc) (cwV 1 hts (gV mw_17_0 mw_17_1 mw_17_2 mw_0_10 mw_51_7) rfl rfl rfl (by decide +kernel) ⟨(Nat.le_of_ble_eq_true rfl), (Nat.le_of_ble_eq_true rfl)⟩) (vV (ci := 6) (q0 := 2) hK hP hD hN rfl gA_2) rfl rfl hl.1 rfl (lv_room (Nat.le_of_ble_eq_true rfl)) dX6_scanNumber_6 ⟨(Nat.le_of_ble_eq_true rfl), (Nat.le_of_ble_eq_true rfl)⟩) hS (fun q _ h => hF q h) hF (fun r2 u t H locs ht hvm hw hB _ _ hS => ?_)
  obtain rfl : r2 = q1.1 := hw
  replace hP : va_P (dC, dI) vwCl (wA a k q1.2) H := by rw [← ht]; exact hB.1
  replace hD := hD0 (q1.2)
  clear hB hF
  refine lv_bipush (v := 45) hx hb dX6_scanNumber_9 (by decide) ?_
  refine lv_icmp_ne (tgt := 18) hx hb dX6_scanNumber_11 (by decide) (fun hc => ?_) (fun hc => ?_)
  · replace h := iq hc h
    refine lv_iconst (v := 0) hx hb dX6_scanNumber_18 (by decide) ?_
    exact b_X6_scanNumber_19 hC h _ _ _ hP hD hS (lv_sub hl [0] rfl)
  · replace h := ip hc h
    refine lv_iconst (v := 1) hx hb dX6_scanNumber_14 (by decide) ?_
    refine lv_goto (tgt := 19) hx hb dX6_scanNumber_15 (by decide) ?_
    exact b_X6_scanNumber_19 hC h _ _ _ hP hD hS (lv_sub hl [0] rfl)

theorem s_X6_scanNumber {l : Launch} {dC : Nat → ClassId} {dI : Nat → Nat → Nat} {a : Nat → Nat} {k : Nat → ClassId} {sz : Nat}  {σ : ST} {q : ST} (h : f_X6_scanNumber   σ = some q) : Met l yX6_scanNumber (.code yX6_scanNumber cX6_scanNumber 3 none :: pw) ({ frames := 1, cells := 0, slots := 0, locals := 21 } : Room) (va_Pc [.ref (a 2)] (vPre dC dI (wA a k σ) (tA k) sz)) (qAv dC dI a k (va_A (wA a k σ) sz) q) 0 0 (va_A (wA a k σ) sz) := metA (fun A => qAv dC dI a k A q) (plainFor_of_name (by decide)) (Nat.le_of_ble_eq_true rfl) (fun _ _ _ _ _ _ _ _ hC => b_X6_scanNumber_e hC h)

def f_X6_scanWord_75 (k45 : Int32 → ST → Option (ST)) (x2 : Int32) (σ : ST) : Option (ST) := k45 (x2 + 1) σ
def f_X6_scanWord_45  : Nat → Int32 → ST → Option (ST)
  | 0, _, _ => none
  | n + 1, x2, σ => if 15 ≤ x2 then (some σ) else (if 0 ≤ x2.toInt ∧ x2.toInt < 15 then (if (lg_cmp (σ.2.1 3 x2.toNatClampNeg) (σ.2.1 2 7)) = 0 then (f_X6_scanWord_75 (f_X6_scanWord_45  n) x2 (stI (stI σ 2 4 2) 2 6 x2)) else (f_X6_scanWord_75 (f_X6_scanWord_45  n) x2 σ)) else none)
def f_X6_scanWord (σ : ST) : Option (ST) := (f_X6_takeLetters  (σ.1 2 5) 8 σ).bind fun q1 => if q1.1 ≤ 8 then (f_X6_scanWord_45  FU 0 (stI (stI (stI q1.2 2 3 ((q1.2.1 2 5) + q1.1)) 2 4 3) 2 6 (-1))) else (some (stI q1.2 2 4 1))

set_option maxRecDepth 100000 in
set_option maxHeartbeats 4000000 in
theorem b_X6_scanWord_75 {p : Program} {l : Launch} {e : Env} {s : State} {m : MethodId} {args : Array Value} {below : List Frame} {meth : Method} {c : Code} {dC : Nat → ClassId} {dI : Nat → Nat → Nat} {a : Nat → Nat} {k : Nat → ClassId} {A : Nat → Prop} {q : ST} (hC : CxA p s m args meth c dC dI k A cX6_scanWord RX6 none 3)  {k45 : Int32 → ST → Option (ST)} (hk45 : ∀ (x2 : Int32) (σ : ST), k45 x2 σ = some q → GoA p l e ({ frames := 1, cells := 0, slots := 0, locals := 25 } : Room) s m args below meth c (MQ below (qAv dC dI a k A q) args s 0 0 A) dC dI a k A 3 45 σ [(0, .ref (a 2)), (2, .int x2)] []) {x2 : Int32} {σ : ST} (h : f_X6_scanWord_75 k45 x2 σ = some q) : GoA p l e ({ frames := 1, cells := 0, slots := 0, locals := 25 } : Room) s m args below meth c (MQ below (qAv dC dI a k A q) args s 0 0 A) dC dI a k A 3 75 σ [(0, .ref (a 2)), (2, .int x2)] [] := by
  have hC0 := hC
  obtain ⟨hx, hb, hr, hml, hown, hts, hlocks, hA, hN, hK⟩ := hC0
  intro H locs ls hP hD hS hl
  have hD0 : ∀ σ1 : ST, va_D A (wA a k σ1) := fun σ1 => wA_D hD
  unfold f_X6_scanWord_75 at h
  refine lv_iinc (v := (x2 + 1)) (lv' := [(2, .int (x2 + 1)), (0, .ref (a 2))]) hx hb dX6_scanWord_75 hl (k := 1) rfl rfl (by decide) rfl (fun ls hl => ?_)
  refine lv_goto (tgt := 45) hx hb dX6_scanWord_78 (by decide) ?_
  exact hk45 _ _ h _ _ _ hP hD hS (lv_sub hl [1, 0] rfl)

set_option maxRecDepth 100000 in
set_option maxHeartbeats 4000000 in
theorem b_X6_scanWord_45 {p : Program} {l : Launch} {e : Env} {s : State} {m : MethodId} {args : Array Value} {below : List Frame} {meth : Method} {c : Code} {dC : Nat → ClassId} {dI : Nat → Nat → Nat} {a : Nat → Nat} {k : Nat → ClassId} {A : Nat → Prop} {q : ST} (hC : CxA p s m args meth c dC dI k A cX6_scanWord RX6 none 3)   : ∀ (n : Nat) (x2 : Int32) (σ : ST), f_X6_scanWord_45  n x2 σ = some q → GoA p l e ({ frames := 1, cells := 0, slots := 0, locals := 25 } : Room) s m args below meth c (MQ below (qAv dC dI a k A q) args s 0 0 A) dC dI a k A 3 45 σ [(0, .ref (a 2)), (2, .int x2)] [] := by
  intro n
  induction n with
  | zero =>
    intro x2 σ h
    rw [f_X6_scanWord_45] at h
    cases h
  | succ n ih =>
    intro x2 σ h
    have hC0 := hC
    obtain ⟨hx, hb, hr, hml, hown, hts, hlocks, hA, hN, hK⟩ := hC0
    intro H locs ls hP hD hS hl
    have hD0 : ∀ σ1 : ST, va_D A (wA a k σ1) := fun σ1 => wA_D hD
    rw [f_X6_scanWord_45] at h
    refine lv_iload_n hx hb dX6_scanWord_45 rfl (lv_at hl 1 rfl) ?_
    refine lv_bipush (v := 15) hx hb dX6_scanWord_46 (by decide) ?_
    refine lv_icmp_ge (tgt := 81) hx hb dX6_scanWord_48 (by decide) (fun hc => ?_) (fun hc => ?_)
    · replace h := ip hc h
      obtain rfl := Option.some.inj h
      exact W.vret hx hb hr (fun t ht hW => ⟨⟨(), rfl, trivial, ⟨by rw [ht]; exact hP, va_K.moved hW.alike hK, hD⟩⟩, hS.F ht⟩) hS.2.2 dX6_scanWord_81
    · replace h := iq hc h
      refine lv_aload_n hx hb dX6_scanWord_51 rfl (lv_at hl 0 rfl) ?_
      refine va_get (D := (dC, dI)) (ci := 6) (C := RX6) (T := TX6) (N := 14) hx hb hts inlX6 hown hK hP 2 gA_2 rfl 1 (by decide) (hts (.fieldLink RX6 11 "ShapeReader$Tokens" "keywords" "[J") mw_16_7) (fun _ h9 => h9) rfl dX6_scanWord_52 ?_
      refine lv_iload_n hx hb dX6_scanWord_55 rfl (lv_at hl 1 rfl) ?_
      obtain ⟨hg1, h⟩ := ig h
      refine va_lald hx hb hK hP 3 1 gA_3 yA_3 (vp_in_iff.mpr hg1) dX6_scanWord_56 ?_
      refine lv_aload_n hx hb dX6_scanWord_57 rfl (lv_at hl 0 rfl) ?_
      refine va_get (D := (dC, dI)) (ci := 6) (C := RX6) (T := TX6) (N := 14) hx hb hts inlX6 hown hK hP 2 gA_2 rfl 7 (by decide) (hts (.fieldLink RX6 31 "ShapeReader$Tokens" "letters" "J") mw_16_13) (fun _ h9 => h9) rfl dX6_scanWord_58 ?_
      refine W.lcmp hx hb dX6_scanWord_61 ?_
      refine lv_if_ne (tgt := 75) hx hb dX6_scanWord_62 (by decide) (fun hc => ?_) (fun hc => ?_)
      · replace h := iq hc h
        exact b_X6_scanWord_75 hC ih h _ _ _ hP hD hS (lv_sub hl [0, 1] rfl)
      · replace h := ip hc h
        refine lv_aload_n hx hb dX6_scanWord_65 rfl (lv_at hl 0 rfl) ?_
        refine lv_iconst (v := 2) hx hb dX6_scanWord_66 (by decide) ?_
        refine va_put (D := (dC, dI)) (ci := 6) (ty := .int) (C := RX6) (T := TX6) (N := 14) hx hb hts inlX6 tyX6 tyX6_ok nmX6 hown hK hP hD hS 2 gA_2 rfl 4 (by decide) (hts (.fieldLink RX6 22 "ShapeReader$Tokens" "kind" "I") mw_16_10) (fun _ h9 => h9) rfl (by decide +kernel) rfl rfl (Nat.le_of_ble_eq_true rfl) dX6_scanWord_67 (fun H locs hP hD hS => ?_)
        replace hP := uA_2_4 hP
        replace hD := hD0 ((stI σ 2 4 2))
        refine lv_aload_n hx hb dX6_scanWord_70 rfl (lv_at hl 0 rfl) ?_
        refine lv_iload_n hx hb dX6_scanWord_71 rfl (lv_at hl 1 rfl) ?_
        refine va_put (D := (dC, dI)) (ci := 6) (ty := .int) (C := RX6) (T := TX6) (N := 14) hx hb hts inlX6 tyX6 tyX6_ok nmX6 hown hK hP hD hS 2 gA_2 rfl 6 (by decide) (hts (.fieldLink RX6 28 "ShapeReader$Tokens" "keyword" "I") mw_16_12) (fun _ h9 => h9) rfl (by decide +kernel) rfl rfl (Nat.le_of_ble_eq_true rfl) dX6_scanWord_72 (fun H locs hP hD hS => ?_)
        replace hP := uA_2_6 hP
        replace hD := hD0 ((stI (stI σ 2 4 2) 2 6 x2))
        exact b_X6_scanWord_75 hC ih h _ _ _ hP hD hS (lv_sub hl [0, 1] rfl)

set_option maxRecDepth 100000 in
set_option maxHeartbeats 4000000 in
theorem b_X6_scanWord_e {p : Program} {l : Launch} {e : Env} {s : State} {m : MethodId} {args : Array Value} {below : List Frame} {meth : Method} {c : Code} {dC : Nat → ClassId} {dI : Nat → Nat → Nat} {a : Nat → Nat} {k : Nat → ClassId} {A : Nat → Prop} {q : ST} (hC : CxA p s m args meth c dC dI k A cX6_scanWord RX6 none 3)    {σ : ST} (h : f_X6_scanWord   σ = some q) : GoA p l e ({ frames := 1, cells := 0, slots := 0, locals := 25 } : Room) s m args below meth c (MQ below (qAv dC dI a k A q) args s 0 0 A) dC dI a k A 3 0 σ (lv_args 0 [.ref (a 2)]) [] := by
  have hC0 := hC
  obtain ⟨hx, hb, hr, hml, hown, hts, hlocks, hA, hN, hK⟩ := hC0
  intro H locs ls hP hD hS hl
  have hD0 : ∀ σ1 : ST, va_D A (wA a k σ1) := fun σ1 => wA_D hD
  replace hl : lv_has ls 3 [(0, .ref (a 2))] := hl
  unfold f_X6_scanWord at h
  refine lv_aload_n hx hb dX6_scanWord_0 rfl (lv_at hl 0 rfl) ?_
  refine lv_aload_n hx hb dX6_scanWord_1 rfl (lv_at hl 0 rfl) ?_
  refine va_get (D := (dC, dI)) (ci := 6) (C := RX6) (T := TX6) (N := 14) hx hb hts inlX6 hown hK hP 2 gA_2 rfl 5 (by decide) (hts (.fieldLink RX6 25 "ShapeReader$Tokens" "start" "I") mw_16_11) (fun _ h9 => h9) rfl dX6_scanWord_2 ?_
  refine lv_bipush (v := 8) hx hb dX6_scanWord_5 (by decide) ?_
  obtain ⟨q1, hc, h⟩ := ib h
  have hF := va_frees hD hS hA
  refine va_calli (va_runV (As := [.int (σ.1 2 5), .int 8]) (rest := []) ⟨hx, hb, hml, hown, hts⟩ (s_X6_takeLetters hc) (cwV 2 hts (gV mw_17_16 mw_17_17 mw_17_18 mw_0_10 mw_51_11) rfl rfl rfl (by decide +kernel) ⟨(Nat.le_of_ble_eq_true rfl), (Nat.le_of_ble_eq_true rfl)⟩) (vV (ci := 6) (q0 := 2) hK hP hD hN rfl gA_2) rfl rfl hl.1 rfl (lv_room (Nat.le_of_ble_eq_true rfl)) dX6_scanWord_7 ⟨(Nat.le_of_ble_eq_true rfl), (Nat.le_of_ble_eq_true rfl)⟩) hS (fun q _ h => hF q h) hF (fun r2 u t H locs ht hvm hw hB _ _ hS => ?_)
  obtain rfl : r2 = q1.1 := hw
  replace hP : va_P (dC, dI) vwCl (wA a k q1.2) H := by rw [← ht]; exact hB.1
  replace hD := hD0 (q1.2)
  clear hB hF
  refine lv_istore_n (lv' := [(1, .int q1.1), (0, .ref (a 2))]) hx hb dX6_scanWord_10 rfl hl (by decide) rfl (fun ls hl => ?_)
  refine lv_iload_n hx hb dX6_scanWord_11 rfl (lv_at hl 0 rfl) ?_
  refine lv_bipush (v := 8) hx hb dX6_scanWord_12 (by decide) ?_
  refine lv_icmp_le (tgt := 23) hx hb dX6_scanWord_14 (by decide) (fun hc => ?_) (fun hc => ?_)
  · replace h := ip hc h
    refine lv_aload_n hx hb dX6_scanWord_23 rfl (lv_at hl 1 rfl) ?_
    refine lv_aload_n hx hb dX6_scanWord_24 rfl (lv_at hl 1 rfl) ?_
    refine va_get (D := (dC, dI)) (ci := 6) (C := RX6) (T := TX6) (N := 14) hx hb hts inlX6 hown hK hP 2 gA_2 rfl 5 (by decide) (hts (.fieldLink RX6 25 "ShapeReader$Tokens" "start" "I") mw_16_11) (fun _ h9 => h9) rfl dX6_scanWord_25 ?_
    refine lv_iload_n hx hb dX6_scanWord_28 rfl (lv_at hl 0 rfl) ?_
    refine lv_iadd hx hb dX6_scanWord_29 ?_
    refine va_put (D := (dC, dI)) (ci := 6) (ty := .int) (C := RX6) (T := TX6) (N := 14) hx hb hts inlX6 tyX6 tyX6_ok nmX6 hown hK hP hD hS 2 gA_2 rfl 3 (by decide) (hts (.fieldLink RX6 19 "ShapeReader$Tokens" "next" "I") mw_16_9) (fun _ h9 => h9) rfl (by decide +kernel) rfl rfl (Nat.le_of_ble_eq_true rfl) dX6_scanWord_30 (fun H locs hP hD hS => ?_)
    replace hP := uA_2_3 hP
    replace hD := hD0 ((stI q1.2 2 3 ((q1.2.1 2 5) + q1.1)))
    refine lv_aload_n hx hb dX6_scanWord_33 rfl (lv_at hl 1 rfl) ?_
    refine lv_iconst (v := 3) hx hb dX6_scanWord_34 (by decide) ?_
    refine va_put (D := (dC, dI)) (ci := 6) (ty := .int) (C := RX6) (T := TX6) (N := 14) hx hb hts inlX6 tyX6 tyX6_ok nmX6 hown hK hP hD hS 2 gA_2 rfl 4 (by decide) (hts (.fieldLink RX6 22 "ShapeReader$Tokens" "kind" "I") mw_16_10) (fun _ h9 => h9) rfl (by decide +kernel) rfl rfl (Nat.le_of_ble_eq_true rfl) dX6_scanWord_35 (fun H locs hP hD hS => ?_)
    replace hP := uA_2_4 hP
    replace hD := hD0 ((stI (stI q1.2 2 3 ((q1.2.1 2 5) + q1.1)) 2 4 3))
    refine lv_aload_n hx hb dX6_scanWord_38 rfl (lv_at hl 1 rfl) ?_
    refine lv_iconst (v := (-1)) hx hb dX6_scanWord_39 (by decide) ?_
    refine va_put (D := (dC, dI)) (ci := 6) (ty := .int) (C := RX6) (T := TX6) (N := 14) hx hb hts inlX6 tyX6 tyX6_ok nmX6 hown hK hP hD hS 2 gA_2 rfl 6 (by decide) (hts (.fieldLink RX6 28 "ShapeReader$Tokens" "keyword" "I") mw_16_12) (fun _ h9 => h9) rfl (by decide +kernel) rfl rfl (Nat.le_of_ble_eq_true rfl) dX6_scanWord_40 (fun H locs hP hD hS => ?_)
    replace hP := uA_2_6 hP
    replace hD := hD0 ((stI (stI (stI q1.2 2 3 ((q1.2.1 2 5) + q1.1)) 2 4 3) 2 6 (-1)))
    refine lv_iconst (v := 0) hx hb dX6_scanWord_43 (by decide) ?_
    refine lv_istore_n (lv' := [(2, .int 0), (1, .int q1.1), (0, .ref (a 2))]) hx hb dX6_scanWord_44 rfl hl (by decide) rfl (fun ls hl => ?_)
    exact b_X6_scanWord_45 hC FU _ _ h _ _ _ hP hD hS (lv_sub hl [2, 0] rfl)
  · replace h := iq hc h
    refine lv_aload_n hx hb dX6_scanWord_17 rfl (lv_at hl 1 rfl) ?_
    refine lv_iconst (v := 1) hx hb dX6_scanWord_18 (by decide) ?_
    refine va_put (D := (dC, dI)) (ci := 6) (ty := .int) (C := RX6) (T := TX6) (N := 14) hx hb hts inlX6 tyX6 tyX6_ok nmX6 hown hK hP hD hS 2 gA_2 rfl 4 (by decide) (hts (.fieldLink RX6 22 "ShapeReader$Tokens" "kind" "I") mw_16_10) (fun _ h9 => h9) rfl (by decide +kernel) rfl rfl (Nat.le_of_ble_eq_true rfl) dX6_scanWord_19 (fun H locs hP hD hS => ?_)
    replace hP := uA_2_4 hP
    replace hD := hD0 ((stI q1.2 2 4 1))
    obtain rfl := Option.some.inj h
    exact W.vret hx hb hr (fun t ht hW => ⟨⟨(), rfl, trivial, ⟨by rw [ht]; exact hP, va_K.moved hW.alike hK, hD⟩⟩, hS.F ht⟩) hS.2.2 dX6_scanWord_22

theorem s_X6_scanWord {l : Launch} {dC : Nat → ClassId} {dI : Nat → Nat → Nat} {a : Nat → Nat} {k : Nat → ClassId} {sz : Nat}  {σ : ST} {q : ST} (h : f_X6_scanWord   σ = some q) : Met l yX6_scanWord (.code yX6_scanWord cX6_scanWord 3 none :: pw) ({ frames := 1, cells := 0, slots := 0, locals := 25 } : Room) (va_Pc [.ref (a 2)] (vPre dC dI (wA a k σ) (tA k) sz)) (qAv dC dI a k (va_A (wA a k σ) sz) q) 0 0 (va_A (wA a k σ) sz) := metA (fun A => qAv dC dI a k A q) (plainFor_of_name (by decide)) (Nat.le_of_ble_eq_true rfl) (fun _ _ _ _ _ _ _ _ hC => b_X6_scanWord_e hC h)
