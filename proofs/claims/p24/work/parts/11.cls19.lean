theorem dX3_parse_0 : decode cX3_parse 0 = .ok (.aload_n 0, 1) := by decide +kernel
theorem dX3_parse_1 : decode cX3_parse 1 = .ok (.getfield 15, 3) := by decide +kernel
theorem dX3_parse_4 : decode cX3_parse 4 = .ok (.invokevirtual 19, 3) := by decide +kernel
theorem dX3_parse_7 : decode cX3_parse 7 = .ok (.iconst (-1), 1) := by decide +kernel
theorem dX3_parse_8 : decode cX3_parse 8 = .ok (.istore_n 1, 1) := by decide +kernel
theorem dX3_parse_9 : decode cX3_parse 9 = .ok (.iconst 0, 1) := by decide +kernel
theorem dX3_parse_10 : decode cX3_parse 10 = .ok (.istore_n 2, 1) := by decide +kernel
theorem dX3_parse_11 : decode cX3_parse 11 = .ok (.iload_n 2, 1) := by decide +kernel
theorem dX3_parse_12 : decode cX3_parse 12 = .ok (.bipush 42, 2) := by decide +kernel
theorem dX3_parse_14 : decode cX3_parse 14 = .ok (.if_icmp .gt 149, 3) := by decide +kernel
theorem dX3_parse_17 : decode cX3_parse 17 = .ok (.aload_n 0, 1) := by decide +kernel
theorem dX3_parse_18 : decode cX3_parse 18 = .ok (.getfield 15, 3) := by decide +kernel
theorem dX3_parse_21 : decode cX3_parse 21 = .ok (.iload_n 1, 1) := by decide +kernel
theorem dX3_parse_22 : decode cX3_parse 22 = .ok (.invokevirtual 24, 3) := by decide +kernel
theorem dX3_parse_25 : decode cX3_parse 25 = .ok (.ifCond .le 7, 3) := by decide +kernel
theorem dX3_parse_28 : decode cX3_parse 28 = .ok (.iconst 1, 1) := by decide +kernel
theorem dX3_parse_29 : decode cX3_parse 29 = .ok (.goto 4, 3) := by decide +kernel
theorem dX3_parse_32 : decode cX3_parse 32 = .ok (.iconst 0, 1) := by decide +kernel
theorem dX3_parse_33 : decode cX3_parse 33 = .ok (.istore_n 3, 1) := by decide +kernel
theorem dX3_parse_34 : decode cX3_parse 34 = .ok (.iload_n 1, 1) := by decide +kernel
theorem dX3_parse_35 : decode cX3_parse 35 = .ok (.iconst (-1), 1) := by decide +kernel
theorem dX3_parse_36 : decode cX3_parse 36 = .ok (.if_icmp .eq 24, 3) := by decide +kernel
theorem dX3_parse_39 : decode cX3_parse 39 = .ok (.aload_n 0, 1) := by decide +kernel
theorem dX3_parse_40 : decode cX3_parse 40 = .ok (.getfield 9, 3) := by decide +kernel
theorem dX3_parse_43 : decode cX3_parse 43 = .ok (.iconst 1, 1) := by decide +kernel
theorem dX3_parse_44 : decode cX3_parse 44 = .ok (.invokevirtual 30, 3) := by decide +kernel
theorem dX3_parse_47 : decode cX3_parse 47 = .ok (.ifCond .eq 13, 3) := by decide +kernel
theorem dX3_parse_50 : decode cX3_parse 50 = .ok (.aload_n 0, 1) := by decide +kernel
theorem dX3_parse_51 : decode cX3_parse 51 = .ok (.iload_n 1, 1) := by decide +kernel
theorem dX3_parse_52 : decode cX3_parse 52 = .ok (.invokevirtual 34, 3) := by decide +kernel
theorem dX3_parse_55 : decode cX3_parse 55 = .ok (.ifCond .ne 102, 3) := by decide +kernel
theorem dX3_parse_58 : decode cX3_parse 58 = .ok (.iconst 0, 1) := by decide +kernel
theorem dX3_parse_59 : decode cX3_parse 59 = .ok (.ireturn, 1) := by decide +kernel
theorem dX3_parse_60 : decode cX3_parse 60 = .ok (.iload_n 3, 1) := by decide +kernel
theorem dX3_parse_61 : decode cX3_parse 61 = .ok (.ifCond .eq 17, 3) := by decide +kernel
theorem dX3_parse_64 : decode cX3_parse 64 = .ok (.aload_n 0, 1) := by decide +kernel
theorem dX3_parse_65 : decode cX3_parse 65 = .ok (.getfield 9, 3) := by decide +kernel
theorem dX3_parse_68 : decode cX3_parse 68 = .ok (.getfield 37, 3) := by decide +kernel
theorem dX3_parse_71 : decode cX3_parse 71 = .ok (.ifCond .ne 7, 3) := by decide +kernel
theorem dX3_parse_74 : decode cX3_parse 74 = .ok (.iconst 1, 1) := by decide +kernel
theorem dX3_parse_75 : decode cX3_parse 75 = .ok (.goto 4, 3) := by decide +kernel
theorem dX3_parse_78 : decode cX3_parse 78 = .ok (.iconst 0, 1) := by decide +kernel
theorem dX3_parse_79 : decode cX3_parse 79 = .ok (.istore 4, 2) := by decide +kernel
theorem dX3_parse_81 : decode cX3_parse 81 = .ok (.iload_n 3, 1) := by decide +kernel
theorem dX3_parse_82 : decode cX3_parse 82 = .ok (.ifCond .ne 8, 3) := by decide +kernel
theorem dX3_parse_85 : decode cX3_parse 85 = .ok (.iload_n 1, 1) := by decide +kernel
theorem dX3_parse_86 : decode cX3_parse 86 = .ok (.iconst (-1), 1) := by decide +kernel
theorem dX3_parse_87 : decode cX3_parse 87 = .ok (.if_icmp .ne 18, 3) := by decide +kernel
theorem dX3_parse_90 : decode cX3_parse 90 = .ok (.aload_n 0, 1) := by decide +kernel
theorem dX3_parse_91 : decode cX3_parse 91 = .ok (.getfield 9, 3) := by decide +kernel
theorem dX3_parse_94 : decode cX3_parse 94 = .ok (.iconst 0, 1) := by decide +kernel
theorem dX3_parse_95 : decode cX3_parse 95 = .ok (.invokevirtual 30, 3) := by decide +kernel
theorem dX3_parse_98 : decode cX3_parse 98 = .ok (.ifCond .eq 7, 3) := by decide +kernel
theorem dX3_parse_101 : decode cX3_parse 101 = .ok (.iconst 1, 1) := by decide +kernel
theorem dX3_parse_102 : decode cX3_parse 102 = .ok (.goto 4, 3) := by decide +kernel
theorem dX3_parse_105 : decode cX3_parse 105 = .ok (.iconst 0, 1) := by decide +kernel
theorem dX3_parse_106 : decode cX3_parse 106 = .ok (.istore 5, 2) := by decide +kernel
theorem dX3_parse_108 : decode cX3_parse 108 = .ok (.iload 4, 2) := by decide +kernel
theorem dX3_parse_110 : decode cX3_parse 110 = .ok (.ifCond .ne 17, 3) := by decide +kernel
theorem dX3_parse_113 : decode cX3_parse 113 = .ok (.iload 5, 2) := by decide +kernel
theorem dX3_parse_115 : decode cX3_parse 115 = .ok (.ifCond .ne 12, 3) := by decide +kernel
theorem dX3_parse_118 : decode cX3_parse 118 = .ok (.aload_n 0, 1) := by decide +kernel
theorem dX3_parse_119 : decode cX3_parse 119 = .ok (.getfield 9, 3) := by decide +kernel
theorem dX3_parse_122 : decode cX3_parse 122 = .ok (.iconst 1, 1) := by decide +kernel
theorem dX3_parse_123 : decode cX3_parse 123 = .ok (.invokevirtual 41, 3) := by decide +kernel
theorem dX3_parse_126 : decode cX3_parse 126 = .ok (.ireturn, 1) := by decide +kernel
theorem dX3_parse_127 : decode cX3_parse 127 = .ok (.aload_n 0, 1) := by decide +kernel
theorem dX3_parse_128 : decode cX3_parse 128 = .ok (.iload_n 1, 1) := by decide +kernel
theorem dX3_parse_129 : decode cX3_parse 129 = .ok (.invokevirtual 44, 3) := by decide +kernel
theorem dX3_parse_132 : decode cX3_parse 132 = .ok (.ifCond .ne 5, 3) := by decide +kernel
theorem dX3_parse_135 : decode cX3_parse 135 = .ok (.iconst 0, 1) := by decide +kernel
theorem dX3_parse_136 : decode cX3_parse 136 = .ok (.ireturn, 1) := by decide +kernel
theorem dX3_parse_137 : decode cX3_parse 137 = .ok (.iload 4, 2) := by decide +kernel
theorem dX3_parse_139 : decode cX3_parse 139 = .ok (.ifCond .eq 5, 3) := by decide +kernel
theorem dX3_parse_142 : decode cX3_parse 142 = .ok (.iconst 1, 1) := by decide +kernel
theorem dX3_parse_143 : decode cX3_parse 143 = .ok (.ireturn, 1) := by decide +kernel
theorem dX3_parse_144 : decode cX3_parse 144 = .ok (.iinc 1 1, 3) := by decide +kernel
theorem dX3_parse_147 : decode cX3_parse 147 = .ok (.aload_n 0, 1) := by decide +kernel
theorem dX3_parse_148 : decode cX3_parse 148 = .ok (.iload_n 1, 1) := by decide +kernel
theorem dX3_parse_149 : decode cX3_parse 149 = .ok (.invokevirtual 47, 3) := by decide +kernel
theorem dX3_parse_152 : decode cX3_parse 152 = .ok (.ifCond .ne 5, 3) := by decide +kernel
theorem dX3_parse_155 : decode cX3_parse 155 = .ok (.iconst 0, 1) := by decide +kernel
theorem dX3_parse_156 : decode cX3_parse 156 = .ok (.ireturn, 1) := by decide +kernel
theorem dX3_parse_157 : decode cX3_parse 157 = .ok (.iinc 2 1, 3) := by decide +kernel
theorem dX3_parse_160 : decode cX3_parse 160 = .ok (.goto (-149), 3) := by decide +kernel
theorem dX3_parse_163 : decode cX3_parse 163 = .ok (.iconst 0, 1) := by decide +kernel
theorem dX3_parse_164 : decode cX3_parse 164 = .ok (.ireturn, 1) := by decide +kernel
theorem dX3_resolve_0 : decode cX3_resolve 0 = .ok (.aload_n 0, 1) := by decide +kernel
theorem dX3_resolve_1 : decode cX3_resolve 1 = .ok (.getfield 15, 3) := by decide +kernel
theorem dX3_resolve_4 : decode cX3_resolve 4 = .ok (.iload_n 1, 1) := by decide +kernel
theorem dX3_resolve_5 : decode cX3_resolve 5 = .ok (.invokevirtual 50, 3) := by decide +kernel
theorem dX3_resolve_8 : decode cX3_resolve 8 = .ok (.istore_n 2, 1) := by decide +kernel
theorem dX3_resolve_9 : decode cX3_resolve 9 = .ok (.iload_n 2, 1) := by decide +kernel
theorem dX3_resolve_10 : decode cX3_resolve 10 = .ok (.iconst (-1), 1) := by decide +kernel
theorem dX3_resolve_11 : decode cX3_resolve 11 = .ok (.if_icmp .eq 22, 3) := by decide +kernel
theorem dX3_resolve_14 : decode cX3_resolve 14 = .ok (.aload_n 0, 1) := by decide +kernel
theorem dX3_resolve_15 : decode cX3_resolve 15 = .ok (.getfield 9, 3) := by decide +kernel
theorem dX3_resolve_18 : decode cX3_resolve 18 = .ok (.iconst 3, 1) := by decide +kernel
theorem dX3_resolve_19 : decode cX3_resolve 19 = .ok (.aload_n 0, 1) := by decide +kernel
theorem dX3_resolve_20 : decode cX3_resolve 20 = .ok (.getfield 15, 3) := by decide +kernel
theorem dX3_resolve_23 : decode cX3_resolve 23 = .ok (.iload_n 2, 1) := by decide +kernel
theorem dX3_resolve_24 : decode cX3_resolve 24 = .ok (.invokevirtual 52, 3) := by decide +kernel
theorem dX3_resolve_27 : decode cX3_resolve 27 = .ok (.invokevirtual 55, 3) := by decide +kernel
theorem dX3_resolve_30 : decode cX3_resolve 30 = .ok (.ifCond .eq 7, 3) := by decide +kernel
theorem dX3_resolve_33 : decode cX3_resolve 33 = .ok (.iconst 1, 1) := by decide +kernel
theorem dX3_resolve_34 : decode cX3_resolve 34 = .ok (.goto 4, 3) := by decide +kernel
theorem dX3_resolve_37 : decode cX3_resolve 37 = .ok (.iconst 0, 1) := by decide +kernel
theorem dX3_resolve_38 : decode cX3_resolve 38 = .ok (.ireturn, 1) := by decide +kernel
theorem dX5_askedPlace_0 : decode cX5_askedPlace 0 = .ok (.aload_n 0, 1) := by decide +kernel
theorem dX5_askedPlace_1 : decode cX5_askedPlace 1 = .ok (.iload_n 1, 1) := by decide +kernel
theorem dX5_askedPlace_2 : decode cX5_askedPlace 2 = .ok (.invokevirtual 79, 3) := by decide +kernel
theorem dX5_askedPlace_5 : decode cX5_askedPlace 5 = .ok (.ifCond .eq 12, 3) := by decide +kernel
theorem dX5_askedPlace_8 : decode cX5_askedPlace 8 = .ok (.aload_n 0, 1) := by decide +kernel
theorem dX5_askedPlace_9 : decode cX5_askedPlace 9 = .ok (.getfield 62, 3) := by decide +kernel
theorem dX5_askedPlace_12 : decode cX5_askedPlace 12 = .ok (.iload_n 1, 1) := by decide +kernel
theorem dX5_askedPlace_13 : decode cX5_askedPlace 13 = .ok (.iaload, 1) := by decide +kernel
theorem dX5_askedPlace_14 : decode cX5_askedPlace 14 = .ok (.goto 4, 3) := by decide +kernel
theorem dX5_askedPlace_17 : decode cX5_askedPlace 17 = .ok (.iconst 0, 1) := by decide +kernel
theorem dX5_askedPlace_18 : decode cX5_askedPlace 18 = .ok (.ireturn, 1) := by decide +kernel
theorem dX5_clear_0 : decode cX5_clear 0 = .ok (.aload_n 0, 1) := by decide +kernel
theorem dX5_clear_1 : decode cX5_clear 1 = .ok (.iconst 0, 1) := by decide +kernel
theorem dX5_clear_2 : decode cX5_clear 2 = .ok (.putfield 9, 3) := by decide +kernel
theorem dX5_clear_5 : decode cX5_clear 5 = .ok (.aload_n 0, 1) := by decide +kernel
theorem dX5_clear_6 : decode cX5_clear 6 = .ok (.iconst 0, 1) := by decide +kernel
theorem dX5_clear_7 : decode cX5_clear 7 = .ok (.putfield 15, 3) := by decide +kernel
theorem dX5_clear_10 : decode cX5_clear 10 = .ok (.return_, 1) := by decide +kernel
theorem dX5_copyFrom_0 : decode cX5_copyFrom 0 = .ok (.aload_n 0, 1) := by decide +kernel
theorem dX5_copyFrom_1 : decode cX5_copyFrom 1 = .ok (.aload_n 1, 1) := by decide +kernel
theorem dX5_copyFrom_2 : decode cX5_copyFrom 2 = .ok (.getfield 9, 3) := by decide +kernel
theorem dX5_copyFrom_5 : decode cX5_copyFrom 5 = .ok (.putfield 9, 3) := by decide +kernel
theorem dX5_copyFrom_8 : decode cX5_copyFrom 8 = .ok (.aload_n 0, 1) := by decide +kernel
theorem dX5_copyFrom_9 : decode cX5_copyFrom 9 = .ok (.aload_n 1, 1) := by decide +kernel
theorem dX5_copyFrom_10 : decode cX5_copyFrom 10 = .ok (.getfield 15, 3) := by decide +kernel
theorem dX5_copyFrom_13 : decode cX5_copyFrom 13 = .ok (.putfield 15, 3) := by decide +kernel
theorem dX5_copyFrom_16 : decode cX5_copyFrom 16 = .ok (.aload_n 1, 1) := by decide +kernel
theorem dX5_copyFrom_17 : decode cX5_copyFrom 17 = .ok (.getfield 18, 3) := by decide +kernel
theorem dX5_copyFrom_20 : decode cX5_copyFrom 20 = .ok (.iconst 0, 1) := by decide +kernel
theorem dX5_copyFrom_21 : decode cX5_copyFrom 21 = .ok (.aload_n 0, 1) := by decide +kernel
theorem dX5_copyFrom_22 : decode cX5_copyFrom 22 = .ok (.getfield 18, 3) := by decide +kernel
theorem dX5_copyFrom_25 : decode cX5_copyFrom 25 = .ok (.iconst 0, 1) := by decide +kernel
theorem dX5_copyFrom_26 : decode cX5_copyFrom 26 = .ok (.bipush 6, 2) := by decide +kernel
theorem dX5_copyFrom_28 : decode cX5_copyFrom 28 = .ok (.invokestatic 65, 3) := by decide +kernel
theorem dX5_copyFrom_31 : decode cX5_copyFrom 31 = .ok (.aload_n 1, 1) := by decide +kernel
theorem dX5_copyFrom_32 : decode cX5_copyFrom 32 = .ok (.getfield 22, 3) := by decide +kernel
theorem dX5_copyFrom_35 : decode cX5_copyFrom 35 = .ok (.iconst 0, 1) := by decide +kernel
theorem dX5_copyFrom_36 : decode cX5_copyFrom 36 = .ok (.aload_n 0, 1) := by decide +kernel
theorem dX5_copyFrom_37 : decode cX5_copyFrom 37 = .ok (.getfield 22, 3) := by decide +kernel
theorem dX5_copyFrom_40 : decode cX5_copyFrom 40 = .ok (.iconst 0, 1) := by decide +kernel
theorem dX5_copyFrom_41 : decode cX5_copyFrom 41 = .ok (.bipush 6, 2) := by decide +kernel
theorem dX5_copyFrom_43 : decode cX5_copyFrom 43 = .ok (.invokestatic 65, 3) := by decide +kernel
theorem dX5_copyFrom_46 : decode cX5_copyFrom 46 = .ok (.aload_n 1, 1) := by decide +kernel
theorem dX5_copyFrom_47 : decode cX5_copyFrom 47 = .ok (.getfield 25, 3) := by decide +kernel
theorem dX5_copyFrom_50 : decode cX5_copyFrom 50 = .ok (.iconst 0, 1) := by decide +kernel
theorem dX5_copyFrom_51 : decode cX5_copyFrom 51 = .ok (.aload_n 0, 1) := by decide +kernel
theorem dX5_copyFrom_52 : decode cX5_copyFrom 52 = .ok (.getfield 25, 3) := by decide +kernel
theorem dX5_copyFrom_55 : decode cX5_copyFrom 55 = .ok (.iconst 0, 1) := by decide +kernel
theorem dX5_copyFrom_56 : decode cX5_copyFrom 56 = .ok (.bipush 36, 2) := by decide +kernel
theorem dX5_copyFrom_58 : decode cX5_copyFrom 58 = .ok (.invokestatic 65, 3) := by decide +kernel
theorem dX5_copyFrom_61 : decode cX5_copyFrom 61 = .ok (.aload_n 1, 1) := by decide +kernel
theorem dX5_copyFrom_62 : decode cX5_copyFrom 62 = .ok (.getfield 28, 3) := by decide +kernel
theorem dX5_copyFrom_65 : decode cX5_copyFrom 65 = .ok (.iconst 0, 1) := by decide +kernel
theorem dX5_copyFrom_66 : decode cX5_copyFrom 66 = .ok (.aload_n 0, 1) := by decide +kernel
theorem dX5_copyFrom_67 : decode cX5_copyFrom 67 = .ok (.getfield 28, 3) := by decide +kernel
theorem dX5_copyFrom_70 : decode cX5_copyFrom 70 = .ok (.iconst 0, 1) := by decide +kernel
theorem dX5_copyFrom_71 : decode cX5_copyFrom 71 = .ok (.bipush 36, 2) := by decide +kernel
theorem dX5_copyFrom_73 : decode cX5_copyFrom 73 = .ok (.invokestatic 65, 3) := by decide +kernel
theorem dX5_copyFrom_76 : decode cX5_copyFrom 76 = .ok (.aload_n 1, 1) := by decide +kernel
theorem dX5_copyFrom_77 : decode cX5_copyFrom 77 = .ok (.getfield 32, 3) := by decide +kernel
theorem dX5_copyFrom_80 : decode cX5_copyFrom 80 = .ok (.iconst 0, 1) := by decide +kernel
theorem dX5_copyFrom_81 : decode cX5_copyFrom 81 = .ok (.aload_n 0, 1) := by decide +kernel
theorem dX5_copyFrom_82 : decode cX5_copyFrom 82 = .ok (.getfield 32, 3) := by decide +kernel
theorem dX5_copyFrom_85 : decode cX5_copyFrom 85 = .ok (.iconst 0, 1) := by decide +kernel
theorem dX5_copyFrom_86 : decode cX5_copyFrom 86 = .ok (.bipush 36, 2) := by decide +kernel
theorem dX5_copyFrom_88 : decode cX5_copyFrom 88 = .ok (.invokestatic 65, 3) := by decide +kernel
theorem dX5_copyFrom_91 : decode cX5_copyFrom 91 = .ok (.aload_n 1, 1) := by decide +kernel
theorem dX5_copyFrom_92 : decode cX5_copyFrom 92 = .ok (.getfield 38, 3) := by decide +kernel
theorem dX5_copyFrom_95 : decode cX5_copyFrom 95 = .ok (.iconst 0, 1) := by decide +kernel
theorem dX5_copyFrom_96 : decode cX5_copyFrom 96 = .ok (.aload_n 0, 1) := by decide +kernel
theorem dX5_copyFrom_97 : decode cX5_copyFrom 97 = .ok (.getfield 38, 3) := by decide +kernel
theorem dX5_copyFrom_100 : decode cX5_copyFrom 100 = .ok (.iconst 0, 1) := by decide +kernel
theorem dX5_copyFrom_101 : decode cX5_copyFrom 101 = .ok (.sipush 288, 3) := by decide +kernel
theorem dX5_copyFrom_104 : decode cX5_copyFrom 104 = .ok (.invokestatic 65, 3) := by decide +kernel
theorem dX5_copyFrom_107 : decode cX5_copyFrom 107 = .ok (.aload_n 1, 1) := by decide +kernel
theorem dX5_copyFrom_108 : decode cX5_copyFrom 108 = .ok (.getfield 41, 3) := by decide +kernel
theorem dX5_copyFrom_111 : decode cX5_copyFrom 111 = .ok (.iconst 0, 1) := by decide +kernel
theorem dX5_copyFrom_112 : decode cX5_copyFrom 112 = .ok (.aload_n 0, 1) := by decide +kernel
theorem dX5_copyFrom_113 : decode cX5_copyFrom 113 = .ok (.getfield 41, 3) := by decide +kernel
theorem dX5_copyFrom_116 : decode cX5_copyFrom 116 = .ok (.iconst 0, 1) := by decide +kernel
theorem dX5_copyFrom_117 : decode cX5_copyFrom 117 = .ok (.sipush 288, 3) := by decide +kernel
theorem dX5_copyFrom_120 : decode cX5_copyFrom 120 = .ok (.invokestatic 65, 3) := by decide +kernel
theorem dX5_copyFrom_123 : decode cX5_copyFrom 123 = .ok (.aload_n 1, 1) := by decide +kernel
theorem dX5_copyFrom_124 : decode cX5_copyFrom 124 = .ok (.getfield 44, 3) := by decide +kernel
theorem dX5_copyFrom_127 : decode cX5_copyFrom 127 = .ok (.iconst 0, 1) := by decide +kernel
theorem dX5_copyFrom_128 : decode cX5_copyFrom 128 = .ok (.aload_n 0, 1) := by decide +kernel
theorem dX5_copyFrom_129 : decode cX5_copyFrom 129 = .ok (.getfield 44, 3) := by decide +kernel
theorem dX5_copyFrom_132 : decode cX5_copyFrom 132 = .ok (.iconst 0, 1) := by decide +kernel
theorem dX5_copyFrom_133 : decode cX5_copyFrom 133 = .ok (.sipush 288, 3) := by decide +kernel
theorem dX5_copyFrom_136 : decode cX5_copyFrom 136 = .ok (.invokestatic 65, 3) := by decide +kernel
theorem dX5_copyFrom_139 : decode cX5_copyFrom 139 = .ok (.aload_n 1, 1) := by decide +kernel
theorem dX5_copyFrom_140 : decode cX5_copyFrom 140 = .ok (.getfield 47, 3) := by decide +kernel
theorem dX5_copyFrom_143 : decode cX5_copyFrom 143 = .ok (.iconst 0, 1) := by decide +kernel
theorem dX5_copyFrom_144 : decode cX5_copyFrom 144 = .ok (.aload_n 0, 1) := by decide +kernel
theorem dX5_copyFrom_145 : decode cX5_copyFrom 145 = .ok (.getfield 47, 3) := by decide +kernel
theorem dX5_copyFrom_148 : decode cX5_copyFrom 148 = .ok (.iconst 0, 1) := by decide +kernel
theorem dX5_copyFrom_149 : decode cX5_copyFrom 149 = .ok (.sipush 288, 3) := by decide +kernel
theorem dX5_copyFrom_152 : decode cX5_copyFrom 152 = .ok (.invokestatic 65, 3) := by decide +kernel
theorem dX5_copyFrom_155 : decode cX5_copyFrom 155 = .ok (.aload_n 1, 1) := by decide +kernel
theorem dX5_copyFrom_156 : decode cX5_copyFrom 156 = .ok (.getfield 50, 3) := by decide +kernel
theorem dX5_copyFrom_159 : decode cX5_copyFrom 159 = .ok (.iconst 0, 1) := by decide +kernel
theorem dX5_copyFrom_160 : decode cX5_copyFrom 160 = .ok (.aload_n 0, 1) := by decide +kernel
theorem dX5_copyFrom_161 : decode cX5_copyFrom 161 = .ok (.getfield 50, 3) := by decide +kernel
theorem dX5_copyFrom_164 : decode cX5_copyFrom 164 = .ok (.iconst 0, 1) := by decide +kernel
theorem dX5_copyFrom_165 : decode cX5_copyFrom 165 = .ok (.sipush 262, 3) := by decide +kernel
theorem dX5_copyFrom_168 : decode cX5_copyFrom 168 = .ok (.invokestatic 65, 3) := by decide +kernel
theorem dX5_copyFrom_171 : decode cX5_copyFrom 171 = .ok (.aload_n 1, 1) := by decide +kernel
theorem dX5_copyFrom_172 : decode cX5_copyFrom 172 = .ok (.getfield 53, 3) := by decide +kernel
theorem dX5_copyFrom_175 : decode cX5_copyFrom 175 = .ok (.iconst 0, 1) := by decide +kernel
theorem dX5_copyFrom_176 : decode cX5_copyFrom 176 = .ok (.aload_n 0, 1) := by decide +kernel
theorem dX5_copyFrom_177 : decode cX5_copyFrom 177 = .ok (.getfield 53, 3) := by decide +kernel
theorem dX5_copyFrom_180 : decode cX5_copyFrom 180 = .ok (.iconst 0, 1) := by decide +kernel
theorem dX5_copyFrom_181 : decode cX5_copyFrom 181 = .ok (.sipush 262, 3) := by decide +kernel
theorem dX5_copyFrom_184 : decode cX5_copyFrom 184 = .ok (.invokestatic 65, 3) := by decide +kernel
theorem dX5_copyFrom_187 : decode cX5_copyFrom 187 = .ok (.aload_n 1, 1) := by decide +kernel
theorem dX5_copyFrom_188 : decode cX5_copyFrom 188 = .ok (.getfield 56, 3) := by decide +kernel
theorem dX5_copyFrom_191 : decode cX5_copyFrom 191 = .ok (.iconst 0, 1) := by decide +kernel
theorem dX5_copyFrom_192 : decode cX5_copyFrom 192 = .ok (.aload_n 0, 1) := by decide +kernel
theorem dX5_copyFrom_193 : decode cX5_copyFrom 193 = .ok (.getfield 56, 3) := by decide +kernel
theorem dX5_copyFrom_196 : decode cX5_copyFrom 196 = .ok (.iconst 0, 1) := by decide +kernel
theorem dX5_copyFrom_197 : decode cX5_copyFrom 197 = .ok (.sipush 262, 3) := by decide +kernel
theorem dX5_copyFrom_200 : decode cX5_copyFrom 200 = .ok (.invokestatic 65, 3) := by decide +kernel
theorem dX5_copyFrom_203 : decode cX5_copyFrom 203 = .ok (.return_, 1) := by decide +kernel
theorem dX5_findEmptyRecords_0 : decode cX5_findEmptyRecords 0 = .ok (.aload_n 0, 1) := by decide +kernel
theorem dX5_findEmptyRecords_1 : decode cX5_findEmptyRecords 1 = .ok (.getfield 35, 3) := by decide +kernel
theorem dX5_findEmptyRecords_4 : decode cX5_findEmptyRecords 4 = .ok (.iconst (-1), 1) := by decide +kernel
theorem dX5_findEmptyRecords_5 : decode cX5_findEmptyRecords 5 = .ok (.invokestatic 132, 3) := by decide +kernel
theorem dX5_findEmptyRecords_8 : decode cX5_findEmptyRecords 8 = .ok (.iconst 0, 1) := by decide +kernel
theorem dX5_findEmptyRecords_9 : decode cX5_findEmptyRecords 9 = .ok (.istore_n 1, 1) := by decide +kernel
theorem dX5_findEmptyRecords_10 : decode cX5_findEmptyRecords 10 = .ok (.iload_n 1, 1) := by decide +kernel
theorem dX5_findEmptyRecords_11 : decode cX5_findEmptyRecords 11 = .ok (.bipush 6, 2) := by decide +kernel
theorem dX5_findEmptyRecords_13 : decode cX5_findEmptyRecords 13 = .ok (.if_icmp .ge 82, 3) := by decide +kernel
theorem dX5_findEmptyRecords_16 : decode cX5_findEmptyRecords 16 = .ok (.iconst 0, 1) := by decide +kernel
theorem dX5_findEmptyRecords_17 : decode cX5_findEmptyRecords 17 = .ok (.istore_n 2, 1) := by decide +kernel
theorem dX5_findEmptyRecords_18 : decode cX5_findEmptyRecords 18 = .ok (.iload_n 2, 1) := by decide +kernel
theorem dX5_findEmptyRecords_19 : decode cX5_findEmptyRecords 19 = .ok (.aload_n 0, 1) := by decide +kernel
theorem dX5_findEmptyRecords_20 : decode cX5_findEmptyRecords 20 = .ok (.getfield 9, 3) := by decide +kernel
theorem dX5_findEmptyRecords_23 : decode cX5_findEmptyRecords 23 = .ok (.if_icmp .ge 66, 3) := by decide +kernel
theorem dX5_findEmptyRecords_26 : decode cX5_findEmptyRecords 26 = .ok (.iconst 0, 1) := by decide +kernel
theorem dX5_findEmptyRecords_27 : decode cX5_findEmptyRecords 27 = .ok (.istore_n 3, 1) := by decide +kernel
theorem dX5_findEmptyRecords_28 : decode cX5_findEmptyRecords 28 = .ok (.iload_n 3, 1) := by decide +kernel
theorem dX5_findEmptyRecords_29 : decode cX5_findEmptyRecords 29 = .ok (.aload_n 0, 1) := by decide +kernel
theorem dX5_findEmptyRecords_30 : decode cX5_findEmptyRecords 30 = .ok (.iload_n 2, 1) := by decide +kernel
theorem dX5_findEmptyRecords_31 : decode cX5_findEmptyRecords 31 = .ok (.invokevirtual 98, 3) := by decide +kernel
theorem dX5_findEmptyRecords_34 : decode cX5_findEmptyRecords 34 = .ok (.if_icmp .ge 49, 3) := by decide +kernel
theorem dX5_findEmptyRecords_37 : decode cX5_findEmptyRecords 37 = .ok (.iload_n 2, 1) := by decide +kernel
theorem dX5_findEmptyRecords_38 : decode cX5_findEmptyRecords 38 = .ok (.bipush 6, 2) := by decide +kernel
theorem dX5_findEmptyRecords_40 : decode cX5_findEmptyRecords 40 = .ok (.imul, 1) := by decide +kernel
theorem dX5_findEmptyRecords_41 : decode cX5_findEmptyRecords 41 = .ok (.iload_n 3, 1) := by decide +kernel
theorem dX5_findEmptyRecords_42 : decode cX5_findEmptyRecords 42 = .ok (.iadd, 1) := by decide +kernel
theorem dX5_findEmptyRecords_43 : decode cX5_findEmptyRecords 43 = .ok (.istore 4, 2) := by decide +kernel
theorem dX5_findEmptyRecords_45 : decode cX5_findEmptyRecords 45 = .ok (.iload 4, 2) := by decide +kernel
theorem dX5_findEmptyRecords_47 : decode cX5_findEmptyRecords 47 = .ok (.invokestatic 71, 3) := by decide +kernel
theorem dX5_findEmptyRecords_50 : decode cX5_findEmptyRecords 50 = .ok (.ifCond .eq 27, 3) := by decide +kernel
theorem dX5_findEmptyRecords_53 : decode cX5_findEmptyRecords 53 = .ok (.aload_n 0, 1) := by decide +kernel
theorem dX5_findEmptyRecords_54 : decode cX5_findEmptyRecords 54 = .ok (.getfield 35, 3) := by decide +kernel
theorem dX5_findEmptyRecords_57 : decode cX5_findEmptyRecords 57 = .ok (.iload 4, 2) := by decide +kernel
theorem dX5_findEmptyRecords_59 : decode cX5_findEmptyRecords 59 = .ok (.iaload, 1) := by decide +kernel
theorem dX5_findEmptyRecords_60 : decode cX5_findEmptyRecords 60 = .ok (.iconst (-1), 1) := by decide +kernel
theorem dX5_findEmptyRecords_61 : decode cX5_findEmptyRecords 61 = .ok (.if_icmp .ne 16, 3) := by decide +kernel
theorem dX5_findEmptyRecords_64 : decode cX5_findEmptyRecords 64 = .ok (.aload_n 0, 1) := by decide +kernel
theorem dX5_findEmptyRecords_65 : decode cX5_findEmptyRecords 65 = .ok (.getfield 35, 3) := by decide +kernel
theorem dX5_findEmptyRecords_68 : decode cX5_findEmptyRecords 68 = .ok (.iload 4, 2) := by decide +kernel
theorem dX5_findEmptyRecords_70 : decode cX5_findEmptyRecords 70 = .ok (.aload_n 0, 1) := by decide +kernel
theorem dX5_findEmptyRecords_71 : decode cX5_findEmptyRecords 71 = .ok (.iload 4, 2) := by decide +kernel
theorem dX5_findEmptyRecords_73 : decode cX5_findEmptyRecords 73 = .ok (.invokevirtual 138, 3) := by decide +kernel
theorem dX5_findEmptyRecords_76 : decode cX5_findEmptyRecords 76 = .ok (.iastore, 1) := by decide +kernel
theorem dX5_findEmptyRecords_77 : decode cX5_findEmptyRecords 77 = .ok (.iinc 3 1, 3) := by decide +kernel
theorem dX5_findEmptyRecords_80 : decode cX5_findEmptyRecords 80 = .ok (.goto (-52), 3) := by decide +kernel
theorem dX5_findEmptyRecords_83 : decode cX5_findEmptyRecords 83 = .ok (.iinc 2 1, 3) := by decide +kernel
theorem dX5_findEmptyRecords_86 : decode cX5_findEmptyRecords 86 = .ok (.goto (-68), 3) := by decide +kernel
theorem dX5_findEmptyRecords_89 : decode cX5_findEmptyRecords 89 = .ok (.iinc 1 1, 3) := by decide +kernel
theorem dX5_findEmptyRecords_92 : decode cX5_findEmptyRecords 92 = .ok (.goto (-82), 3) := by decide +kernel
theorem dX5_findEmptyRecords_95 : decode cX5_findEmptyRecords 95 = .ok (.return_, 1) := by decide +kernel
theorem dX5_heightOfFields_0 : decode cX5_heightOfFields 0 = .ok (.iconst 0, 1) := by decide +kernel
theorem dX5_heightOfFields_1 : decode cX5_heightOfFields 1 = .ok (.istore_n 2, 1) := by decide +kernel
theorem dX5_heightOfFields_2 : decode cX5_heightOfFields 2 = .ok (.iconst 0, 1) := by decide +kernel
theorem dX5_heightOfFields_3 : decode cX5_heightOfFields 3 = .ok (.istore_n 3, 1) := by decide +kernel
theorem dX5_heightOfFields_4 : decode cX5_heightOfFields 4 = .ok (.iload_n 3, 1) := by decide +kernel
theorem dX5_heightOfFields_5 : decode cX5_heightOfFields 5 = .ok (.aload_n 0, 1) := by decide +kernel
theorem dX5_heightOfFields_6 : decode cX5_heightOfFields 6 = .ok (.iload_n 1, 1) := by decide +kernel
theorem dX5_heightOfFields_7 : decode cX5_heightOfFields 7 = .ok (.invokevirtual 123, 3) := by decide +kernel
theorem dX5_heightOfFields_10 : decode cX5_heightOfFields 10 = .ok (.if_icmp .ge 36, 3) := by decide +kernel
theorem dX5_heightOfFields_13 : decode cX5_heightOfFields 13 = .ok (.aload_n 0, 1) := by decide +kernel
theorem dX5_heightOfFields_14 : decode cX5_heightOfFields 14 = .ok (.aload_n 0, 1) := by decide +kernel
theorem dX5_heightOfFields_15 : decode cX5_heightOfFields 15 = .ok (.iload_n 1, 1) := by decide +kernel
theorem dX5_heightOfFields_16 : decode cX5_heightOfFields 16 = .ok (.iload_n 3, 1) := by decide +kernel
theorem dX5_heightOfFields_17 : decode cX5_heightOfFields 17 = .ok (.invokevirtual 141, 3) := by decide +kernel
theorem dX5_heightOfFields_20 : decode cX5_heightOfFields 20 = .ok (.invokevirtual 144, 3) := by decide +kernel
theorem dX5_heightOfFields_23 : decode cX5_heightOfFields 23 = .ok (.istore 4, 2) := by decide +kernel
theorem dX5_heightOfFields_25 : decode cX5_heightOfFields 25 = .ok (.iload 4, 2) := by decide +kernel
theorem dX5_heightOfFields_27 : decode cX5_heightOfFields 27 = .ok (.iconst (-1), 1) := by decide +kernel
theorem dX5_heightOfFields_28 : decode cX5_heightOfFields 28 = .ok (.if_icmp .ne 5, 3) := by decide +kernel
theorem dX5_heightOfFields_31 : decode cX5_heightOfFields 31 = .ok (.iconst (-1), 1) := by decide +kernel
theorem dX5_heightOfFields_32 : decode cX5_heightOfFields 32 = .ok (.ireturn, 1) := by decide +kernel
theorem dX5_heightOfFields_33 : decode cX5_heightOfFields 33 = .ok (.iload_n 2, 1) := by decide +kernel
theorem dX5_heightOfFields_34 : decode cX5_heightOfFields 34 = .ok (.iload 4, 2) := by decide +kernel
theorem dX5_heightOfFields_36 : decode cX5_heightOfFields 36 = .ok (.invokestatic 147, 3) := by decide +kernel
theorem dX5_heightOfFields_39 : decode cX5_heightOfFields 39 = .ok (.istore_n 2, 1) := by decide +kernel
theorem dX5_heightOfFields_40 : decode cX5_heightOfFields 40 = .ok (.iinc 3 1, 3) := by decide +kernel
theorem dX5_heightOfFields_43 : decode cX5_heightOfFields 43 = .ok (.goto (-39), 3) := by decide +kernel
theorem dX5_heightOfFields_46 : decode cX5_heightOfFields 46 = .ok (.iload_n 2, 1) := by decide +kernel
theorem dX5_heightOfFields_47 : decode cX5_heightOfFields 47 = .ok (.iconst 1, 1) := by decide +kernel
theorem dX5_heightOfFields_48 : decode cX5_heightOfFields 48 = .ok (.iadd, 1) := by decide +kernel
theorem dX5_heightOfFields_49 : decode cX5_heightOfFields 49 = .ok (.ireturn, 1) := by decide +kernel
theorem dX5_resolve_0 : decode cX5_resolve 0 = .ok (.aload_n 0, 1) := by decide +kernel
theorem dX5_resolve_1 : decode cX5_resolve 1 = .ok (.iload_n 1, 1) := by decide +kernel
theorem dX5_resolve_2 : decode cX5_resolve 2 = .ok (.invokevirtual 126, 3) := by decide +kernel
theorem dX5_resolve_5 : decode cX5_resolve 5 = .ok (.istore_n 2, 1) := by decide +kernel
theorem dX5_resolve_6 : decode cX5_resolve 6 = .ok (.iload_n 2, 1) := by decide +kernel
theorem dX5_resolve_7 : decode cX5_resolve 7 = .ok (.aload_n 0, 1) := by decide +kernel
theorem dX5_resolve_8 : decode cX5_resolve 8 = .ok (.getfield 15, 3) := by decide +kernel
theorem dX5_resolve_11 : decode cX5_resolve 11 = .ok (.if_icmp .ge 57, 3) := by decide +kernel
theorem dX5_resolve_14 : decode cX5_resolve 14 = .ok (.aload_n 0, 1) := by decide +kernel
theorem dX5_resolve_15 : decode cX5_resolve 15 = .ok (.iload_n 2, 1) := by decide +kernel
theorem dX5_resolve_16 : decode cX5_resolve 16 = .ok (.invokevirtual 79, 3) := by decide +kernel
theorem dX5_resolve_19 : decode cX5_resolve 19 = .ok (.ifCond .eq 43, 3) := by decide +kernel
theorem dX5_resolve_22 : decode cX5_resolve 22 = .ok (.aload_n 0, 1) := by decide +kernel
theorem dX5_resolve_23 : decode cX5_resolve 23 = .ok (.getfield 59, 3) := by decide +kernel
theorem dX5_resolve_26 : decode cX5_resolve 26 = .ok (.iload_n 2, 1) := by decide +kernel
theorem dX5_resolve_27 : decode cX5_resolve 27 = .ok (.laload, 1) := by decide +kernel
theorem dX5_resolve_28 : decode cX5_resolve 28 = .ok (.lconst 0, 1) := by decide +kernel
theorem dX5_resolve_29 : decode cX5_resolve 29 = .ok (.lcmp, 1) := by decide +kernel
theorem dX5_resolve_30 : decode cX5_resolve 30 = .ok (.ifCond .eq 32, 3) := by decide +kernel
theorem dX5_resolve_33 : decode cX5_resolve 33 = .ok (.aload_n 0, 1) := by decide +kernel
theorem dX5_resolve_34 : decode cX5_resolve 34 = .ok (.getfield 53, 3) := by decide +kernel
theorem dX5_resolve_37 : decode cX5_resolve 37 = .ok (.iload_n 2, 1) := by decide +kernel
theorem dX5_resolve_38 : decode cX5_resolve 38 = .ok (.aload_n 0, 1) := by decide +kernel
theorem dX5_resolve_39 : decode cX5_resolve 39 = .ok (.iload_n 1, 1) := by decide +kernel
theorem dX5_resolve_40 : decode cX5_resolve 40 = .ok (.aload_n 0, 1) := by decide +kernel
theorem dX5_resolve_41 : decode cX5_resolve 41 = .ok (.getfield 59, 3) := by decide +kernel
theorem dX5_resolve_44 : decode cX5_resolve 44 = .ok (.iload_n 2, 1) := by decide +kernel
theorem dX5_resolve_45 : decode cX5_resolve 45 = .ok (.laload, 1) := by decide +kernel
theorem dX5_resolve_46 : decode cX5_resolve 46 = .ok (.invokevirtual 129, 3) := by decide +kernel
theorem dX5_resolve_49 : decode cX5_resolve 49 = .ok (.iastore, 1) := by decide +kernel
theorem dX5_resolve_50 : decode cX5_resolve 50 = .ok (.aload_n 0, 1) := by decide +kernel
theorem dX5_resolve_51 : decode cX5_resolve 51 = .ok (.getfield 53, 3) := by decide +kernel
theorem dX5_resolve_54 : decode cX5_resolve 54 = .ok (.iload_n 2, 1) := by decide +kernel
theorem dX5_resolve_55 : decode cX5_resolve 55 = .ok (.iaload, 1) := by decide +kernel
theorem dX5_resolve_56 : decode cX5_resolve 56 = .ok (.iconst (-1), 1) := by decide +kernel
theorem dX5_resolve_57 : decode cX5_resolve 57 = .ok (.if_icmp .ne 5, 3) := by decide +kernel
theorem dX5_resolve_60 : decode cX5_resolve 60 = .ok (.iload_n 2, 1) := by decide +kernel
theorem dX5_resolve_61 : decode cX5_resolve 61 = .ok (.ireturn, 1) := by decide +kernel
theorem dX5_resolve_62 : decode cX5_resolve 62 = .ok (.iinc 2 1, 3) := by decide +kernel
theorem dX5_resolve_65 : decode cX5_resolve 65 = .ok (.goto (-59), 3) := by decide +kernel
theorem dX5_resolve_68 : decode cX5_resolve 68 = .ok (.iconst (-1), 1) := by decide +kernel
theorem dX5_resolve_69 : decode cX5_resolve 69 = .ok (.ireturn, 1) := by decide +kernel
theorem dX6_begin_0 : decode cX6_begin 0 = .ok (.aload_n 0, 1) := by decide +kernel
theorem dX6_begin_1 : decode cX6_begin 1 = .ok (.iload_n 1, 1) := by decide +kernel
theorem dX6_begin_2 : decode cX6_begin 2 = .ok (.putfield 15, 3) := by decide +kernel
theorem dX6_begin_5 : decode cX6_begin 5 = .ok (.aload_n 0, 1) := by decide +kernel
theorem dX6_begin_6 : decode cX6_begin 6 = .ok (.iconst 0, 1) := by decide +kernel
theorem dX6_begin_7 : decode cX6_begin 7 = .ok (.putfield 19, 3) := by decide +kernel
theorem dX6_begin_10 : decode cX6_begin 10 = .ok (.aload_n 0, 1) := by decide +kernel
theorem dX6_begin_11 : decode cX6_begin 11 = .ok (.iconst 0, 1) := by decide +kernel
theorem dX6_begin_12 : decode cX6_begin 12 = .ok (.putfield 48, 3) := by decide +kernel
theorem dX6_begin_15 : decode cX6_begin 15 = .ok (.aload_n 0, 1) := by decide +kernel
theorem dX6_begin_16 : decode cX6_begin 16 = .ok (.iconst 0, 1) := by decide +kernel
theorem dX6_begin_17 : decode cX6_begin 17 = .ok (.putfield 51, 3) := by decide +kernel
theorem dX6_begin_20 : decode cX6_begin 20 = .ok (.aload_n 0, 1) := by decide +kernel
theorem dX6_begin_21 : decode cX6_begin 21 = .ok (.invokevirtual 70, 3) := by decide +kernel
theorem dX6_begin_24 : decode cX6_begin 24 = .ok (.return_, 1) := by decide +kernel
def f_X3_parseRecord_108  : Nat → Int32 → Int32 → ST → Option (Int32 × ST)
  | 0, _, _, _ => none
  | n + 1, x2, x3, σ => if 8 < x3 then (some (0, σ)) else ((f_X6_advance   σ).bind fun q1 => (f_X3_parseField  x2 x3 q1).bind fun q3 => if q3.1 = 0 then (some (0, q3.2)) else (if (q3.2.1 2 4) = 59 then ((f_X6_advance   q3.2).bind fun q7 => some (1, q7)) else (if (q3.2.1 2 4) = 44 then (f_X3_parseRecord_108  n x2 (x3 + 1) q3.2) else ((f_X6_refuse  1 q3.2).bind fun q5 => if q5.1 = 0 ∨ q5.1 = 1 then some (q5.1, q5.2) else none))))
def f_X3_parseRecord (p0 : Int32) (σ : ST) : Option (Int32 × ST) := (f_X5_recordsOf 20 p0 σ).bind fun q1 => if q1.1 < 6 then ((f_X6_advance   q1.2).bind fun q3 => if (q3.1 2 4) = 3 then ((f_X5_recordNamed 20 p0 (q3.2.1 2 7) q3).bind fun q5 => if q5.1 = (-1) then ((f_X5_recordsOf 20 p0 q5.2).bind fun q7 => (f_X5_addRecord 20 p0 (q7.2.2.1 2 7) q7.2).bind fun q9 => f_X3_parseRecord_108  FU ((p0 * 6) + q7.1) 0 q9) else ((f_X6_refuse  3 q5.2).bind fun q11 => if q11.1 = 0 ∨ q11.1 = 1 then some (q11.1, q11.2) else none)) else ((f_X6_refuse  1 q3).bind fun q13 => if q13.1 = 0 ∨ q13.1 = 1 then some (q13.1, q13.2) else none)) else ((f_X6_refuse  4 q1.2).bind fun q15 => if q15.1 = 0 ∨ q15.1 = 1 then some (q15.1, q15.2) else none)

set_option maxRecDepth 100000 in
set_option maxHeartbeats 4000000 in
theorem b_X3_parseRecord_108 {p : Program} {l : Launch} {e : Env} {s : State} {m : MethodId} {args : Array Value} {below : List Frame} {meth : Method} {c : Code} {dC : Nat → ClassId} {dI : Nat → Nat → Nat} {a : Nat → Nat} {k : Nat → ClassId} {A : Nat → Prop} {q : Int32 × ST} (hC : CxA p s m args meth c dC dI k A cX3_parseRecord RX3 (some .boolean) 4)   : ∀ (n : Nat) (x2 : Int32) (x3 : Int32) (σ : ST), f_X3_parseRecord_108  n x2 x3 σ = some q → GoA p l e ({ frames := 165, cells := 0, slots := 0, locals := 4278 } : Room) s m args below meth c (MQ below (qAi dC dI a k A q) args s 0 0 A) dC dI a k A 4 108 σ [(0, .ref (a 36)), (2, .int x2), (3, .int x3)] [] := by
  intro n
  induction n with
  | zero =>
    intro x2 x3 σ h
    rw [f_X3_parseRecord_108] at h
    cases h
  | succ n ih =>
    intro x2 x3 σ h
    have hC0 := hC
    obtain ⟨hx, hb, hr, hml, hown, hts, hlocks, hA, hN, hK⟩ := hC0
    intro H locs ls hP hD hS hl
    have hD0 : ∀ σ1 : ST, va_D A (wA a k σ1) := fun σ1 => wA_D hD
    rw [f_X3_parseRecord_108] at h
    refine lv_iload_n hx hb dX3_parseRecord_108 rfl (lv_at hl 2 rfl) ?_
    refine lv_bipush (v := 8) hx hb dX3_parseRecord_109 (by decide) ?_
    refine lv_icmp_gt (tgt := 180) hx hb dX3_parseRecord_111 (by decide) (fun hc => ?_) (fun hc => ?_)
    · replace h := ip hc h
      refine lv_iconst (v := 0) hx hb dX3_parseRecord_180 (by decide) ?_
      obtain rfl := Option.some.inj h
      exact W.zret hx hb hr rfl (fun t ht hW => ⟨⟨_, (), rfl, rfl, ⟨by rw [ht]; exact hP, va_K.moved hW.alike hK, hD⟩⟩, hS.F ht⟩) hS.2.2 dX3_parseRecord_181
    · replace h := iq hc h
      refine lv_aload_n hx hb dX3_parseRecord_114 rfl (lv_at hl 0 rfl) ?_
      refine va_get (D := (dC, dI)) (ci := 3) (C := RX3) (T := TX3) (N := 2) hx hb hts inlX3 hown hK hP 36 gA_36 rfl 0 (by decide) (hts (.fieldLink RX3 9 "ShapeReader$PlanText" "tokens" "LShapeReader$Tokens;") mw_7_1) (fun _ h9 => h9) rfl dX3_parseRecord_115 ?_
      obtain ⟨q1, hc, h⟩ := ib h
      have hF := va_frees hD hS hA
      refine va_callv (va_runV (As := []) (rest := []) ⟨hx, hb, hml, hown, hts⟩ (s_X6_advance hc) (cwV 0 hts (gV mw_8_5 mw_8_6 mw_8_7 mw_0_10 mw_51_8) rfl rfl rfl (by decide +kernel) ⟨(Nat.le_of_ble_eq_true rfl), (Nat.le_of_ble_eq_true rfl)⟩) (vV (ci := 6) (q0 := 2) hK hP hD hN rfl gA_2) rfl rfl hl.1 rfl (lv_room (Nat.le_of_ble_eq_true rfl)) dX3_parseRecord_118 ⟨(Nat.le_of_ble_eq_true rfl), (Nat.le_of_ble_eq_true rfl)⟩) hS (fun q _ h => hF q h) hF (fun u t H locs ht hvm hw hB _ _ hS => ?_)
      replace hP : va_P (dC, dI) vwCl (wA a k q1) H := by rw [← ht]; exact hB.1
      replace hD := hD0 (q1)
      clear hB hF
      refine lv_aload_n hx hb dX3_parseRecord_121 rfl (lv_at hl 0 rfl) ?_
      refine lv_iload_n hx hb dX3_parseRecord_122 rfl (lv_at hl 1 rfl) ?_
      refine lv_iload_n hx hb dX3_parseRecord_123 rfl (lv_at hl 2 rfl) ?_
      obtain ⟨q3, hc, h⟩ := ib h
      have hF := va_frees hD hS hA
      refine va_calli (va_runV (As := [.int x2, .int x3]) (rest := []) ⟨hx, hb, hml, hown, hts⟩ (s_X3_parseField hc) (cwV 2 hts (gV mw_8_15 mw_8_16 mw_8_17 mw_0_7 mw_48_24) rfl rfl rfl (by decide +kernel) ⟨(Nat.le_of_ble_eq_true rfl), (Nat.le_of_ble_eq_true rfl)⟩) (vV (ci := 3) (q0 := 36) hK hP hD hN rfl gA_36) rfl rfl hl.1 rfl (lv_room (Nat.le_of_ble_eq_true rfl)) dX3_parseRecord_124 ⟨(Nat.le_of_ble_eq_true rfl), (Nat.le_of_ble_eq_true rfl)⟩) hS (fun q _ h => hF q h) hF (fun r4 u t H locs ht hvm hw hB _ _ hS => ?_)
      obtain rfl : r4 = q3.1 := hw
      replace hP : va_P (dC, dI) vwCl (wA a k q3.2) H := by rw [← ht]; exact hB.1
      replace hD := hD0 (q3.2)
      clear hB hF
      refine lv_if_ne (tgt := 132) hx hb dX3_parseRecord_127 (by decide) (fun hc => ?_) (fun hc => ?_)
      · replace h := iq hc h
        refine lv_aload_n hx hb dX3_parseRecord_132 rfl (lv_at hl 0 rfl) ?_
        refine va_get (D := (dC, dI)) (ci := 3) (C := RX3) (T := TX3) (N := 2) hx hb hts inlX3 hown hK hP 36 gA_36 rfl 0 (by decide) (hts (.fieldLink RX3 9 "ShapeReader$PlanText" "tokens" "LShapeReader$Tokens;") mw_7_1) (fun _ h9 => h9) rfl dX3_parseRecord_133 ?_
        refine va_get (D := (dC, dI)) (ci := 6) (C := RX6) (T := TX6) (N := 14) hx hb hts inlX6 hown hK hP 2 gA_2 rfl 4 (by decide) (hts (.fieldLink RX3 37 "ShapeReader$Tokens" "kind" "I") mw_7_13) (fun _ h9 => h9) rfl dX3_parseRecord_136 ?_
        refine lv_bipush (v := 59) hx hb dX3_parseRecord_139 (by decide) ?_
        refine lv_icmp_ne (tgt := 153) hx hb dX3_parseRecord_141 (by decide) (fun hc => ?_) (fun hc => ?_)
        · replace h := iq hc h
          refine lv_aload_n hx hb dX3_parseRecord_153 rfl (lv_at hl 0 rfl) ?_
          refine va_get (D := (dC, dI)) (ci := 3) (C := RX3) (T := TX3) (N := 2) hx hb hts inlX3 hown hK hP 36 gA_36 rfl 0 (by decide) (hts (.fieldLink RX3 9 "ShapeReader$PlanText" "tokens" "LShapeReader$Tokens;") mw_7_1) (fun _ h9 => h9) rfl dX3_parseRecord_154 ?_
          refine va_get (D := (dC, dI)) (ci := 6) (C := RX6) (T := TX6) (N := 14) hx hb hts inlX6 hown hK hP 2 gA_2 rfl 4 (by decide) (hts (.fieldLink RX3 37 "ShapeReader$Tokens" "kind" "I") mw_7_13) (fun _ h9 => h9) rfl dX3_parseRecord_157 ?_
          refine lv_bipush (v := 44) hx hb dX3_parseRecord_160 (by decide) ?_
          refine lv_icmp_eq (tgt := 174) hx hb dX3_parseRecord_162 (by decide) (fun hc => ?_) (fun hc => ?_)
          · replace h := ip hc h
            refine lv_iinc (v := (x3 + 1)) (lv' := [(3, .int (x3 + 1)), (0, .ref (a 36)), (2, .int x2)]) hx hb dX3_parseRecord_174 hl (k := 2) rfl rfl (by decide) rfl (fun ls hl => ?_)
            refine lv_goto (tgt := 108) hx hb dX3_parseRecord_177 (by decide) ?_
            exact ih _ _ _ h _ _ _ hP hD hS (lv_sub hl [1, 2, 0] rfl)
          · replace h := iq hc h
            refine lv_aload_n hx hb dX3_parseRecord_165 rfl (lv_at hl 0 rfl) ?_
            refine va_get (D := (dC, dI)) (ci := 3) (C := RX3) (T := TX3) (N := 2) hx hb hts inlX3 hown hK hP 36 gA_36 rfl 0 (by decide) (hts (.fieldLink RX3 9 "ShapeReader$PlanText" "tokens" "LShapeReader$Tokens;") mw_7_1) (fun _ h9 => h9) rfl dX3_parseRecord_166 ?_
            refine lv_iconst (v := 1) hx hb dX3_parseRecord_169 (by decide) ?_
            obtain ⟨q5, hc, h⟩ := ib h
            have hF := va_frees hD hS hA
            refine va_calli (va_runV (As := [.int 1]) (rest := []) ⟨hx, hb, hml, hown, hts⟩ (s_X6_refuse hc) (cwV 1 hts (gV mw_7_14 mw_7_15 mw_7_16 mw_0_10 mw_51_4) rfl rfl rfl (by decide +kernel) ⟨(Nat.le_of_ble_eq_true rfl), (Nat.le_of_ble_eq_true rfl)⟩) (vV (ci := 6) (q0 := 2) hK hP hD hN rfl gA_2) rfl rfl hl.1 rfl (lv_room (Nat.le_of_ble_eq_true rfl)) dX3_parseRecord_170 ⟨(Nat.le_of_ble_eq_true rfl), (Nat.le_of_ble_eq_true rfl)⟩) hS (fun q _ h => hF q h) hF (fun r6 u t H locs ht hvm hw hB _ _ hS => ?_)
            obtain rfl : r6 = q5.1 := hw
            replace hP : va_P (dC, dI) vwCl (wA a k q5.2) H := by rw [← ht]; exact hB.1
            replace hD := hD0 (q5.2)
            clear hB hF
            obtain ⟨hg, h⟩ := ig h
            obtain rfl := Option.some.inj h
            exact W.zret hx hb hr (zn hg) (fun t ht hW => ⟨⟨_, (), rfl, rfl, ⟨by rw [ht]; exact hP, va_K.moved hW.alike hK, hD⟩⟩, hS.F ht⟩) hS.2.2 dX3_parseRecord_173
        · replace h := ip hc h
          refine lv_aload_n hx hb dX3_parseRecord_144 rfl (lv_at hl 0 rfl) ?_
          refine va_get (D := (dC, dI)) (ci := 3) (C := RX3) (T := TX3) (N := 2) hx hb hts inlX3 hown hK hP 36 gA_36 rfl 0 (by decide) (hts (.fieldLink RX3 9 "ShapeReader$PlanText" "tokens" "LShapeReader$Tokens;") mw_7_1) (fun _ h9 => h9) rfl dX3_parseRecord_145 ?_
          obtain ⟨q7, hc, h⟩ := ib h
          have hF := va_frees hD hS hA
          refine va_callv (va_runV (As := []) (rest := []) ⟨hx, hb, hml, hown, hts⟩ (s_X6_advance hc) (cwV 0 hts (gV mw_8_5 mw_8_6 mw_8_7 mw_0_10 mw_51_8) rfl rfl rfl (by decide +kernel) ⟨(Nat.le_of_ble_eq_true rfl), (Nat.le_of_ble_eq_true rfl)⟩) (vV (ci := 6) (q0 := 2) hK hP hD hN rfl gA_2) rfl rfl hl.1 rfl (lv_room (Nat.le_of_ble_eq_true rfl)) dX3_parseRecord_148 ⟨(Nat.le_of_ble_eq_true rfl), (Nat.le_of_ble_eq_true rfl)⟩) hS (fun q _ h => hF q h) hF (fun u t H locs ht hvm hw hB _ _ hS => ?_)
          replace hP : va_P (dC, dI) vwCl (wA a k q7) H := by rw [← ht]; exact hB.1
          replace hD := hD0 (q7)
          clear hB hF
          refine lv_iconst (v := 1) hx hb dX3_parseRecord_151 (by decide) ?_
          obtain rfl := Option.some.inj h
          exact W.zret hx hb hr rfl (fun t ht hW => ⟨⟨_, (), rfl, rfl, ⟨by rw [ht]; exact hP, va_K.moved hW.alike hK, hD⟩⟩, hS.F ht⟩) hS.2.2 dX3_parseRecord_152
      · replace h := ip hc h
        refine lv_iconst (v := 0) hx hb dX3_parseRecord_130 (by decide) ?_
        obtain rfl := Option.some.inj h
        exact W.zret hx hb hr rfl (fun t ht hW => ⟨⟨_, (), rfl, rfl, ⟨by rw [ht]; exact hP, va_K.moved hW.alike hK, hD⟩⟩, hS.F ht⟩) hS.2.2 dX3_parseRecord_131

set_option maxRecDepth 100000 in
set_option maxHeartbeats 4000000 in
theorem b_X3_parseRecord_e {p : Program} {l : Launch} {e : Env} {s : State} {m : MethodId} {args : Array Value} {below : List Frame} {meth : Method} {c : Code} {dC : Nat → ClassId} {dI : Nat → Nat → Nat} {a : Nat → Nat} {k : Nat → ClassId} {A : Nat → Prop} {q : Int32 × ST} (hC : CxA p s m args meth c dC dI k A cX3_parseRecord RX3 (some .boolean) 4)   {p0 : Int32} {σ : ST} (h : f_X3_parseRecord  p0 σ = some q) : GoA p l e ({ frames := 165, cells := 0, slots := 0, locals := 4278 } : Room) s m args below meth c (MQ below (qAi dC dI a k A q) args s 0 0 A) dC dI a k A 4 0 σ (lv_args 0 [.ref (a 36), .int p0]) [] := by
  have hC0 := hC
  obtain ⟨hx, hb, hr, hml, hown, hts, hlocks, hA, hN, hK⟩ := hC0
  intro H locs ls hP hD hS hl
  have hD0 : ∀ σ1 : ST, va_D A (wA a k σ1) := fun σ1 => wA_D hD
  replace hl : lv_has ls 4 [(0, .ref (a 36)), (1, .int p0)] := hl
  unfold f_X3_parseRecord at h
  refine lv_aload_n hx hb dX3_parseRecord_0 rfl (lv_at hl 0 rfl) ?_
  refine va_get (D := (dC, dI)) (ci := 3) (C := RX3) (T := TX3) (N := 2) hx hb hts inlX3 hown hK hP 36 gA_36 rfl 1 (by decide) (hts (.fieldLink RX3 15 "ShapeReader$PlanText" "draft" "LShapeReader$Shapes;") mw_7_2) (fun _ h9 => h9) rfl dX3_parseRecord_1 ?_
  refine lv_iload_n hx hb dX3_parseRecord_4 rfl (lv_at hl 1 rfl) ?_
  obtain ⟨q1, hc, h⟩ := ib h
  have hF := va_frees hD hS hA
  refine va_calli (va_runV (As := [.int p0]) (rest := []) ⟨hx, hb, hml, hown, hts⟩ (s_X5_recordsOf_20 hc) (cwV 1 hts (gV mw_7_6 mw_1_13 mw_1_14 mw_0_9 mw_49_27) rfl rfl rfl (by decide +kernel) ⟨(Nat.le_of_ble_eq_true rfl), (Nat.le_of_ble_eq_true rfl)⟩) (vV (ci := 5) (q0 := 20) hK hP hD hN rfl gA_20) rfl rfl hl.1 rfl (lv_room (Nat.le_of_ble_eq_true rfl)) dX3_parseRecord_5 ⟨(Nat.le_of_ble_eq_true rfl), (Nat.le_of_ble_eq_true rfl)⟩) hS (fun q _ h => hF q h) hF (fun r2 u t H locs ht hvm hw hB _ _ hS => ?_)
  obtain rfl : r2 = q1.1 := hw
  replace hP : va_P (dC, dI) vwCl (wA a k q1.2) H := by rw [← ht]; exact hB.1
  replace hD := hD0 (q1.2)
  clear hB hF
  refine lv_bipush (v := 6) hx hb dX3_parseRecord_8 (by decide) ?_
  refine lv_icmp_lt (tgt := 22) hx hb dX3_parseRecord_10 (by decide) (fun hc => ?_) (fun hc => ?_)
  · replace h := ip hc h
    refine lv_aload_n hx hb dX3_parseRecord_22 rfl (lv_at hl 0 rfl) ?_
    refine va_get (D := (dC, dI)) (ci := 3) (C := RX3) (T := TX3) (N := 2) hx hb hts inlX3 hown hK hP 36 gA_36 rfl 0 (by decide) (hts (.fieldLink RX3 9 "ShapeReader$PlanText" "tokens" "LShapeReader$Tokens;") mw_7_1) (fun _ h9 => h9) rfl dX3_parseRecord_23 ?_
    obtain ⟨q3, hc, h⟩ := ib h
    have hF := va_frees hD hS hA
    refine va_callv (va_runV (As := []) (rest := []) ⟨hx, hb, hml, hown, hts⟩ (s_X6_advance hc) (cwV 0 hts (gV mw_8_5 mw_8_6 mw_8_7 mw_0_10 mw_51_8) rfl rfl rfl (by decide +kernel) ⟨(Nat.le_of_ble_eq_true rfl), (Nat.le_of_ble_eq_true rfl)⟩) (vV (ci := 6) (q0 := 2) hK hP hD hN rfl gA_2) rfl rfl hl.1 rfl (lv_room (Nat.le_of_ble_eq_true rfl)) dX3_parseRecord_26 ⟨(Nat.le_of_ble_eq_true rfl), (Nat.le_of_ble_eq_true rfl)⟩) hS (fun q _ h => hF q h) hF (fun u t H locs ht hvm hw hB _ _ hS => ?_)
    replace hP : va_P (dC, dI) vwCl (wA a k q3) H := by rw [← ht]; exact hB.1
    replace hD := hD0 (q3)
    clear hB hF
    refine lv_aload_n hx hb dX3_parseRecord_29 rfl (lv_at hl 0 rfl) ?_
    refine va_get (D := (dC, dI)) (ci := 3) (C := RX3) (T := TX3) (N := 2) hx hb hts inlX3 hown hK hP 36 gA_36 rfl 0 (by decide) (hts (.fieldLink RX3 9 "ShapeReader$PlanText" "tokens" "LShapeReader$Tokens;") mw_7_1) (fun _ h9 => h9) rfl dX3_parseRecord_30 ?_
    refine va_get (D := (dC, dI)) (ci := 6) (C := RX6) (T := TX6) (N := 14) hx hb hts inlX6 hown hK hP 2 gA_2 rfl 4 (by decide) (hts (.fieldLink RX3 37 "ShapeReader$Tokens" "kind" "I") mw_7_13) (fun _ h9 => h9) rfl dX3_parseRecord_33 ?_
    refine lv_iconst (v := 3) hx hb dX3_parseRecord_36 (by decide) ?_
    refine lv_icmp_eq (tgt := 49) hx hb dX3_parseRecord_37 (by decide) (fun hc => ?_) (fun hc => ?_)
    · replace h := ip hc h
      refine lv_aload_n hx hb dX3_parseRecord_49 rfl (lv_at hl 0 rfl) ?_
      refine va_get (D := (dC, dI)) (ci := 3) (C := RX3) (T := TX3) (N := 2) hx hb hts inlX3 hown hK hP 36 gA_36 rfl 1 (by decide) (hts (.fieldLink RX3 15 "ShapeReader$PlanText" "draft" "LShapeReader$Shapes;") mw_7_2) (fun _ h9 => h9) rfl dX3_parseRecord_50 ?_
      refine lv_iload_n hx hb dX3_parseRecord_53 rfl (lv_at hl 1 rfl) ?_
      refine lv_aload_n hx hb dX3_parseRecord_54 rfl (lv_at hl 0 rfl) ?_
      refine va_get (D := (dC, dI)) (ci := 3) (C := RX3) (T := TX3) (N := 2) hx hb hts inlX3 hown hK hP 36 gA_36 rfl 0 (by decide) (hts (.fieldLink RX3 9 "ShapeReader$PlanText" "tokens" "LShapeReader$Tokens;") mw_7_1) (fun _ h9 => h9) rfl dX3_parseRecord_55 ?_
      refine va_get (D := (dC, dI)) (ci := 6) (C := RX6) (T := TX6) (N := 14) hx hb hts inlX6 hown hK hP 2 gA_2 rfl 7 (by decide) (hts (.fieldLink RX3 66 "ShapeReader$Tokens" "letters" "J") mw_8_8) (fun _ h9 => h9) rfl dX3_parseRecord_58 ?_
      obtain ⟨q5, hc, h⟩ := ib h
      have hF := va_frees hD hS hA
      refine va_calli (va_runV (As := [.int p0, .long (q3.2.1 2 7)]) (rest := []) ⟨hx, hb, hml, hown, hts⟩ (s_X5_recordNamed_20 hc) (cwV 2 hts (gV mw_8_9 mw_8_10 mw_8_11 mw_0_9 mw_50_13) rfl rfl rfl (by decide +kernel) ⟨(Nat.le_of_ble_eq_true rfl), (Nat.le_of_ble_eq_true rfl)⟩) (vV (ci := 5) (q0 := 20) hK hP hD hN rfl gA_20) rfl rfl hl.1 rfl (lv_room (Nat.le_of_ble_eq_true rfl)) dX3_parseRecord_61 ⟨(Nat.le_of_ble_eq_true rfl), (Nat.le_of_ble_eq_true rfl)⟩) hS (fun q _ h => hF q h) hF (fun r6 u t H locs ht hvm hw hB _ _ hS => ?_)
      obtain rfl : r6 = q5.1 := hw
      replace hP : va_P (dC, dI) vwCl (wA a k q5.2) H := by rw [← ht]; exact hB.1
      replace hD := hD0 (q5.2)
      clear hB hF
      refine lv_iconst (v := (-1)) hx hb dX3_parseRecord_64 (by decide) ?_
      refine lv_icmp_eq (tgt := 77) hx hb dX3_parseRecord_65 (by decide) (fun hc => ?_) (fun hc => ?_)
      · replace h := ip hc h
        refine lv_iload_n hx hb dX3_parseRecord_77 rfl (lv_at hl 1 rfl) ?_
        refine lv_bipush (v := 6) hx hb dX3_parseRecord_78 (by decide) ?_
        refine lv_imul hx hb dX3_parseRecord_80 ?_
        refine lv_aload_n hx hb dX3_parseRecord_81 rfl (lv_at hl 0 rfl) ?_
        refine va_get (D := (dC, dI)) (ci := 3) (C := RX3) (T := TX3) (N := 2) hx hb hts inlX3 hown hK hP 36 gA_36 rfl 1 (by decide) (hts (.fieldLink RX3 15 "ShapeReader$PlanText" "draft" "LShapeReader$Shapes;") mw_7_2) (fun _ h9 => h9) rfl dX3_parseRecord_82 ?_
        refine lv_iload_n hx hb dX3_parseRecord_85 rfl (lv_at hl 1 rfl) ?_
        obtain ⟨q7, hc, h⟩ := ib h
        have hF := va_frees hD hS hA
        refine va_calli (va_runV (As := [.int p0]) (rest := [.int (p0 * 6)]) ⟨hx, hb, hml, hown, hts⟩ (s_X5_recordsOf_20 hc) (cwV 1 hts (gV mw_7_6 mw_1_13 mw_1_14 mw_0_9 mw_49_27) rfl rfl rfl (by decide +kernel) ⟨(Nat.le_of_ble_eq_true rfl), (Nat.le_of_ble_eq_true rfl)⟩) (vV (ci := 5) (q0 := 20) hK hP hD hN rfl gA_20) rfl rfl hl.1 rfl (lv_room (Nat.le_of_ble_eq_true rfl)) dX3_parseRecord_86 ⟨(Nat.le_of_ble_eq_true rfl), (Nat.le_of_ble_eq_true rfl)⟩) hS (fun q _ h => hF q h) hF (fun r8 u t H locs ht hvm hw hB _ _ hS => ?_)
        obtain rfl : r8 = q7.1 := hw
        replace hP : va_P (dC, dI) vwCl (wA a k q7.2) H := by rw [← ht]; exact hB.1
        replace hD := hD0 (q7.2)
        clear hB hF
        refine lv_iadd hx hb dX3_parseRecord_89 ?_
        refine lv_istore_n (lv' := [(2, .int ((p0 * 6) + q7.1)), (0, .ref (a 36)), (1, .int p0)]) hx hb dX3_parseRecord_90 rfl hl (by decide) rfl (fun ls hl => ?_)
        refine lv_aload_n hx hb dX3_parseRecord_91 rfl (lv_at hl 1 rfl) ?_
        refine va_get (D := (dC, dI)) (ci := 3) (C := RX3) (T := TX3) (N := 2) hx hb hts inlX3 hown hK hP 36 gA_36 rfl 1 (by decide) (hts (.fieldLink RX3 15 "ShapeReader$PlanText" "draft" "LShapeReader$Shapes;") mw_7_2) (fun _ h9 => h9) rfl dX3_parseRecord_92 ?_
        refine lv_iload_n hx hb dX3_parseRecord_95 rfl (lv_at hl 2 rfl) ?_
        refine lv_aload_n hx hb dX3_parseRecord_96 rfl (lv_at hl 1 rfl) ?_
        refine va_get (D := (dC, dI)) (ci := 3) (C := RX3) (T := TX3) (N := 2) hx hb hts inlX3 hown hK hP 36 gA_36 rfl 0 (by decide) (hts (.fieldLink RX3 9 "ShapeReader$PlanText" "tokens" "LShapeReader$Tokens;") mw_7_1) (fun _ h9 => h9) rfl dX3_parseRecord_97 ?_
        refine va_get (D := (dC, dI)) (ci := 6) (C := RX6) (T := TX6) (N := 14) hx hb hts inlX6 hown hK hP 2 gA_2 rfl 7 (by decide) (hts (.fieldLink RX3 66 "ShapeReader$Tokens" "letters" "J") mw_8_8) (fun _ h9 => h9) rfl dX3_parseRecord_100 ?_
        obtain ⟨q9, hc, h⟩ := ib h
        have hF := va_frees hD hS hA
        refine va_callv (va_runV (As := [.int p0, .long (q7.2.2.1 2 7)]) (rest := []) ⟨hx, hb, hml, hown, hts⟩ (s_X5_addRecord_20 hc) (cwV 2 hts (gV mw_8_12 mw_8_13 mw_8_14 mw_0_9 mw_50_18) rfl rfl rfl (by decide +kernel) ⟨(Nat.le_of_ble_eq_true rfl), (Nat.le_of_ble_eq_true rfl)⟩) (vV (ci := 5) (q0 := 20) hK hP hD hN rfl gA_20) rfl rfl hl.1 rfl (lv_room (Nat.le_of_ble_eq_true rfl)) dX3_parseRecord_103 ⟨(Nat.le_of_ble_eq_true rfl), (Nat.le_of_ble_eq_true rfl)⟩) hS (fun q _ h => hF q h) hF (fun u t H locs ht hvm hw hB _ _ hS => ?_)
        replace hP : va_P (dC, dI) vwCl (wA a k q9) H := by rw [← ht]; exact hB.1
        replace hD := hD0 (q9)
        clear hB hF
        refine lv_iconst (v := 0) hx hb dX3_parseRecord_106 (by decide) ?_
        refine lv_istore_n (lv' := [(3, .int 0), (2, .int ((p0 * 6) + q7.1)), (0, .ref (a 36)), (1, .int p0)]) hx hb dX3_parseRecord_107 rfl hl (by decide) rfl (fun ls hl => ?_)
        exact b_X3_parseRecord_108 hC FU _ _ _ h _ _ _ hP hD hS (lv_sub hl [2, 1, 0] rfl)
      · replace h := iq hc h
        refine lv_aload_n hx hb dX3_parseRecord_68 rfl (lv_at hl 0 rfl) ?_
        refine va_get (D := (dC, dI)) (ci := 3) (C := RX3) (T := TX3) (N := 2) hx hb hts inlX3 hown hK hP 36 gA_36 rfl 0 (by decide) (hts (.fieldLink RX3 9 "ShapeReader$PlanText" "tokens" "LShapeReader$Tokens;") mw_7_1) (fun _ h9 => h9) rfl dX3_parseRecord_69 ?_
        refine lv_iconst (v := 3) hx hb dX3_parseRecord_72 (by decide) ?_
        obtain ⟨q11, hc, h⟩ := ib h
        have hF := va_frees hD hS hA
        refine va_calli (va_runV (As := [.int 3]) (rest := []) ⟨hx, hb, hml, hown, hts⟩ (s_X6_refuse hc) (cwV 1 hts (gV mw_7_14 mw_7_15 mw_7_16 mw_0_10 mw_51_4) rfl rfl rfl (by decide +kernel) ⟨(Nat.le_of_ble_eq_true rfl), (Nat.le_of_ble_eq_true rfl)⟩) (vV (ci := 6) (q0 := 2) hK hP hD hN rfl gA_2) rfl rfl hl.1 rfl (lv_room (Nat.le_of_ble_eq_true rfl)) dX3_parseRecord_73 ⟨(Nat.le_of_ble_eq_true rfl), (Nat.le_of_ble_eq_true rfl)⟩) hS (fun q _ h => hF q h) hF (fun r12 u t H locs ht hvm hw hB _ _ hS => ?_)
        obtain rfl : r12 = q11.1 := hw
        replace hP : va_P (dC, dI) vwCl (wA a k q11.2) H := by rw [← ht]; exact hB.1
        replace hD := hD0 (q11.2)
        clear hB hF
        obtain ⟨hg, h⟩ := ig h
        obtain rfl := Option.some.inj h
        exact W.zret hx hb hr (zn hg) (fun t ht hW => ⟨⟨_, (), rfl, rfl, ⟨by rw [ht]; exact hP, va_K.moved hW.alike hK, hD⟩⟩, hS.F ht⟩) hS.2.2 dX3_parseRecord_76
    · replace h := iq hc h
      refine lv_aload_n hx hb dX3_parseRecord_40 rfl (lv_at hl 0 rfl) ?_
      refine va_get (D := (dC, dI)) (ci := 3) (C := RX3) (T := TX3) (N := 2) hx hb hts inlX3 hown hK hP 36 gA_36 rfl 0 (by decide) (hts (.fieldLink RX3 9 "ShapeReader$PlanText" "tokens" "LShapeReader$Tokens;") mw_7_1) (fun _ h9 => h9) rfl dX3_parseRecord_41 ?_
      refine lv_iconst (v := 1) hx hb dX3_parseRecord_44 (by decide) ?_
      obtain ⟨q13, hc, h⟩ := ib h
      have hF := va_frees hD hS hA
      refine va_calli (va_runV (As := [.int 1]) (rest := []) ⟨hx, hb, hml, hown, hts⟩ (s_X6_refuse hc) (cwV 1 hts (gV mw_7_14 mw_7_15 mw_7_16 mw_0_10 mw_51_4) rfl rfl rfl (by decide +kernel) ⟨(Nat.le_of_ble_eq_true rfl), (Nat.le_of_ble_eq_true rfl)⟩) (vV (ci := 6) (q0 := 2) hK hP hD hN rfl gA_2) rfl rfl hl.1 rfl (lv_room (Nat.le_of_ble_eq_true rfl)) dX3_parseRecord_45 ⟨(Nat.le_of_ble_eq_true rfl), (Nat.le_of_ble_eq_true rfl)⟩) hS (fun q _ h => hF q h) hF (fun r14 u t H locs ht hvm hw hB _ _ hS => ?_)
      obtain rfl : r14 = q13.1 := hw
      replace hP : va_P (dC, dI) vwCl (wA a k q13.2) H := by rw [← ht]; exact hB.1
      replace hD := hD0 (q13.2)
      clear hB hF
      obtain ⟨hg, h⟩ := ig h
      obtain rfl := Option.some.inj h
      exact W.zret hx hb hr (zn hg) (fun t ht hW => ⟨⟨_, (), rfl, rfl, ⟨by rw [ht]; exact hP, va_K.moved hW.alike hK, hD⟩⟩, hS.F ht⟩) hS.2.2 dX3_parseRecord_48
  · replace h := iq hc h
    refine lv_aload_n hx hb dX3_parseRecord_13 rfl (lv_at hl 0 rfl) ?_
    refine va_get (D := (dC, dI)) (ci := 3) (C := RX3) (T := TX3) (N := 2) hx hb hts inlX3 hown hK hP 36 gA_36 rfl 0 (by decide) (hts (.fieldLink RX3 9 "ShapeReader$PlanText" "tokens" "LShapeReader$Tokens;") mw_7_1) (fun _ h9 => h9) rfl dX3_parseRecord_14 ?_
    refine lv_iconst (v := 4) hx hb dX3_parseRecord_17 (by decide) ?_
    obtain ⟨q15, hc, h⟩ := ib h
    have hF := va_frees hD hS hA
    refine va_calli (va_runV (As := [.int 4]) (rest := []) ⟨hx, hb, hml, hown, hts⟩ (s_X6_refuse hc) (cwV 1 hts (gV mw_7_14 mw_7_15 mw_7_16 mw_0_10 mw_51_4) rfl rfl rfl (by decide +kernel) ⟨(Nat.le_of_ble_eq_true rfl), (Nat.le_of_ble_eq_true rfl)⟩) (vV (ci := 6) (q0 := 2) hK hP hD hN rfl gA_2) rfl rfl hl.1 rfl (lv_room (Nat.le_of_ble_eq_true rfl)) dX3_parseRecord_18 ⟨(Nat.le_of_ble_eq_true rfl), (Nat.le_of_ble_eq_true rfl)⟩) hS (fun q _ h => hF q h) hF (fun r16 u t H locs ht hvm hw hB _ _ hS => ?_)
    obtain rfl : r16 = q15.1 := hw
    replace hP : va_P (dC, dI) vwCl (wA a k q15.2) H := by rw [← ht]; exact hB.1
    replace hD := hD0 (q15.2)
    clear hB hF
    obtain ⟨hg, h⟩ := ig h
    obtain rfl := Option.some.inj h
    exact W.zret hx hb hr (zn hg) (fun t ht hW => ⟨⟨_, (), rfl, rfl, ⟨by rw [ht]; exact hP, va_K.moved hW.alike hK, hD⟩⟩, hS.F ht⟩) hS.2.2 dX3_parseRecord_21

theorem s_X3_parseRecord {l : Launch} {dC : Nat → ClassId} {dI : Nat → Nat → Nat} {a : Nat → Nat} {k : Nat → ClassId} {sz : Nat} {p0 : Int32} {σ : ST} {q : Int32 × ST} (h : f_X3_parseRecord  p0 σ = some q) : Met l yX3_parseRecord (.code yX3_parseRecord cX3_parseRecord 4 (some .boolean) :: pw) ({ frames := 165, cells := 0, slots := 0, locals := 4278 } : Room) (va_Pc [.ref (a 36), .int p0] (vPre dC dI (wA a k σ) (tA k) sz)) (qAi dC dI a k (va_A (wA a k σ) sz) q) 0 0 (va_A (wA a k σ) sz) := metA (fun A => qAi dC dI a k A q) (plainFor_of_name (by decide)) (Nat.le_of_ble_eq_true rfl) (fun _ _ _ _ _ _ _ _ hC => b_X3_parseRecord_e hC h)

def f_X5_askedPlace (b : Nat) (p0 : Int32) (σ : ST) : Option (Int32 × ST) := (f_X5_isType b p0 σ).bind fun q1 => if q1.1 = 0 then (some (0, q1.2)) else (if 0 ≤ p0.toInt ∧ p0.toInt < 262 then (some ((q1.2.1 (b + 15) p0.toNatClampNeg), q1.2)) else none)

set_option maxRecDepth 100000 in
set_option maxHeartbeats 4000000 in
theorem b_X5_askedPlace_e_20 {p : Program} {l : Launch} {e : Env} {s : State} {m : MethodId} {args : Array Value} {below : List Frame} {meth : Method} {c : Code} {dC : Nat → ClassId} {dI : Nat → Nat → Nat} {a : Nat → Nat} {k : Nat → ClassId} {A : Nat → Prop} {q : Int32 × ST} (hC : CxA p s m args meth c dC dI k A cX5_askedPlace RX5 (some .int) 2)   {p0 : Int32} {σ : ST} (h : f_X5_askedPlace 20 p0 σ = some q) : GoA p l e ({ frames := 1, cells := 0, slots := 0, locals := 21 } : Room) s m args below meth c (MQ below (qAi dC dI a k A q) args s 0 0 A) dC dI a k A 2 0 σ (lv_args 0 [.ref (a 20), .int p0]) [] := by
  have hC0 := hC
  obtain ⟨hx, hb, hr, hml, hown, hts, hlocks, hA, hN, hK⟩ := hC0
  intro H locs ls hP hD hS hl
  have hD0 : ∀ σ1 : ST, va_D A (wA a k σ1) := fun σ1 => wA_D hD
  replace hl : lv_has ls 2 [(0, .ref (a 20)), (1, .int p0)] := hl
  unfold f_X5_askedPlace at h
  refine lv_aload_n hx hb dX5_askedPlace_0 rfl (lv_at hl 0 rfl) ?_
  refine lv_iload_n hx hb dX5_askedPlace_1 rfl (lv_at hl 1 rfl) ?_
  obtain ⟨q1, hc, h⟩ := ib h
  have hF := va_frees hD hS hA
  refine va_calli (va_runV (As := [.int p0]) (rest := []) ⟨hx, hb, hml, hown, hts⟩ (s_X5_isType_20 hc) (cwV 1 hts (gV mw_15_9 mw_15_10 mw_15_11 mw_0_9 mw_49_26) rfl rfl rfl (by decide +kernel) ⟨(Nat.le_of_ble_eq_true rfl), (Nat.le_of_ble_eq_true rfl)⟩) (vV (ci := 5) (q0 := 20) hK hP hD hN rfl gA_20) rfl rfl hl.1 rfl (lv_room (Nat.le_of_ble_eq_true rfl)) dX5_askedPlace_2 ⟨(Nat.le_of_ble_eq_true rfl), (Nat.le_of_ble_eq_true rfl)⟩) hS (fun q _ h => hF q h) hF (fun r2 u t H locs ht hvm hw hB _ _ hS => ?_)
  obtain rfl : r2 = q1.1 := hw
  replace hP : va_P (dC, dI) vwCl (wA a k q1.2) H := by rw [← ht]; exact hB.1
  replace hD := hD0 (q1.2)
  clear hB hF
  refine lv_if_eq (tgt := 17) hx hb dX5_askedPlace_5 (by decide) (fun hc => ?_) (fun hc => ?_)
  · replace h := ip hc h
    refine lv_iconst (v := 0) hx hb dX5_askedPlace_17 (by decide) ?_
    obtain rfl := Option.some.inj h
    exact W.iret hx hb hr (fun t ht hW => ⟨⟨_, (), rfl, rfl, ⟨by rw [ht]; exact hP, va_K.moved hW.alike hK, hD⟩⟩, hS.F ht⟩) hS.2.2 dX5_askedPlace_18
  · replace h := iq hc h
    refine lv_aload_n hx hb dX5_askedPlace_8 rfl (lv_at hl 0 rfl) ?_
    refine va_get (D := (dC, dI)) (ci := 5) (C := RX5) (T := TX5) (N := 17) hx hb hts inlX5 hown hK hP 20 gA_20 rfl 16 (by decide) (hts (.fieldLink RX5 62 "ShapeReader$Shapes" "askedPlaces" "[I") mw_15_3) (fun _ h9 => h9) rfl dX5_askedPlace_9 ?_
    refine lv_iload_n hx hb dX5_askedPlace_12 rfl (lv_at hl 1 rfl) ?_
    obtain ⟨hg3, h⟩ := ig h
    refine va_iald hx hb hK hP 35 31 gA_35 yA_35 (vp_in_iff.mpr hg3) dX5_askedPlace_13 ?_
    refine lv_goto (tgt := 18) hx hb dX5_askedPlace_14 (by decide) ?_
    obtain rfl := Option.some.inj h
    exact W.iret hx hb hr (fun t ht hW => ⟨⟨_, (), rfl, rfl, ⟨by rw [ht]; exact hP, va_K.moved hW.alike hK, hD⟩⟩, hS.F ht⟩) hS.2.2 dX5_askedPlace_18

theorem s_X5_askedPlace_20 {l : Launch} {dC : Nat → ClassId} {dI : Nat → Nat → Nat} {a : Nat → Nat} {k : Nat → ClassId} {sz : Nat} {p0 : Int32} {σ : ST} {q : Int32 × ST} (h : f_X5_askedPlace 20 p0 σ = some q) : Met l yX5_askedPlace (.code yX5_askedPlace cX5_askedPlace 2 (some .int) :: pw) ({ frames := 1, cells := 0, slots := 0, locals := 21 } : Room) (va_Pc [.ref (a 20), .int p0] (vPre dC dI (wA a k σ) (tA k) sz)) (qAi dC dI a k (va_A (wA a k σ) sz) q) 0 0 (va_A (wA a k σ) sz) := metA (fun A => qAi dC dI a k A q) (plainFor_of_name (by decide)) (Nat.le_of_ble_eq_true rfl) (fun _ _ _ _ _ _ _ _ hC => b_X5_askedPlace_e_20 hC h)

def f_X5_resolve_62 (k6 : Int32 → Int32 → ST → Option (Int32 × ST)) (b : Nat) (x1 : Int32) (x2 : Int32) (σ : ST) : Option (Int32 × ST) := k6 x1 (x2 + 1) σ
def f_X5_resolve_6 (b : Nat) : Nat → Int32 → Int32 → ST → Option (Int32 × ST)
  | 0, _, _, _ => none
  | n + 1, x1, x2, σ => if (σ.1 b 1) ≤ x2 then (some ((-1), σ)) else ((f_X5_isType b x2 σ).bind fun q1 => if q1.1 = 0 then (f_X5_resolve_62 (f_X5_resolve_6 b n) b x1 x2 q1.2) else (if 0 ≤ x2.toInt ∧ x2.toInt < 262 then (if (lg_cmp (q1.2.2.1 (b + 14) x2.toNatClampNeg) 0) = 0 then (f_X5_resolve_62 (f_X5_resolve_6 b n) b x1 x2 q1.2) else ((f_X5_recordNamed b x1 (q1.2.2.1 (b + 14) x2.toNatClampNeg) q1.2).bind fun q4 => if ((stI q4.2 (b + 12) x2.toNatClampNeg q4.1).1 (b + 12) x2.toNatClampNeg) = (-1) then (some (x2, (stI q4.2 (b + 12) x2.toNatClampNeg q4.1))) else (f_X5_resolve_62 (f_X5_resolve_6 b n) b x1 x2 (stI q4.2 (b + 12) x2.toNatClampNeg q4.1)))) else none))
def f_X5_resolve (b : Nat) (p0 : Int32) (σ : ST) : Option (Int32 × ST) := (f_X5_rootType b p0 σ).bind fun q1 => f_X5_resolve_6 b FU p0 q1.1 q1.2

set_option maxRecDepth 100000 in
set_option maxHeartbeats 4000000 in
theorem b_X5_resolve_62_20 {p : Program} {l : Launch} {e : Env} {s : State} {m : MethodId} {args : Array Value} {below : List Frame} {meth : Method} {c : Code} {dC : Nat → ClassId} {dI : Nat → Nat → Nat} {a : Nat → Nat} {k : Nat → ClassId} {A : Nat → Prop} {q : Int32 × ST} (hC : CxA p s m args meth c dC dI k A cX5_resolve RX5 (some .int) 3)  {k6 : Int32 → Int32 → ST → Option (Int32 × ST)} (hk6 : ∀ (x1 : Int32) (x2 : Int32) (σ : ST), k6 x1 x2 σ = some q → GoA p l e ({ frames := 3, cells := 0, slots := 0, locals := 65 } : Room) s m args below meth c (MQ below (qAi dC dI a k A q) args s 0 0 A) dC dI a k A 3 6 σ [(0, .ref (a 20)), (1, .int x1), (2, .int x2)] []) {x1 : Int32} {x2 : Int32} {σ : ST} (h : f_X5_resolve_62 k6 20 x1 x2 σ = some q) : GoA p l e ({ frames := 3, cells := 0, slots := 0, locals := 65 } : Room) s m args below meth c (MQ below (qAi dC dI a k A q) args s 0 0 A) dC dI a k A 3 62 σ [(0, .ref (a 20)), (1, .int x1), (2, .int x2)] [] := by
  have hC0 := hC
  obtain ⟨hx, hb, hr, hml, hown, hts, hlocks, hA, hN, hK⟩ := hC0
  intro H locs ls hP hD hS hl
  have hD0 : ∀ σ1 : ST, va_D A (wA a k σ1) := fun σ1 => wA_D hD
  unfold f_X5_resolve_62 at h
  refine lv_iinc (v := (x2 + 1)) (lv' := [(2, .int (x2 + 1)), (0, .ref (a 20)), (1, .int x1)]) hx hb dX5_resolve_62 hl (k := 2) rfl rfl (by decide) rfl (fun ls hl => ?_)
  refine lv_goto (tgt := 6) hx hb dX5_resolve_65 (by decide) ?_
  exact hk6 _ _ _ h _ _ _ hP hD hS (lv_sub hl [1, 2, 0] rfl)

set_option maxRecDepth 100000 in
set_option maxHeartbeats 4000000 in
theorem b_X5_resolve_6_20 {p : Program} {l : Launch} {e : Env} {s : State} {m : MethodId} {args : Array Value} {below : List Frame} {meth : Method} {c : Code} {dC : Nat → ClassId} {dI : Nat → Nat → Nat} {a : Nat → Nat} {k : Nat → ClassId} {A : Nat → Prop} {q : Int32 × ST} (hC : CxA p s m args meth c dC dI k A cX5_resolve RX5 (some .int) 3)   : ∀ (n : Nat) (x1 : Int32) (x2 : Int32) (σ : ST), f_X5_resolve_6 20 n x1 x2 σ = some q → GoA p l e ({ frames := 3, cells := 0, slots := 0, locals := 65 } : Room) s m args below meth c (MQ below (qAi dC dI a k A q) args s 0 0 A) dC dI a k A 3 6 σ [(0, .ref (a 20)), (1, .int x1), (2, .int x2)] [] := by
  intro n
  induction n with
  | zero =>
    intro x1 x2 σ h
    rw [f_X5_resolve_6] at h
    cases h
  | succ n ih =>
    intro x1 x2 σ h
    have hC0 := hC
    obtain ⟨hx, hb, hr, hml, hown, hts, hlocks, hA, hN, hK⟩ := hC0
    intro H locs ls hP hD hS hl
    have hD0 : ∀ σ1 : ST, va_D A (wA a k σ1) := fun σ1 => wA_D hD
    rw [f_X5_resolve_6] at h
    refine lv_iload_n hx hb dX5_resolve_6 rfl (lv_at hl 2 rfl) ?_
    refine lv_aload_n hx hb dX5_resolve_7 rfl (lv_at hl 0 rfl) ?_
    refine va_get (D := (dC, dI)) (ci := 5) (C := RX5) (T := TX5) (N := 17) hx hb hts inlX5 hown hK hP 20 gA_20 rfl 1 (by decide) (hts (.fieldLink RX5 15 "ShapeReader$Shapes" "typeCount" "I") mw_14_18) (fun _ h9 => h9) rfl dX5_resolve_8 ?_
    refine lv_icmp_ge (tgt := 68) hx hb dX5_resolve_11 (by decide) (fun hc => ?_) (fun hc => ?_)
    · replace h := ip hc h
      refine lv_iconst (v := (-1)) hx hb dX5_resolve_68 (by decide) ?_
      obtain rfl := Option.some.inj h
      exact W.iret hx hb hr (fun t ht hW => ⟨⟨_, (), rfl, rfl, ⟨by rw [ht]; exact hP, va_K.moved hW.alike hK, hD⟩⟩, hS.F ht⟩) hS.2.2 dX5_resolve_69
    · replace h := iq hc h
      refine lv_aload_n hx hb dX5_resolve_14 rfl (lv_at hl 0 rfl) ?_
      refine lv_iload_n hx hb dX5_resolve_15 rfl (lv_at hl 2 rfl) ?_
      obtain ⟨q1, hc, h⟩ := ib h
      have hF := va_frees hD hS hA
      refine va_calli (va_runV (As := [.int x2]) (rest := []) ⟨hx, hb, hml, hown, hts⟩ (s_X5_isType_20 hc) (cwV 1 hts (gV mw_15_9 mw_15_10 mw_15_11 mw_0_9 mw_49_26) rfl rfl rfl (by decide +kernel) ⟨(Nat.le_of_ble_eq_true rfl), (Nat.le_of_ble_eq_true rfl)⟩) (vV (ci := 5) (q0 := 20) hK hP hD hN rfl gA_20) rfl rfl hl.1 rfl (lv_room (Nat.le_of_ble_eq_true rfl)) dX5_resolve_16 ⟨(Nat.le_of_ble_eq_true rfl), (Nat.le_of_ble_eq_true rfl)⟩) hS (fun q _ h => hF q h) hF (fun r2 u t H locs ht hvm hw hB _ _ hS => ?_)
      obtain rfl : r2 = q1.1 := hw
      replace hP : va_P (dC, dI) vwCl (wA a k q1.2) H := by rw [← ht]; exact hB.1
      replace hD := hD0 (q1.2)
      clear hB hF
      refine lv_if_eq (tgt := 62) hx hb dX5_resolve_19 (by decide) (fun hc => ?_) (fun hc => ?_)
      · replace h := ip hc h
        exact b_X5_resolve_62_20 hC ih h _ _ _ hP hD hS (lv_sub hl [0, 1, 2] rfl)
      · replace h := iq hc h
        refine lv_aload_n hx hb dX5_resolve_22 rfl (lv_at hl 0 rfl) ?_
        refine va_get (D := (dC, dI)) (ci := 5) (C := RX5) (T := TX5) (N := 17) hx hb hts inlX5 hown hK hP 20 gA_20 rfl 15 (by decide) (hts (.fieldLink RX5 59 "ShapeReader$Shapes" "askedNames" "[J") mw_15_2) (fun _ h9 => h9) rfl dX5_resolve_23 ?_
        refine lv_iload_n hx hb dX5_resolve_26 rfl (lv_at hl 2 rfl) ?_
        obtain ⟨hg3, h⟩ := ig h
        refine va_lald hx hb hK hP 34 30 gA_34 yA_34 (vp_in_iff.mpr hg3) dX5_resolve_27 ?_
        refine lv_lconst (v := 0) hx hb dX5_resolve_28 (by decide) ?_
        refine W.lcmp hx hb dX5_resolve_29 ?_
        refine lv_if_eq (tgt := 62) hx hb dX5_resolve_30 (by decide) (fun hc => ?_) (fun hc => ?_)
        · replace h := ip hc h
          exact b_X5_resolve_62_20 hC ih h _ _ _ hP hD hS (lv_sub hl [0, 1, 2] rfl)
        · replace h := iq hc h
          refine lv_aload_n hx hb dX5_resolve_33 rfl (lv_at hl 0 rfl) ?_
          refine va_get (D := (dC, dI)) (ci := 5) (C := RX5) (T := TX5) (N := 17) hx hb hts inlX5 hown hK hP 20 gA_20 rfl 13 (by decide) (hts (.fieldLink RX5 53 "ShapeReader$Shapes" "inners" "[I") mw_15_0) (fun _ h9 => h9) rfl dX5_resolve_34 ?_
          refine lv_iload_n hx hb dX5_resolve_37 rfl (lv_at hl 2 rfl) ?_
          refine lv_aload_n hx hb dX5_resolve_38 rfl (lv_at hl 0 rfl) ?_
          refine lv_iload_n hx hb dX5_resolve_39 rfl (lv_at hl 1 rfl) ?_
          refine lv_aload_n hx hb dX5_resolve_40 rfl (lv_at hl 0 rfl) ?_
          refine va_get (D := (dC, dI)) (ci := 5) (C := RX5) (T := TX5) (N := 17) hx hb hts inlX5 hown hK hP 20 gA_20 rfl 15 (by decide) (hts (.fieldLink RX5 59 "ShapeReader$Shapes" "askedNames" "[J") mw_15_2) (fun _ h9 => h9) rfl dX5_resolve_41 ?_
          refine lv_iload_n hx hb dX5_resolve_44 rfl (lv_at hl 2 rfl) ?_
          refine va_lald hx hb hK hP 34 30 gA_34 yA_34 (vp_in_iff.mpr hg3) dX5_resolve_45 ?_
          obtain ⟨q4, hc, h⟩ := ib h
          have hF := va_frees hD hS hA
          refine va_calli (va_runV (As := [.int x1, .long (q1.2.2.1 34 x2.toNatClampNeg)]) (rest := [.int x2, .ref (a 32)]) ⟨hx, hb, hml, hown, hts⟩ (s_X5_recordNamed_20 hc) (cwV 2 hts (gV mw_15_27 mw_8_10 mw_8_11 mw_0_9 mw_50_13) rfl rfl rfl (by decide +kernel) ⟨(Nat.le_of_ble_eq_true rfl), (Nat.le_of_ble_eq_true rfl)⟩) (vV (ci := 5) (q0 := 20) hK hP hD hN rfl gA_20) rfl rfl hl.1 rfl (lv_room (Nat.le_of_ble_eq_true rfl)) dX5_resolve_46 ⟨(Nat.le_of_ble_eq_true rfl), (Nat.le_of_ble_eq_true rfl)⟩) hS (fun q _ h => hF q h) hF (fun r5 u t H locs ht hvm hw hB _ _ hS => ?_)
          obtain rfl : r5 = q4.1 := hw
          replace hP : va_P (dC, dI) vwCl (wA a k q4.2) H := by rw [← ht]; exact hB.1
          replace hD := hD0 (q4.2)
          clear hB hF
          refine va_iast hx hb hK hP hD hS 32 28 gA_32 yA_32 (vp_in_iff.mpr hg3) dX5_resolve_49 (fun H locs hP hD hS => ?_)
          replace hP := uA_32 hP
          replace hD := hD0 ((stI q4.2 32 x2.toNatClampNeg q4.1))
          refine lv_aload_n hx hb dX5_resolve_50 rfl (lv_at hl 0 rfl) ?_
          refine va_get (D := (dC, dI)) (ci := 5) (C := RX5) (T := TX5) (N := 17) hx hb hts inlX5 hown hK hP 20 gA_20 rfl 13 (by decide) (hts (.fieldLink RX5 53 "ShapeReader$Shapes" "inners" "[I") mw_15_0) (fun _ h9 => h9) rfl dX5_resolve_51 ?_
          refine lv_iload_n hx hb dX5_resolve_54 rfl (lv_at hl 2 rfl) ?_
          refine va_iald hx hb hK hP 32 28 gA_32 yA_32 (vp_in_iff.mpr hg3) dX5_resolve_55 ?_
          refine lv_iconst (v := (-1)) hx hb dX5_resolve_56 (by decide) ?_
          refine lv_icmp_ne (tgt := 62) hx hb dX5_resolve_57 (by decide) (fun hc => ?_) (fun hc => ?_)
          · replace h := iq hc h
            exact b_X5_resolve_62_20 hC ih h _ _ _ hP hD hS (lv_sub hl [0, 1, 2] rfl)
          · replace h := ip hc h
            refine lv_iload_n hx hb dX5_resolve_60 rfl (lv_at hl 2 rfl) ?_
            obtain rfl := Option.some.inj h
            exact W.iret hx hb hr (fun t ht hW => ⟨⟨_, (), rfl, rfl, ⟨by rw [ht]; exact hP, va_K.moved hW.alike hK, hD⟩⟩, hS.F ht⟩) hS.2.2 dX5_resolve_61

set_option maxRecDepth 100000 in
set_option maxHeartbeats 4000000 in
theorem b_X5_resolve_e_20 {p : Program} {l : Launch} {e : Env} {s : State} {m : MethodId} {args : Array Value} {below : List Frame} {meth : Method} {c : Code} {dC : Nat → ClassId} {dI : Nat → Nat → Nat} {a : Nat → Nat} {k : Nat → ClassId} {A : Nat → Prop} {q : Int32 × ST} (hC : CxA p s m args meth c dC dI k A cX5_resolve RX5 (some .int) 3)   {p0 : Int32} {σ : ST} (h : f_X5_resolve 20 p0 σ = some q) : GoA p l e ({ frames := 3, cells := 0, slots := 0, locals := 65 } : Room) s m args below meth c (MQ below (qAi dC dI a k A q) args s 0 0 A) dC dI a k A 3 0 σ (lv_args 0 [.ref (a 20), .int p0]) [] := by
  have hC0 := hC
  obtain ⟨hx, hb, hr, hml, hown, hts, hlocks, hA, hN, hK⟩ := hC0
  intro H locs ls hP hD hS hl
  have hD0 : ∀ σ1 : ST, va_D A (wA a k σ1) := fun σ1 => wA_D hD
  replace hl : lv_has ls 3 [(0, .ref (a 20)), (1, .int p0)] := hl
  unfold f_X5_resolve at h
  refine lv_aload_n hx hb dX5_resolve_0 rfl (lv_at hl 0 rfl) ?_
  refine lv_iload_n hx hb dX5_resolve_1 rfl (lv_at hl 1 rfl) ?_
  obtain ⟨q1, hc, h⟩ := ib h
  have hF := va_frees hD hS hA
  refine va_calli (va_runV (As := [.int p0]) (rest := []) ⟨hx, hb, hml, hown, hts⟩ (s_X5_rootType_20 hc) (cwV 1 hts (gV mw_15_26 mw_3_6 mw_3_7 mw_0_9 mw_49_28) rfl rfl rfl (by decide +kernel) ⟨(Nat.le_of_ble_eq_true rfl), (Nat.le_of_ble_eq_true rfl)⟩) (vV (ci := 5) (q0 := 20) hK hP hD hN rfl gA_20) rfl rfl hl.1 rfl (lv_room (Nat.le_of_ble_eq_true rfl)) dX5_resolve_2 ⟨(Nat.le_of_ble_eq_true rfl), (Nat.le_of_ble_eq_true rfl)⟩) hS (fun q _ h => hF q h) hF (fun r2 u t H locs ht hvm hw hB _ _ hS => ?_)
  obtain rfl : r2 = q1.1 := hw
  replace hP : va_P (dC, dI) vwCl (wA a k q1.2) H := by rw [← ht]; exact hB.1
  replace hD := hD0 (q1.2)
  clear hB hF
  refine lv_istore_n (lv' := [(2, .int q1.1), (0, .ref (a 20)), (1, .int p0)]) hx hb dX5_resolve_5 rfl hl (by decide) rfl (fun ls hl => ?_)
  exact b_X5_resolve_6_20 hC FU _ _ _ h _ _ _ hP hD hS (lv_sub hl [1, 2, 0] rfl)

theorem s_X5_resolve_20 {l : Launch} {dC : Nat → ClassId} {dI : Nat → Nat → Nat} {a : Nat → Nat} {k : Nat → ClassId} {sz : Nat} {p0 : Int32} {σ : ST} {q : Int32 × ST} (h : f_X5_resolve 20 p0 σ = some q) : Met l yX5_resolve (.code yX5_resolve cX5_resolve 3 (some .int) :: pw) ({ frames := 3, cells := 0, slots := 0, locals := 65 } : Room) (va_Pc [.ref (a 20), .int p0] (vPre dC dI (wA a k σ) (tA k) sz)) (qAi dC dI a k (va_A (wA a k σ) sz) q) 0 0 (va_A (wA a k σ) sz) := metA (fun A => qAi dC dI a k A q) (plainFor_of_name (by decide)) (Nat.le_of_ble_eq_true rfl) (fun _ _ _ _ _ _ _ _ hC => b_X5_resolve_e_20 hC h)

def f_X3_resolve_33 (σ : ST) : Option (Int32 × ST) := some (1, σ)
def f_X3_resolve (p0 : Int32) (σ : ST) : Option (Int32 × ST) := (f_X5_resolve 20 p0 σ).bind fun q1 => if q1.1 = (-1) then (f_X3_resolve_33   q1.2) else ((f_X5_askedPlace 20 q1.1 q1.2).bind fun q3 => (f_X6_refuseAt  3 q3.1 q3.2).bind fun q5 => if q5.1 = 0 then (some (0, q5.2)) else (f_X3_resolve_33   q5.2))

set_option maxRecDepth 100000 in
set_option maxHeartbeats 4000000 in
theorem b_X3_resolve_33 {p : Program} {l : Launch} {e : Env} {s : State} {m : MethodId} {args : Array Value} {below : List Frame} {meth : Method} {c : Code} {dC : Nat → ClassId} {dI : Nat → Nat → Nat} {a : Nat → Nat} {k : Nat → ClassId} {A : Nat → Prop} {q : Int32 × ST} (hC : CxA p s m args meth c dC dI k A cX3_resolve RX3 (some .boolean) 3)    {σ : ST} (h : f_X3_resolve_33   σ = some q) : GoA p l e ({ frames := 4, cells := 0, slots := 0, locals := 87 } : Room) s m args below meth c (MQ below (qAi dC dI a k A q) args s 0 0 A) dC dI a k A 3 33 σ [] [] := by
  have hC0 := hC
  obtain ⟨hx, hb, hr, hml, hown, hts, hlocks, hA, hN, hK⟩ := hC0
  intro H locs ls hP hD hS hl
  have hD0 : ∀ σ1 : ST, va_D A (wA a k σ1) := fun σ1 => wA_D hD
  unfold f_X3_resolve_33 at h
  refine lv_iconst (v := 1) hx hb dX3_resolve_33 (by decide) ?_
  refine lv_goto (tgt := 38) hx hb dX3_resolve_34 (by decide) ?_
  obtain rfl := Option.some.inj h
  exact W.zret hx hb hr rfl (fun t ht hW => ⟨⟨_, (), rfl, rfl, ⟨by rw [ht]; exact hP, va_K.moved hW.alike hK, hD⟩⟩, hS.F ht⟩) hS.2.2 dX3_resolve_38

set_option maxRecDepth 100000 in
set_option maxHeartbeats 4000000 in
theorem b_X3_resolve_e {p : Program} {l : Launch} {e : Env} {s : State} {m : MethodId} {args : Array Value} {below : List Frame} {meth : Method} {c : Code} {dC : Nat → ClassId} {dI : Nat → Nat → Nat} {a : Nat → Nat} {k : Nat → ClassId} {A : Nat → Prop} {q : Int32 × ST} (hC : CxA p s m args meth c dC dI k A cX3_resolve RX3 (some .boolean) 3)   {p0 : Int32} {σ : ST} (h : f_X3_resolve  p0 σ = some q) : GoA p l e ({ frames := 4, cells := 0, slots := 0, locals := 87 } : Room) s m args below meth c (MQ below (qAi dC dI a k A q) args s 0 0 A) dC dI a k A 3 0 σ (lv_args 0 [.ref (a 36), .int p0]) [] := by
  have hC0 := hC
  obtain ⟨hx, hb, hr, hml, hown, hts, hlocks, hA, hN, hK⟩ := hC0
  intro H locs ls hP hD hS hl
  have hD0 : ∀ σ1 : ST, va_D A (wA a k σ1) := fun σ1 => wA_D hD
  replace hl : lv_has ls 3 [(0, .ref (a 36)), (1, .int p0)] := hl
  unfold f_X3_resolve at h
  refine lv_aload_n hx hb dX3_resolve_0 rfl (lv_at hl 0 rfl) ?_
  refine va_get (D := (dC, dI)) (ci := 3) (C := RX3) (T := TX3) (N := 2) hx hb hts inlX3 hown hK hP 36 gA_36 rfl 1 (by decide) (hts (.fieldLink RX3 15 "ShapeReader$PlanText" "draft" "LShapeReader$Shapes;") mw_7_2) (fun _ h9 => h9) rfl dX3_resolve_1 ?_
  refine lv_iload_n hx hb dX3_resolve_4 rfl (lv_at hl 1 rfl) ?_
  obtain ⟨q1, hc, h⟩ := ib h
  have hF := va_frees hD hS hA
  refine va_calli (va_runV (As := [.int p0]) (rest := []) ⟨hx, hb, hml, hown, hts⟩ (s_X5_resolve_20 hc) (cwV 1 hts (gV mw_7_23 mw_7_24 mw_7_25 mw_0_9 mw_50_26) rfl rfl rfl (by decide +kernel) ⟨(Nat.le_of_ble_eq_true rfl), (Nat.le_of_ble_eq_true rfl)⟩) (vV (ci := 5) (q0 := 20) hK hP hD hN rfl gA_20) rfl rfl hl.1 rfl (lv_room (Nat.le_of_ble_eq_true rfl)) dX3_resolve_5 ⟨(Nat.le_of_ble_eq_true rfl), (Nat.le_of_ble_eq_true rfl)⟩) hS (fun q _ h => hF q h) hF (fun r2 u t H locs ht hvm hw hB _ _ hS => ?_)
  obtain rfl : r2 = q1.1 := hw
  replace hP : va_P (dC, dI) vwCl (wA a k q1.2) H := by rw [← ht]; exact hB.1
  replace hD := hD0 (q1.2)
  clear hB hF
  refine lv_istore_n (lv' := [(2, .int q1.1), (0, .ref (a 36)), (1, .int p0)]) hx hb dX3_resolve_8 rfl hl (by decide) rfl (fun ls hl => ?_)
  refine lv_iload_n hx hb dX3_resolve_9 rfl (lv_at hl 0 rfl) ?_
  refine lv_iconst (v := (-1)) hx hb dX3_resolve_10 (by decide) ?_
  refine lv_icmp_eq (tgt := 33) hx hb dX3_resolve_11 (by decide) (fun hc => ?_) (fun hc => ?_)
  · replace h := ip hc h
    exact b_X3_resolve_33 hC h _ _ _ hP hD hS (lv_sub hl [] rfl)
  · replace h := iq hc h
    refine lv_aload_n hx hb dX3_resolve_14 rfl (lv_at hl 1 rfl) ?_
    refine va_get (D := (dC, dI)) (ci := 3) (C := RX3) (T := TX3) (N := 2) hx hb hts inlX3 hown hK hP 36 gA_36 rfl 0 (by decide) (hts (.fieldLink RX3 9 "ShapeReader$PlanText" "tokens" "LShapeReader$Tokens;") mw_7_1) (fun _ h9 => h9) rfl dX3_resolve_15 ?_
    refine lv_iconst (v := 3) hx hb dX3_resolve_18 (by decide) ?_
    refine lv_aload_n hx hb dX3_resolve_19 rfl (lv_at hl 1 rfl) ?_
    refine va_get (D := (dC, dI)) (ci := 3) (C := RX3) (T := TX3) (N := 2) hx hb hts inlX3 hown hK hP 36 gA_36 rfl 1 (by decide) (hts (.fieldLink RX3 15 "ShapeReader$PlanText" "draft" "LShapeReader$Shapes;") mw_7_2) (fun _ h9 => h9) rfl dX3_resolve_20 ?_
    refine lv_iload_n hx hb dX3_resolve_23 rfl (lv_at hl 0 rfl) ?_
    obtain ⟨q3, hc, h⟩ := ib h
    have hF := va_frees hD hS hA
    refine va_calli (va_runV (As := [.int q1.1]) (rest := [.int 3, .ref (a 2)]) ⟨hx, hb, hml, hown, hts⟩ (s_X5_askedPlace_20 hc) (cwV 1 hts (gV mw_7_26 mw_7_27 mw_7_28 mw_0_9 mw_50_27) rfl rfl rfl (by decide +kernel) ⟨(Nat.le_of_ble_eq_true rfl), (Nat.le_of_ble_eq_true rfl)⟩) (vV (ci := 5) (q0 := 20) hK hP hD hN rfl gA_20) rfl rfl hl.1 rfl (lv_room (Nat.le_of_ble_eq_true rfl)) dX3_resolve_24 ⟨(Nat.le_of_ble_eq_true rfl), (Nat.le_of_ble_eq_true rfl)⟩) hS (fun q _ h => hF q h) hF (fun r4 u t H locs ht hvm hw hB _ _ hS => ?_)
    obtain rfl : r4 = q3.1 := hw
    replace hP : va_P (dC, dI) vwCl (wA a k q3.2) H := by rw [← ht]; exact hB.1
    replace hD := hD0 (q3.2)
    clear hB hF
    obtain ⟨q5, hc, h⟩ := ib h
    have hF := va_frees hD hS hA
    refine va_calli (va_runV (As := [.int 3, .int q3.1]) (rest := []) ⟨hx, hb, hml, hown, hts⟩ (s_X6_refuseAt hc) (cwV 2 hts (gV mw_7_29 mw_8_0 mw_8_1 mw_0_10 mw_51_5) rfl rfl rfl (by decide +kernel) ⟨(Nat.le_of_ble_eq_true rfl), (Nat.le_of_ble_eq_true rfl)⟩) (vV (ci := 6) (q0 := 2) hK hP hD hN rfl gA_2) rfl rfl hl.1 rfl (lv_room (Nat.le_of_ble_eq_true rfl)) dX3_resolve_27 ⟨(Nat.le_of_ble_eq_true rfl), (Nat.le_of_ble_eq_true rfl)⟩) hS (fun q _ h => hF q h) hF (fun r6 u t H locs ht hvm hw hB _ _ hS => ?_)
    obtain rfl : r6 = q5.1 := hw
    replace hP : va_P (dC, dI) vwCl (wA a k q5.2) H := by rw [← ht]; exact hB.1
    replace hD := hD0 (q5.2)
    clear hB hF
    refine lv_if_eq (tgt := 37) hx hb dX3_resolve_30 (by decide) (fun hc => ?_) (fun hc => ?_)
    · replace h := ip hc h
      refine lv_iconst (v := 0) hx hb dX3_resolve_37 (by decide) ?_
      obtain rfl := Option.some.inj h
      exact W.zret hx hb hr rfl (fun t ht hW => ⟨⟨_, (), rfl, rfl, ⟨by rw [ht]; exact hP, va_K.moved hW.alike hK, hD⟩⟩, hS.F ht⟩) hS.2.2 dX3_resolve_38
    · replace h := iq hc h
      exact b_X3_resolve_33 hC h _ _ _ hP hD hS (lv_sub hl [] rfl)

theorem s_X3_resolve {l : Launch} {dC : Nat → ClassId} {dI : Nat → Nat → Nat} {a : Nat → Nat} {k : Nat → ClassId} {sz : Nat} {p0 : Int32} {σ : ST} {q : Int32 × ST} (h : f_X3_resolve  p0 σ = some q) : Met l yX3_resolve (.code yX3_resolve cX3_resolve 3 (some .boolean) :: pw) ({ frames := 4, cells := 0, slots := 0, locals := 87 } : Room) (va_Pc [.ref (a 36), .int p0] (vPre dC dI (wA a k σ) (tA k) sz)) (qAi dC dI a k (va_A (wA a k σ) sz) q) 0 0 (va_A (wA a k σ) sz) := metA (fun A => qAi dC dI a k A q) (plainFor_of_name (by decide)) (Nat.le_of_ble_eq_true rfl) (fun _ _ _ _ _ _ _ _ hC => b_X3_resolve_e hC h)

def f_X5_clear (b : Nat) (σ : ST) : Option (ST) := some (stI (stI σ b 0 0) b 1 0)

set_option maxRecDepth 100000 in
set_option maxHeartbeats 4000000 in
theorem b_X5_clear_e_20 {p : Program} {l : Launch} {e : Env} {s : State} {m : MethodId} {args : Array Value} {below : List Frame} {meth : Method} {c : Code} {dC : Nat → ClassId} {dI : Nat → Nat → Nat} {a : Nat → Nat} {k : Nat → ClassId} {A : Nat → Prop} {q : ST} (hC : CxA p s m args meth c dC dI k A cX5_clear RX5 none 1)    {σ : ST} (h : f_X5_clear 20  σ = some q) : GoA p l e ({ frames := 0, cells := 0, slots := 0, locals := 0 } : Room) s m args below meth c (MQ below (qAv dC dI a k A q) args s 0 0 A) dC dI a k A 1 0 σ (lv_args 0 [.ref (a 20)]) [] := by
  have hC0 := hC
  obtain ⟨hx, hb, hr, hml, hown, hts, hlocks, hA, hN, hK⟩ := hC0
  intro H locs ls hP hD hS hl
  have hD0 : ∀ σ1 : ST, va_D A (wA a k σ1) := fun σ1 => wA_D hD
  replace hl : lv_has ls 1 [(0, .ref (a 20))] := hl
  unfold f_X5_clear at h
  refine lv_aload_n hx hb dX5_clear_0 rfl (lv_at hl 0 rfl) ?_
  refine lv_iconst (v := 0) hx hb dX5_clear_1 (by decide) ?_
  refine va_put (D := (dC, dI)) (ci := 5) (ty := .int) (C := RX5) (T := TX5) (N := 17) hx hb hts inlX5 tyX5 tyX5_ok nmX5 hown hK hP hD hS 20 gA_20 rfl 0 (by decide) (hts (.fieldLink RX5 9 "ShapeReader$Shapes" "planCount" "I") mw_14_17) (fun _ h9 => h9) rfl (by decide +kernel) rfl rfl (Nat.le_of_ble_eq_true rfl) dX5_clear_2 (fun H locs hP hD hS => ?_)
  replace hP := uA_20_0 hP
  replace hD := hD0 ((stI σ 20 0 0))
  refine lv_aload_n hx hb dX5_clear_5 rfl (lv_at hl 0 rfl) ?_
  refine lv_iconst (v := 0) hx hb dX5_clear_6 (by decide) ?_
  refine va_put (D := (dC, dI)) (ci := 5) (ty := .int) (C := RX5) (T := TX5) (N := 17) hx hb hts inlX5 tyX5 tyX5_ok nmX5 hown hK hP hD hS 20 gA_20 rfl 1 (by decide) (hts (.fieldLink RX5 15 "ShapeReader$Shapes" "typeCount" "I") mw_14_18) (fun _ h9 => h9) rfl (by decide +kernel) rfl rfl (Nat.le_of_ble_eq_true rfl) dX5_clear_7 (fun H locs hP hD hS => ?_)
  replace hP := uA_20_1 hP
  replace hD := hD0 ((stI (stI σ 20 0 0) 20 1 0))
  obtain rfl := Option.some.inj h
  exact W.vret hx hb hr (fun t ht hW => ⟨⟨(), rfl, trivial, ⟨by rw [ht]; exact hP, va_K.moved hW.alike hK, hD⟩⟩, hS.F ht⟩) hS.2.2 dX5_clear_10

theorem s_X5_clear_20 {l : Launch} {dC : Nat → ClassId} {dI : Nat → Nat → Nat} {a : Nat → Nat} {k : Nat → ClassId} {sz : Nat}  {σ : ST} {q : ST} (h : f_X5_clear 20  σ = some q) : Met l yX5_clear (.code yX5_clear cX5_clear 1 none :: pw) ({ frames := 0, cells := 0, slots := 0, locals := 0 } : Room) (va_Pc [.ref (a 20)] (vPre dC dI (wA a k σ) (tA k) sz)) (qAv dC dI a k (va_A (wA a k σ) sz) q) 0 0 (va_A (wA a k σ) sz) := metA (fun A => qAv dC dI a k A q) (plainFor_of_name (by decide)) (Nat.le_of_ble_eq_true rfl) (fun _ _ _ _ _ _ _ _ hC => b_X5_clear_e_20 hC h)

def f_X3_parse_157 (k11 : Int32 → Int32 → ST → Option (Int32 × ST)) (x1 : Int32) (x2 : Int32) (σ : ST) : Option (Int32 × ST) := k11 x1 (x2 + 1) σ
def f_X3_parse_127 (k11 : Int32 → Int32 → ST → Option (Int32 × ST)) (x1 : Int32) (x2 : Int32) (x4 : Int32) (σ : ST) : Option (Int32 × ST) := (f_X3_resolve  x1 σ).bind fun q1 => if q1.1 = 0 then (some (0, q1.2)) else (if x4 = 0 then ((f_X3_beginPlan  (x1 + 1) q1.2).bind fun q3 => if q3.1 = 0 then (some (0, q3.2)) else (f_X3_parse_157 k11 (x1 + 1) x2 q3.2)) else (some (1, q1.2)))
def f_X3_parse_106 (k11 : Int32 → Int32 → ST → Option (Int32 × ST)) (x1 : Int32) (x2 : Int32) (x4 : Int32) (y0 : Int32) (σ : ST) : Option (Int32 × ST) := if x4 = 0 then (if y0 = 0 then ((f_X6_refuse  1 σ).bind fun q1 => if q1.1 = 0 ∨ q1.1 = 1 then some (q1.1, q1.2) else none) else (f_X3_parse_127 k11 x1 x2 x4 σ)) else (f_X3_parse_127 k11 x1 x2 x4 σ)
def f_X3_parse_105 (k11 : Int32 → Int32 → ST → Option (Int32 × ST)) (x1 : Int32) (x2 : Int32) (x4 : Int32) (σ : ST) : Option (Int32 × ST) := f_X3_parse_106 k11 x1 x2 x4 0 σ
def f_X3_parse_90 (k11 : Int32 → Int32 → ST → Option (Int32 × ST)) (x1 : Int32) (x2 : Int32) (x4 : Int32) (σ : ST) : Option (Int32 × ST) := (f_X6_isKeyword  0 σ).bind fun q1 => if q1.1 = 0 then (f_X3_parse_105 k11 x1 x2 x4 q1.2) else (f_X3_parse_106 k11 x1 x2 x4 1 q1.2)
def f_X3_parse_79 (k11 : Int32 → Int32 → ST → Option (Int32 × ST)) (x1 : Int32) (x2 : Int32) (x3 : Int32) (y0 : Int32) (σ : ST) : Option (Int32 × ST) := if x3 = 0 then (if x1 = (-1) then (f_X3_parse_90 k11 x1 x2 y0 σ) else (f_X3_parse_105 k11 x1 x2 y0 σ)) else (f_X3_parse_90 k11 x1 x2 y0 σ)
def f_X3_parse_78 (k11 : Int32 → Int32 → ST → Option (Int32 × ST)) (x1 : Int32) (x2 : Int32) (x3 : Int32) (σ : ST) : Option (Int32 × ST) := f_X3_parse_79 k11 x1 x2 x3 0 σ
def f_X3_parse_60 (k11 : Int32 → Int32 → ST → Option (Int32 × ST)) (x1 : Int32) (x2 : Int32) (x3 : Int32) (σ : ST) : Option (Int32 × ST) := if x3 = 0 then (f_X3_parse_78 k11 x1 x2 x3 σ) else (if (σ.1 2 4) = 0 then (f_X3_parse_79 k11 x1 x2 x3 1 σ) else (f_X3_parse_78 k11 x1 x2 x3 σ))
def f_X3_parse_33 (k11 : Int32 → Int32 → ST → Option (Int32 × ST)) (x1 : Int32) (x2 : Int32) (y0 : Int32) (σ : ST) : Option (Int32 × ST) := if x1 = (-1) then (f_X3_parse_60 k11 x1 x2 y0 σ) else ((f_X6_isKeyword  1 σ).bind fun q1 => if q1.1 = 0 then (f_X3_parse_60 k11 x1 x2 y0 q1.2) else ((f_X3_parseRecord  x1 q1.2).bind fun q3 => if q3.1 = 0 then (some (0, q3.2)) else (f_X3_parse_157 k11 x1 x2 q3.2)))
def f_X3_parse_11  : Nat → Int32 → Int32 → ST → Option (Int32 × ST)
  | 0, _, _, _ => none
  | n + 1, x1, x2, σ => if 42 < x2 then (some (0, σ)) else ((f_X5_recordsOf 20 x1 σ).bind fun q1 => if q1.1 ≤ 0 then (f_X3_parse_33 (f_X3_parse_11  n) x1 x2 0 q1.2) else (f_X3_parse_33 (f_X3_parse_11  n) x1 x2 1 q1.2))
def f_X3_parse (σ : ST) : Option (Int32 × ST) := (f_X5_clear 20  σ).bind fun q1 => f_X3_parse_11  FU (-1) 0 q1

set_option maxRecDepth 100000 in
set_option maxHeartbeats 4000000 in
theorem b_X3_parse_157 {p : Program} {l : Launch} {e : Env} {s : State} {m : MethodId} {args : Array Value} {below : List Frame} {meth : Method} {c : Code} {dC : Nat → ClassId} {dI : Nat → Nat → Nat} {a : Nat → Nat} {k : Nat → ClassId} {A : Nat → Prop} {q : Int32 × ST} (hC : CxA p s m args meth c dC dI k A cX3_parse RX3 (some .boolean) 6)  {k11 : Int32 → Int32 → ST → Option (Int32 × ST)} (hk11 : ∀ (x1 : Int32) (x2 : Int32) (σ : ST), k11 x1 x2 σ = some q → GoA p l e ({ frames := 166, cells := 0, slots := 0, locals := 4301 } : Room) s m args below meth c (MQ below (qAi dC dI a k A q) args s 0 0 A) dC dI a k A 6 11 σ [(0, .ref (a 36)), (1, .int x1), (2, .int x2)] []) {x1 : Int32} {x2 : Int32} {σ : ST} (h : f_X3_parse_157 k11 x1 x2 σ = some q) : GoA p l e ({ frames := 166, cells := 0, slots := 0, locals := 4301 } : Room) s m args below meth c (MQ below (qAi dC dI a k A q) args s 0 0 A) dC dI a k A 6 157 σ [(0, .ref (a 36)), (1, .int x1), (2, .int x2)] [] := by
  have hC0 := hC
  obtain ⟨hx, hb, hr, hml, hown, hts, hlocks, hA, hN, hK⟩ := hC0
  intro H locs ls hP hD hS hl
  have hD0 : ∀ σ1 : ST, va_D A (wA a k σ1) := fun σ1 => wA_D hD
  unfold f_X3_parse_157 at h
  refine lv_iinc (v := (x2 + 1)) (lv' := [(2, .int (x2 + 1)), (0, .ref (a 36)), (1, .int x1)]) hx hb dX3_parse_157 hl (k := 2) rfl rfl (by decide) rfl (fun ls hl => ?_)
  refine lv_goto (tgt := 11) hx hb dX3_parse_160 (by decide) ?_
  exact hk11 _ _ _ h _ _ _ hP hD hS (lv_sub hl [1, 2, 0] rfl)

set_option maxRecDepth 100000 in
set_option maxHeartbeats 4000000 in
theorem b_X3_parse_127 {p : Program} {l : Launch} {e : Env} {s : State} {m : MethodId} {args : Array Value} {below : List Frame} {meth : Method} {c : Code} {dC : Nat → ClassId} {dI : Nat → Nat → Nat} {a : Nat → Nat} {k : Nat → ClassId} {A : Nat → Prop} {q : Int32 × ST} (hC : CxA p s m args meth c dC dI k A cX3_parse RX3 (some .boolean) 6)  {k11 : Int32 → Int32 → ST → Option (Int32 × ST)} (hk11 : ∀ (x1 : Int32) (x2 : Int32) (σ : ST), k11 x1 x2 σ = some q → GoA p l e ({ frames := 166, cells := 0, slots := 0, locals := 4301 } : Room) s m args below meth c (MQ below (qAi dC dI a k A q) args s 0 0 A) dC dI a k A 6 11 σ [(0, .ref (a 36)), (1, .int x1), (2, .int x2)] []) {x1 : Int32} {x2 : Int32} {x4 : Int32} {σ : ST} (h : f_X3_parse_127 k11 x1 x2 x4 σ = some q) : GoA p l e ({ frames := 166, cells := 0, slots := 0, locals := 4301 } : Room) s m args below meth c (MQ below (qAi dC dI a k A q) args s 0 0 A) dC dI a k A 6 127 σ [(0, .ref (a 36)), (1, .int x1), (2, .int x2), (4, .int x4)] [] := by
  have hC0 := hC
  obtain ⟨hx, hb, hr, hml, hown, hts, hlocks, hA, hN, hK⟩ := hC0
  intro H locs ls hP hD hS hl
  have hD0 : ∀ σ1 : ST, va_D A (wA a k σ1) := fun σ1 => wA_D hD
  unfold f_X3_parse_127 at h
  refine lv_aload_n hx hb dX3_parse_127 rfl (lv_at hl 0 rfl) ?_
  refine lv_iload_n hx hb dX3_parse_128 rfl (lv_at hl 1 rfl) ?_
  obtain ⟨q1, hc, h⟩ := ib h
  have hF := va_frees hD hS hA
  refine va_calli (va_runV (As := [.int x1]) (rest := []) ⟨hx, hb, hml, hown, hts⟩ (s_X3_resolve hc) (cwV 1 hts (gV mw_7_17 mw_7_18 mw_7_19 mw_0_7 mw_48_21) rfl rfl rfl (by decide +kernel) ⟨(Nat.le_of_ble_eq_true rfl), (Nat.le_of_ble_eq_true rfl)⟩) (vV (ci := 3) (q0 := 36) hK hP hD hN rfl gA_36) rfl rfl hl.1 rfl (lv_room (Nat.le_of_ble_eq_true rfl)) dX3_parse_129 ⟨(Nat.le_of_ble_eq_true rfl), (Nat.le_of_ble_eq_true rfl)⟩) hS (fun q _ h => hF q h) hF (fun r2 u t H locs ht hvm hw hB _ _ hS => ?_)
  obtain rfl : r2 = q1.1 := hw
  replace hP : va_P (dC, dI) vwCl (wA a k q1.2) H := by rw [← ht]; exact hB.1
  replace hD := hD0 (q1.2)
  clear hB hF
  refine lv_if_ne (tgt := 137) hx hb dX3_parse_132 (by decide) (fun hc => ?_) (fun hc => ?_)
  · replace h := iq hc h
    refine lv_iload hx hb dX3_parse_137 (lv_at hl 3 rfl) ?_
    refine lv_if_eq (tgt := 144) hx hb dX3_parse_139 (by decide) (fun hc => ?_) (fun hc => ?_)
    · replace h := ip hc h
      refine lv_iinc (v := (x1 + 1)) (lv' := [(1, .int (x1 + 1)), (0, .ref (a 36)), (2, .int x2), (4, .int x4)]) hx hb dX3_parse_144 hl (k := 1) rfl rfl (by decide) rfl (fun ls hl => ?_)
      refine lv_aload_n hx hb dX3_parse_147 rfl (lv_at hl 1 rfl) ?_
      refine lv_iload_n hx hb dX3_parse_148 rfl (lv_at hl 0 rfl) ?_
      obtain ⟨q3, hc, h⟩ := ib h
      have hF := va_frees hD hS hA
      refine va_calli (va_runV (As := [.int (x1 + 1)]) (rest := []) ⟨hx, hb, hml, hown, hts⟩ (s_X3_beginPlan hc) (cwV 1 hts (gV mw_7_20 mw_7_21 mw_7_22 mw_0_7 mw_48_22) rfl rfl rfl (by decide +kernel) ⟨(Nat.le_of_ble_eq_true rfl), (Nat.le_of_ble_eq_true rfl)⟩) (vV (ci := 3) (q0 := 36) hK hP hD hN rfl gA_36) rfl rfl hl.1 rfl (lv_room (Nat.le_of_ble_eq_true rfl)) dX3_parse_149 ⟨(Nat.le_of_ble_eq_true rfl), (Nat.le_of_ble_eq_true rfl)⟩) hS (fun q _ h => hF q h) hF (fun r4 u t H locs ht hvm hw hB _ _ hS => ?_)
      obtain rfl : r4 = q3.1 := hw
      replace hP : va_P (dC, dI) vwCl (wA a k q3.2) H := by rw [← ht]; exact hB.1
      replace hD := hD0 (q3.2)
      clear hB hF
      refine lv_if_ne (tgt := 157) hx hb dX3_parse_152 (by decide) (fun hc => ?_) (fun hc => ?_)
      · replace h := iq hc h
        exact b_X3_parse_157 hC hk11 h _ _ _ hP hD hS (lv_sub hl [1, 0, 2] rfl)
      · replace h := ip hc h
        refine lv_iconst (v := 0) hx hb dX3_parse_155 (by decide) ?_
        obtain rfl := Option.some.inj h
        exact W.zret hx hb hr rfl (fun t ht hW => ⟨⟨_, (), rfl, rfl, ⟨by rw [ht]; exact hP, va_K.moved hW.alike hK, hD⟩⟩, hS.F ht⟩) hS.2.2 dX3_parse_156
    · replace h := iq hc h
      refine lv_iconst (v := 1) hx hb dX3_parse_142 (by decide) ?_
      obtain rfl := Option.some.inj h
      exact W.zret hx hb hr rfl (fun t ht hW => ⟨⟨_, (), rfl, rfl, ⟨by rw [ht]; exact hP, va_K.moved hW.alike hK, hD⟩⟩, hS.F ht⟩) hS.2.2 dX3_parse_143
  · replace h := ip hc h
    refine lv_iconst (v := 0) hx hb dX3_parse_135 (by decide) ?_
    obtain rfl := Option.some.inj h
    exact W.zret hx hb hr rfl (fun t ht hW => ⟨⟨_, (), rfl, rfl, ⟨by rw [ht]; exact hP, va_K.moved hW.alike hK, hD⟩⟩, hS.F ht⟩) hS.2.2 dX3_parse_136

set_option maxRecDepth 100000 in
set_option maxHeartbeats 4000000 in
theorem b_X3_parse_106 {p : Program} {l : Launch} {e : Env} {s : State} {m : MethodId} {args : Array Value} {below : List Frame} {meth : Method} {c : Code} {dC : Nat → ClassId} {dI : Nat → Nat → Nat} {a : Nat → Nat} {k : Nat → ClassId} {A : Nat → Prop} {q : Int32 × ST} (hC : CxA p s m args meth c dC dI k A cX3_parse RX3 (some .boolean) 6)  {k11 : Int32 → Int32 → ST → Option (Int32 × ST)} (hk11 : ∀ (x1 : Int32) (x2 : Int32) (σ : ST), k11 x1 x2 σ = some q → GoA p l e ({ frames := 166, cells := 0, slots := 0, locals := 4301 } : Room) s m args below meth c (MQ below (qAi dC dI a k A q) args s 0 0 A) dC dI a k A 6 11 σ [(0, .ref (a 36)), (1, .int x1), (2, .int x2)] []) {x1 : Int32} {x2 : Int32} {x4 : Int32} {y0 : Int32} {σ : ST} (h : f_X3_parse_106 k11 x1 x2 x4 y0 σ = some q) : GoA p l e ({ frames := 166, cells := 0, slots := 0, locals := 4301 } : Room) s m args below meth c (MQ below (qAi dC dI a k A q) args s 0 0 A) dC dI a k A 6 106 σ [(0, .ref (a 36)), (1, .int x1), (2, .int x2), (4, .int x4)] [.int y0] := by
  have hC0 := hC
  obtain ⟨hx, hb, hr, hml, hown, hts, hlocks, hA, hN, hK⟩ := hC0
  intro H locs ls hP hD hS hl
  have hD0 : ∀ σ1 : ST, va_D A (wA a k σ1) := fun σ1 => wA_D hD
  unfold f_X3_parse_106 at h
  refine lv_istore (lv' := [(5, .int y0), (0, .ref (a 36)), (1, .int x1), (2, .int x2), (4, .int x4)]) hx hb dX3_parse_106 hl (by decide) rfl (fun ls hl => ?_)
  refine lv_iload hx hb dX3_parse_108 (lv_at hl 4 rfl) ?_
  refine lv_if_ne (tgt := 127) hx hb dX3_parse_110 (by decide) (fun hc => ?_) (fun hc => ?_)
  · replace h := iq hc h
    exact b_X3_parse_127 hC hk11 h _ _ _ hP hD hS (lv_sub hl [1, 2, 3, 4] rfl)
  · replace h := ip hc h
    refine lv_iload hx hb dX3_parse_113 (lv_at hl 0 rfl) ?_
    refine lv_if_ne (tgt := 127) hx hb dX3_parse_115 (by decide) (fun hc => ?_) (fun hc => ?_)
    · replace h := iq hc h
      exact b_X3_parse_127 hC hk11 h _ _ _ hP hD hS (lv_sub hl [1, 2, 3, 4] rfl)
    · replace h := ip hc h
      refine lv_aload_n hx hb dX3_parse_118 rfl (lv_at hl 1 rfl) ?_
      refine va_get (D := (dC, dI)) (ci := 3) (C := RX3) (T := TX3) (N := 2) hx hb hts inlX3 hown hK hP 36 gA_36 rfl 0 (by decide) (hts (.fieldLink RX3 9 "ShapeReader$PlanText" "tokens" "LShapeReader$Tokens;") mw_7_1) (fun _ h9 => h9) rfl dX3_parse_119 ?_
      refine lv_iconst (v := 1) hx hb dX3_parse_122 (by decide) ?_
      obtain ⟨q1, hc, h⟩ := ib h
      have hF := va_frees hD hS hA
      refine va_calli (va_runV (As := [.int 1]) (rest := []) ⟨hx, hb, hml, hown, hts⟩ (s_X6_refuse hc) (cwV 1 hts (gV mw_7_14 mw_7_15 mw_7_16 mw_0_10 mw_51_4) rfl rfl rfl (by decide +kernel) ⟨(Nat.le_of_ble_eq_true rfl), (Nat.le_of_ble_eq_true rfl)⟩) (vV (ci := 6) (q0 := 2) hK hP hD hN rfl gA_2) rfl rfl hl.1 rfl (lv_room (Nat.le_of_ble_eq_true rfl)) dX3_parse_123 ⟨(Nat.le_of_ble_eq_true rfl), (Nat.le_of_ble_eq_true rfl)⟩) hS (fun q _ h => hF q h) hF (fun r2 u t H locs ht hvm hw hB _ _ hS => ?_)
      obtain rfl : r2 = q1.1 := hw
      replace hP : va_P (dC, dI) vwCl (wA a k q1.2) H := by rw [← ht]; exact hB.1
      replace hD := hD0 (q1.2)
      clear hB hF
      obtain ⟨hg, h⟩ := ig h
      obtain rfl := Option.some.inj h
      exact W.zret hx hb hr (zn hg) (fun t ht hW => ⟨⟨_, (), rfl, rfl, ⟨by rw [ht]; exact hP, va_K.moved hW.alike hK, hD⟩⟩, hS.F ht⟩) hS.2.2 dX3_parse_126

set_option maxRecDepth 100000 in
set_option maxHeartbeats 4000000 in
theorem b_X3_parse_105 {p : Program} {l : Launch} {e : Env} {s : State} {m : MethodId} {args : Array Value} {below : List Frame} {meth : Method} {c : Code} {dC : Nat → ClassId} {dI : Nat → Nat → Nat} {a : Nat → Nat} {k : Nat → ClassId} {A : Nat → Prop} {q : Int32 × ST} (hC : CxA p s m args meth c dC dI k A cX3_parse RX3 (some .boolean) 6)  {k11 : Int32 → Int32 → ST → Option (Int32 × ST)} (hk11 : ∀ (x1 : Int32) (x2 : Int32) (σ : ST), k11 x1 x2 σ = some q → GoA p l e ({ frames := 166, cells := 0, slots := 0, locals := 4301 } : Room) s m args below meth c (MQ below (qAi dC dI a k A q) args s 0 0 A) dC dI a k A 6 11 σ [(0, .ref (a 36)), (1, .int x1), (2, .int x2)] []) {x1 : Int32} {x2 : Int32} {x4 : Int32} {σ : ST} (h : f_X3_parse_105 k11 x1 x2 x4 σ = some q) : GoA p l e ({ frames := 166, cells := 0, slots := 0, locals := 4301 } : Room) s m args below meth c (MQ below (qAi dC dI a k A q) args s 0 0 A) dC dI a k A 6 105 σ [(0, .ref (a 36)), (1, .int x1), (2, .int x2), (4, .int x4)] [] := by
  have hC0 := hC
  obtain ⟨hx, hb, hr, hml, hown, hts, hlocks, hA, hN, hK⟩ := hC0
  intro H locs ls hP hD hS hl
  have hD0 : ∀ σ1 : ST, va_D A (wA a k σ1) := fun σ1 => wA_D hD
  unfold f_X3_parse_105 at h
  refine lv_iconst (v := 0) hx hb dX3_parse_105 (by decide) ?_
  exact b_X3_parse_106 hC hk11 h _ _ _ hP hD hS (lv_sub hl [0, 1, 2, 3] rfl)

set_option maxRecDepth 100000 in
set_option maxHeartbeats 4000000 in
theorem b_X3_parse_90 {p : Program} {l : Launch} {e : Env} {s : State} {m : MethodId} {args : Array Value} {below : List Frame} {meth : Method} {c : Code} {dC : Nat → ClassId} {dI : Nat → Nat → Nat} {a : Nat → Nat} {k : Nat → ClassId} {A : Nat → Prop} {q : Int32 × ST} (hC : CxA p s m args meth c dC dI k A cX3_parse RX3 (some .boolean) 6)  {k11 : Int32 → Int32 → ST → Option (Int32 × ST)} (hk11 : ∀ (x1 : Int32) (x2 : Int32) (σ : ST), k11 x1 x2 σ = some q → GoA p l e ({ frames := 166, cells := 0, slots := 0, locals := 4301 } : Room) s m args below meth c (MQ below (qAi dC dI a k A q) args s 0 0 A) dC dI a k A 6 11 σ [(0, .ref (a 36)), (1, .int x1), (2, .int x2)] []) {x1 : Int32} {x2 : Int32} {x4 : Int32} {σ : ST} (h : f_X3_parse_90 k11 x1 x2 x4 σ = some q) : GoA p l e ({ frames := 166, cells := 0, slots := 0, locals := 4301 } : Room) s m args below meth c (MQ below (qAi dC dI a k A q) args s 0 0 A) dC dI a k A 6 90 σ [(0, .ref (a 36)), (1, .int x1), (2, .int x2), (4, .int x4)] [] := by
  have hC0 := hC
  obtain ⟨hx, hb, hr, hml, hown, hts, hlocks, hA, hN, hK⟩ := hC0
  intro H locs ls hP hD hS hl
  have hD0 : ∀ σ1 : ST, va_D A (wA a k σ1) := fun σ1 => wA_D hD
  unfold f_X3_parse_90 at h
  refine lv_aload_n hx hb dX3_parse_90 rfl (lv_at hl 0 rfl) ?_
  refine va_get (D := (dC, dI)) (ci := 3) (C := RX3) (T := TX3) (N := 2) hx hb hts inlX3 hown hK hP 36 gA_36 rfl 0 (by decide) (hts (.fieldLink RX3 9 "ShapeReader$PlanText" "tokens" "LShapeReader$Tokens;") mw_7_1) (fun _ h9 => h9) rfl dX3_parse_91 ?_
  refine lv_iconst (v := 0) hx hb dX3_parse_94 (by decide) ?_
  obtain ⟨q1, hc, h⟩ := ib h
  have hF := va_frees hD hS hA
  refine va_calli (va_runV (As := [.int 0]) (rest := []) ⟨hx, hb, hml, hown, hts⟩ (s_X6_isKeyword hc) (cwV 1 hts (gV mw_7_7 mw_7_8 mw_7_9 mw_0_10 mw_51_15) rfl rfl rfl (by decide +kernel) ⟨(Nat.le_of_ble_eq_true rfl), (Nat.le_of_ble_eq_true rfl)⟩) (vV (ci := 6) (q0 := 2) hK hP hD hN rfl gA_2) rfl rfl hl.1 rfl (lv_room (Nat.le_of_ble_eq_true rfl)) dX3_parse_95 ⟨(Nat.le_of_ble_eq_true rfl), (Nat.le_of_ble_eq_true rfl)⟩) hS (fun q _ h => hF q h) hF (fun r2 u t H locs ht hvm hw hB _ _ hS => ?_)
  obtain rfl : r2 = q1.1 := hw
  replace hP : va_P (dC, dI) vwCl (wA a k q1.2) H := by rw [← ht]; exact hB.1
  replace hD := hD0 (q1.2)
  clear hB hF
  refine lv_if_eq (tgt := 105) hx hb dX3_parse_98 (by decide) (fun hc => ?_) (fun hc => ?_)
  · replace h := ip hc h
    exact b_X3_parse_105 hC hk11 h _ _ _ hP hD hS (lv_sub hl [0, 1, 2, 3] rfl)
  · replace h := iq hc h
    refine lv_iconst (v := 1) hx hb dX3_parse_101 (by decide) ?_
    refine lv_goto (tgt := 106) hx hb dX3_parse_102 (by decide) ?_
    exact b_X3_parse_106 hC hk11 h _ _ _ hP hD hS (lv_sub hl [0, 1, 2, 3] rfl)

set_option maxRecDepth 100000 in
set_option maxHeartbeats 4000000 in
theorem b_X3_parse_79 {p : Program} {l : Launch} {e : Env} {s : State} {m : MethodId} {args : Array Value} {below : List Frame} {meth : Method} {c : Code} {dC : Nat → ClassId} {dI : Nat → Nat → Nat} {a : Nat → Nat} {k : Nat → ClassId} {A : Nat → Prop} {q : Int32 × ST} (hC : CxA p s m args meth c dC dI k A cX3_parse RX3 (some .boolean) 6)  {k11 : Int32 → Int32 → ST → Option (Int32 × ST)} (hk11 : ∀ (x1 : Int32) (x2 : Int32) (σ : ST), k11 x1 x2 σ = some q → GoA p l e ({ frames := 166, cells := 0, slots := 0, locals := 4301 } : Room) s m args below meth c (MQ below (qAi dC dI a k A q) args s 0 0 A) dC dI a k A 6 11 σ [(0, .ref (a 36)), (1, .int x1), (2, .int x2)] []) {x1 : Int32} {x2 : Int32} {x3 : Int32} {y0 : Int32} {σ : ST} (h : f_X3_parse_79 k11 x1 x2 x3 y0 σ = some q) : GoA p l e ({ frames := 166, cells := 0, slots := 0, locals := 4301 } : Room) s m args below meth c (MQ below (qAi dC dI a k A q) args s 0 0 A) dC dI a k A 6 79 σ [(0, .ref (a 36)), (1, .int x1), (2, .int x2), (3, .int x3)] [.int y0] := by
  have hC0 := hC
  obtain ⟨hx, hb, hr, hml, hown, hts, hlocks, hA, hN, hK⟩ := hC0
  intro H locs ls hP hD hS hl
  have hD0 : ∀ σ1 : ST, va_D A (wA a k σ1) := fun σ1 => wA_D hD
  unfold f_X3_parse_79 at h
  refine lv_istore (lv' := [(4, .int y0), (0, .ref (a 36)), (1, .int x1), (2, .int x2), (3, .int x3)]) hx hb dX3_parse_79 hl (by decide) rfl (fun ls hl => ?_)
  refine lv_iload_n hx hb dX3_parse_81 rfl (lv_at hl 4 rfl) ?_
  refine lv_if_ne (tgt := 90) hx hb dX3_parse_82 (by decide) (fun hc => ?_) (fun hc => ?_)
  · replace h := iq hc h
    exact b_X3_parse_90 hC hk11 h _ _ _ hP hD hS (lv_sub hl [1, 2, 3, 0] rfl)
  · replace h := ip hc h
    refine lv_iload_n hx hb dX3_parse_85 rfl (lv_at hl 2 rfl) ?_
    refine lv_iconst (v := (-1)) hx hb dX3_parse_86 (by decide) ?_
    refine lv_icmp_ne (tgt := 105) hx hb dX3_parse_87 (by decide) (fun hc => ?_) (fun hc => ?_)
    · replace h := iq hc h
      exact b_X3_parse_105 hC hk11 h _ _ _ hP hD hS (lv_sub hl [1, 2, 3, 0] rfl)
    · replace h := ip hc h
      exact b_X3_parse_90 hC hk11 h _ _ _ hP hD hS (lv_sub hl [1, 2, 3, 0] rfl)

set_option maxRecDepth 100000 in
set_option maxHeartbeats 4000000 in
theorem b_X3_parse_78 {p : Program} {l : Launch} {e : Env} {s : State} {m : MethodId} {args : Array Value} {below : List Frame} {meth : Method} {c : Code} {dC : Nat → ClassId} {dI : Nat → Nat → Nat} {a : Nat → Nat} {k : Nat → ClassId} {A : Nat → Prop} {q : Int32 × ST} (hC : CxA p s m args meth c dC dI k A cX3_parse RX3 (some .boolean) 6)  {k11 : Int32 → Int32 → ST → Option (Int32 × ST)} (hk11 : ∀ (x1 : Int32) (x2 : Int32) (σ : ST), k11 x1 x2 σ = some q → GoA p l e ({ frames := 166, cells := 0, slots := 0, locals := 4301 } : Room) s m args below meth c (MQ below (qAi dC dI a k A q) args s 0 0 A) dC dI a k A 6 11 σ [(0, .ref (a 36)), (1, .int x1), (2, .int x2)] []) {x1 : Int32} {x2 : Int32} {x3 : Int32} {σ : ST} (h : f_X3_parse_78 k11 x1 x2 x3 σ = some q) : GoA p l e ({ frames := 166, cells := 0, slots := 0, locals := 4301 } : Room) s m args below meth c (MQ below (qAi dC dI a k A q) args s 0 0 A) dC dI a k A 6 78 σ [(0, .ref (a 36)), (1, .int x1), (2, .int x2), (3, .int x3)] [] := by
  have hC0 := hC
  obtain ⟨hx, hb, hr, hml, hown, hts, hlocks, hA, hN, hK⟩ := hC0
  intro H locs ls hP hD hS hl
  have hD0 : ∀ σ1 : ST, va_D A (wA a k σ1) := fun σ1 => wA_D hD
  unfold f_X3_parse_78 at h
  refine lv_iconst (v := 0) hx hb dX3_parse_78 (by decide) ?_
  exact b_X3_parse_79 hC hk11 h _ _ _ hP hD hS (lv_sub hl [0, 1, 2, 3] rfl)

set_option maxRecDepth 100000 in
set_option maxHeartbeats 4000000 in
theorem b_X3_parse_60 {p : Program} {l : Launch} {e : Env} {s : State} {m : MethodId} {args : Array Value} {below : List Frame} {meth : Method} {c : Code} {dC : Nat → ClassId} {dI : Nat → Nat → Nat} {a : Nat → Nat} {k : Nat → ClassId} {A : Nat → Prop} {q : Int32 × ST} (hC : CxA p s m args meth c dC dI k A cX3_parse RX3 (some .boolean) 6)  {k11 : Int32 → Int32 → ST → Option (Int32 × ST)} (hk11 : ∀ (x1 : Int32) (x2 : Int32) (σ : ST), k11 x1 x2 σ = some q → GoA p l e ({ frames := 166, cells := 0, slots := 0, locals := 4301 } : Room) s m args below meth c (MQ below (qAi dC dI a k A q) args s 0 0 A) dC dI a k A 6 11 σ [(0, .ref (a 36)), (1, .int x1), (2, .int x2)] []) {x1 : Int32} {x2 : Int32} {x3 : Int32} {σ : ST} (h : f_X3_parse_60 k11 x1 x2 x3 σ = some q) : GoA p l e ({ frames := 166, cells := 0, slots := 0, locals := 4301 } : Room) s m args below meth c (MQ below (qAi dC dI a k A q) args s 0 0 A) dC dI a k A 6 60 σ [(0, .ref (a 36)), (1, .int x1), (2, .int x2), (3, .int x3)] [] := by
  have hC0 := hC
  obtain ⟨hx, hb, hr, hml, hown, hts, hlocks, hA, hN, hK⟩ := hC0
  intro H locs ls hP hD hS hl
  have hD0 : ∀ σ1 : ST, va_D A (wA a k σ1) := fun σ1 => wA_D hD
  unfold f_X3_parse_60 at h
  refine lv_iload_n hx hb dX3_parse_60 rfl (lv_at hl 3 rfl) ?_
  refine lv_if_eq (tgt := 78) hx hb dX3_parse_61 (by decide) (fun hc => ?_) (fun hc => ?_)
  · replace h := ip hc h
    exact b_X3_parse_78 hC hk11 h _ _ _ hP hD hS (lv_sub hl [0, 1, 2, 3] rfl)
  · replace h := iq hc h
    refine lv_aload_n hx hb dX3_parse_64 rfl (lv_at hl 0 rfl) ?_
    refine va_get (D := (dC, dI)) (ci := 3) (C := RX3) (T := TX3) (N := 2) hx hb hts inlX3 hown hK hP 36 gA_36 rfl 0 (by decide) (hts (.fieldLink RX3 9 "ShapeReader$PlanText" "tokens" "LShapeReader$Tokens;") mw_7_1) (fun _ h9 => h9) rfl dX3_parse_65 ?_
    refine va_get (D := (dC, dI)) (ci := 6) (C := RX6) (T := TX6) (N := 14) hx hb hts inlX6 hown hK hP 2 gA_2 rfl 4 (by decide) (hts (.fieldLink RX3 37 "ShapeReader$Tokens" "kind" "I") mw_7_13) (fun _ h9 => h9) rfl dX3_parse_68 ?_
    refine lv_if_ne (tgt := 78) hx hb dX3_parse_71 (by decide) (fun hc => ?_) (fun hc => ?_)
    · replace h := iq hc h
      exact b_X3_parse_78 hC hk11 h _ _ _ hP hD hS (lv_sub hl [0, 1, 2, 3] rfl)
    · replace h := ip hc h
      refine lv_iconst (v := 1) hx hb dX3_parse_74 (by decide) ?_
      refine lv_goto (tgt := 79) hx hb dX3_parse_75 (by decide) ?_
      exact b_X3_parse_79 hC hk11 h _ _ _ hP hD hS (lv_sub hl [0, 1, 2, 3] rfl)

set_option maxRecDepth 100000 in
set_option maxHeartbeats 4000000 in
theorem b_X3_parse_33 {p : Program} {l : Launch} {e : Env} {s : State} {m : MethodId} {args : Array Value} {below : List Frame} {meth : Method} {c : Code} {dC : Nat → ClassId} {dI : Nat → Nat → Nat} {a : Nat → Nat} {k : Nat → ClassId} {A : Nat → Prop} {q : Int32 × ST} (hC : CxA p s m args meth c dC dI k A cX3_parse RX3 (some .boolean) 6)  {k11 : Int32 → Int32 → ST → Option (Int32 × ST)} (hk11 : ∀ (x1 : Int32) (x2 : Int32) (σ : ST), k11 x1 x2 σ = some q → GoA p l e ({ frames := 166, cells := 0, slots := 0, locals := 4301 } : Room) s m args below meth c (MQ below (qAi dC dI a k A q) args s 0 0 A) dC dI a k A 6 11 σ [(0, .ref (a 36)), (1, .int x1), (2, .int x2)] []) {x1 : Int32} {x2 : Int32} {y0 : Int32} {σ : ST} (h : f_X3_parse_33 k11 x1 x2 y0 σ = some q) : GoA p l e ({ frames := 166, cells := 0, slots := 0, locals := 4301 } : Room) s m args below meth c (MQ below (qAi dC dI a k A q) args s 0 0 A) dC dI a k A 6 33 σ [(0, .ref (a 36)), (1, .int x1), (2, .int x2)] [.int y0] := by
  have hC0 := hC
  obtain ⟨hx, hb, hr, hml, hown, hts, hlocks, hA, hN, hK⟩ := hC0
  intro H locs ls hP hD hS hl
  have hD0 : ∀ σ1 : ST, va_D A (wA a k σ1) := fun σ1 => wA_D hD
  unfold f_X3_parse_33 at h
  refine lv_istore_n (lv' := [(3, .int y0), (0, .ref (a 36)), (1, .int x1), (2, .int x2)]) hx hb dX3_parse_33 rfl hl (by decide) rfl (fun ls hl => ?_)
  refine lv_iload_n hx hb dX3_parse_34 rfl (lv_at hl 2 rfl) ?_
  refine lv_iconst (v := (-1)) hx hb dX3_parse_35 (by decide) ?_
  refine lv_icmp_eq (tgt := 60) hx hb dX3_parse_36 (by decide) (fun hc => ?_) (fun hc => ?_)
  · replace h := ip hc h
    exact b_X3_parse_60 hC hk11 h _ _ _ hP hD hS (lv_sub hl [1, 2, 3, 0] rfl)
  · replace h := iq hc h
    refine lv_aload_n hx hb dX3_parse_39 rfl (lv_at hl 1 rfl) ?_
    refine va_get (D := (dC, dI)) (ci := 3) (C := RX3) (T := TX3) (N := 2) hx hb hts inlX3 hown hK hP 36 gA_36 rfl 0 (by decide) (hts (.fieldLink RX3 9 "ShapeReader$PlanText" "tokens" "LShapeReader$Tokens;") mw_7_1) (fun _ h9 => h9) rfl dX3_parse_40 ?_
    refine lv_iconst (v := 1) hx hb dX3_parse_43 (by decide) ?_
    obtain ⟨q1, hc, h⟩ := ib h
    have hF := va_frees hD hS hA
    refine va_calli (va_runV (As := [.int 1]) (rest := []) ⟨hx, hb, hml, hown, hts⟩ (s_X6_isKeyword hc) (cwV 1 hts (gV mw_7_7 mw_7_8 mw_7_9 mw_0_10 mw_51_15) rfl rfl rfl (by decide +kernel) ⟨(Nat.le_of_ble_eq_true rfl), (Nat.le_of_ble_eq_true rfl)⟩) (vV (ci := 6) (q0 := 2) hK hP hD hN rfl gA_2) rfl rfl hl.1 rfl (lv_room (Nat.le_of_ble_eq_true rfl)) dX3_parse_44 ⟨(Nat.le_of_ble_eq_true rfl), (Nat.le_of_ble_eq_true rfl)⟩) hS (fun q _ h => hF q h) hF (fun r2 u t H locs ht hvm hw hB _ _ hS => ?_)
    obtain rfl : r2 = q1.1 := hw
    replace hP : va_P (dC, dI) vwCl (wA a k q1.2) H := by rw [← ht]; exact hB.1
    replace hD := hD0 (q1.2)
    clear hB hF
    refine lv_if_eq (tgt := 60) hx hb dX3_parse_47 (by decide) (fun hc => ?_) (fun hc => ?_)
    · replace h := ip hc h
      exact b_X3_parse_60 hC hk11 h _ _ _ hP hD hS (lv_sub hl [1, 2, 3, 0] rfl)
    · replace h := iq hc h
      refine lv_aload_n hx hb dX3_parse_50 rfl (lv_at hl 1 rfl) ?_
      refine lv_iload_n hx hb dX3_parse_51 rfl (lv_at hl 2 rfl) ?_
      obtain ⟨q3, hc, h⟩ := ib h
      have hF := va_frees hD hS hA
      refine va_calli (va_runV (As := [.int x1]) (rest := []) ⟨hx, hb, hml, hown, hts⟩ (s_X3_parseRecord hc) (cwV 1 hts (gV mw_7_10 mw_7_11 mw_7_12 mw_0_7 mw_48_23) rfl rfl rfl (by decide +kernel) ⟨(Nat.le_of_ble_eq_true rfl), (Nat.le_of_ble_eq_true rfl)⟩) (vV (ci := 3) (q0 := 36) hK hP hD hN rfl gA_36) rfl rfl hl.1 rfl (lv_room (Nat.le_of_ble_eq_true rfl)) dX3_parse_52 ⟨(Nat.le_of_ble_eq_true rfl), (Nat.le_of_ble_eq_true rfl)⟩) hS (fun q _ h => hF q h) hF (fun r4 u t H locs ht hvm hw hB _ _ hS => ?_)
      obtain rfl : r4 = q3.1 := hw
      replace hP : va_P (dC, dI) vwCl (wA a k q3.2) H := by rw [← ht]; exact hB.1
      replace hD := hD0 (q3.2)
      clear hB hF
      refine lv_if_ne (tgt := 157) hx hb dX3_parse_55 (by decide) (fun hc => ?_) (fun hc => ?_)
      · replace h := iq hc h
        exact b_X3_parse_157 hC hk11 h _ _ _ hP hD hS (lv_sub hl [1, 2, 3] rfl)
      · replace h := ip hc h
        refine lv_iconst (v := 0) hx hb dX3_parse_58 (by decide) ?_
        obtain rfl := Option.some.inj h
        exact W.zret hx hb hr rfl (fun t ht hW => ⟨⟨_, (), rfl, rfl, ⟨by rw [ht]; exact hP, va_K.moved hW.alike hK, hD⟩⟩, hS.F ht⟩) hS.2.2 dX3_parse_59

set_option maxRecDepth 100000 in
set_option maxHeartbeats 4000000 in
theorem b_X3_parse_11 {p : Program} {l : Launch} {e : Env} {s : State} {m : MethodId} {args : Array Value} {below : List Frame} {meth : Method} {c : Code} {dC : Nat → ClassId} {dI : Nat → Nat → Nat} {a : Nat → Nat} {k : Nat → ClassId} {A : Nat → Prop} {q : Int32 × ST} (hC : CxA p s m args meth c dC dI k A cX3_parse RX3 (some .boolean) 6)   : ∀ (n : Nat) (x1 : Int32) (x2 : Int32) (σ : ST), f_X3_parse_11  n x1 x2 σ = some q → GoA p l e ({ frames := 166, cells := 0, slots := 0, locals := 4301 } : Room) s m args below meth c (MQ below (qAi dC dI a k A q) args s 0 0 A) dC dI a k A 6 11 σ [(0, .ref (a 36)), (1, .int x1), (2, .int x2)] [] := by
  intro n
  induction n with
  | zero =>
    intro x1 x2 σ h
    rw [f_X3_parse_11] at h
    cases h
  | succ n ih =>
    intro x1 x2 σ h
    have hC0 := hC
    obtain ⟨hx, hb, hr, hml, hown, hts, hlocks, hA, hN, hK⟩ := hC0
    intro H locs ls hP hD hS hl
    have hD0 : ∀ σ1 : ST, va_D A (wA a k σ1) := fun σ1 => wA_D hD
    rw [f_X3_parse_11] at h
    refine lv_iload_n hx hb dX3_parse_11 rfl (lv_at hl 2 rfl) ?_
    refine lv_bipush (v := 42) hx hb dX3_parse_12 (by decide) ?_
    refine lv_icmp_gt (tgt := 163) hx hb dX3_parse_14 (by decide) (fun hc => ?_) (fun hc => ?_)
    · replace h := ip hc h
      refine lv_iconst (v := 0) hx hb dX3_parse_163 (by decide) ?_
      obtain rfl := Option.some.inj h
      exact W.zret hx hb hr rfl (fun t ht hW => ⟨⟨_, (), rfl, rfl, ⟨by rw [ht]; exact hP, va_K.moved hW.alike hK, hD⟩⟩, hS.F ht⟩) hS.2.2 dX3_parse_164
    · replace h := iq hc h
      refine lv_aload_n hx hb dX3_parse_17 rfl (lv_at hl 0 rfl) ?_
      refine va_get (D := (dC, dI)) (ci := 3) (C := RX3) (T := TX3) (N := 2) hx hb hts inlX3 hown hK hP 36 gA_36 rfl 1 (by decide) (hts (.fieldLink RX3 15 "ShapeReader$PlanText" "draft" "LShapeReader$Shapes;") mw_7_2) (fun _ h9 => h9) rfl dX3_parse_18 ?_
      refine lv_iload_n hx hb dX3_parse_21 rfl (lv_at hl 1 rfl) ?_
      obtain ⟨q1, hc, h⟩ := ib h
      have hF := va_frees hD hS hA
      refine va_calli (va_runV (As := [.int x1]) (rest := []) ⟨hx, hb, hml, hown, hts⟩ (s_X5_recordsOf_20 hc) (cwV 1 hts (gV mw_7_6 mw_1_13 mw_1_14 mw_0_9 mw_49_27) rfl rfl rfl (by decide +kernel) ⟨(Nat.le_of_ble_eq_true rfl), (Nat.le_of_ble_eq_true rfl)⟩) (vV (ci := 5) (q0 := 20) hK hP hD hN rfl gA_20) rfl rfl hl.1 rfl (lv_room (Nat.le_of_ble_eq_true rfl)) dX3_parse_22 ⟨(Nat.le_of_ble_eq_true rfl), (Nat.le_of_ble_eq_true rfl)⟩) hS (fun q _ h => hF q h) hF (fun r2 u t H locs ht hvm hw hB _ _ hS => ?_)
      obtain rfl : r2 = q1.1 := hw
      replace hP : va_P (dC, dI) vwCl (wA a k q1.2) H := by rw [← ht]; exact hB.1
      replace hD := hD0 (q1.2)
      clear hB hF
      refine lv_if_le (tgt := 32) hx hb dX3_parse_25 (by decide) (fun hc => ?_) (fun hc => ?_)
      · replace h := ip hc h
        refine lv_iconst (v := 0) hx hb dX3_parse_32 (by decide) ?_
        exact b_X3_parse_33 hC ih h _ _ _ hP hD hS (lv_sub hl [0, 1, 2] rfl)
      · replace h := iq hc h
        refine lv_iconst (v := 1) hx hb dX3_parse_28 (by decide) ?_
        refine lv_goto (tgt := 33) hx hb dX3_parse_29 (by decide) ?_
        exact b_X3_parse_33 hC ih h _ _ _ hP hD hS (lv_sub hl [0, 1, 2] rfl)

set_option maxRecDepth 100000 in
set_option maxHeartbeats 4000000 in
theorem b_X3_parse_e {p : Program} {l : Launch} {e : Env} {s : State} {m : MethodId} {args : Array Value} {below : List Frame} {meth : Method} {c : Code} {dC : Nat → ClassId} {dI : Nat → Nat → Nat} {a : Nat → Nat} {k : Nat → ClassId} {A : Nat → Prop} {q : Int32 × ST} (hC : CxA p s m args meth c dC dI k A cX3_parse RX3 (some .boolean) 6)    {σ : ST} (h : f_X3_parse   σ = some q) : GoA p l e ({ frames := 166, cells := 0, slots := 0, locals := 4301 } : Room) s m args below meth c (MQ below (qAi dC dI a k A q) args s 0 0 A) dC dI a k A 6 0 σ (lv_args 0 [.ref (a 36)]) [] := by
  have hC0 := hC
  obtain ⟨hx, hb, hr, hml, hown, hts, hlocks, hA, hN, hK⟩ := hC0
  intro H locs ls hP hD hS hl
  have hD0 : ∀ σ1 : ST, va_D A (wA a k σ1) := fun σ1 => wA_D hD
  replace hl : lv_has ls 6 [(0, .ref (a 36))] := hl
  unfold f_X3_parse at h
  refine lv_aload_n hx hb dX3_parse_0 rfl (lv_at hl 0 rfl) ?_
  refine va_get (D := (dC, dI)) (ci := 3) (C := RX3) (T := TX3) (N := 2) hx hb hts inlX3 hown hK hP 36 gA_36 rfl 1 (by decide) (hts (.fieldLink RX3 15 "ShapeReader$PlanText" "draft" "LShapeReader$Shapes;") mw_7_2) (fun _ h9 => h9) rfl dX3_parse_1 ?_
  obtain ⟨q1, hc, h⟩ := ib h
  have hF := va_frees hD hS hA
  refine va_callv (va_runV (As := []) (rest := []) ⟨hx, hb, hml, hown, hts⟩ (s_X5_clear_20 hc) (cwV 0 hts (gV mw_7_3 mw_7_4 mw_7_5 mw_0_9 mw_49_22) rfl rfl rfl (by decide +kernel) ⟨(Nat.le_of_ble_eq_true rfl), (Nat.le_of_ble_eq_true rfl)⟩) (vV (ci := 5) (q0 := 20) hK hP hD hN rfl gA_20) rfl rfl hl.1 rfl (lv_room (Nat.le_of_ble_eq_true rfl)) dX3_parse_4 ⟨(Nat.le_of_ble_eq_true rfl), (Nat.le_of_ble_eq_true rfl)⟩) hS (fun q _ h => hF q h) hF (fun u t H locs ht hvm hw hB _ _ hS => ?_)
  replace hP : va_P (dC, dI) vwCl (wA a k q1) H := by rw [← ht]; exact hB.1
  replace hD := hD0 (q1)
  clear hB hF
  refine lv_iconst (v := (-1)) hx hb dX3_parse_7 (by decide) ?_
  refine lv_istore_n (lv' := [(1, .int (-1)), (0, .ref (a 36))]) hx hb dX3_parse_8 rfl hl (by decide) rfl (fun ls hl => ?_)
  refine lv_iconst (v := 0) hx hb dX3_parse_9 (by decide) ?_
  refine lv_istore_n (lv' := [(2, .int 0), (1, .int (-1)), (0, .ref (a 36))]) hx hb dX3_parse_10 rfl hl (by decide) rfl (fun ls hl => ?_)
  exact b_X3_parse_11 hC FU _ _ _ h _ _ _ hP hD hS (lv_sub hl [2, 1, 0] rfl)

theorem s_X3_parse {l : Launch} {dC : Nat → ClassId} {dI : Nat → Nat → Nat} {a : Nat → Nat} {k : Nat → ClassId} {sz : Nat}  {σ : ST} {q : Int32 × ST} (h : f_X3_parse   σ = some q) : Met l yX3_parse (.code yX3_parse cX3_parse 6 (some .boolean) :: pw) ({ frames := 166, cells := 0, slots := 0, locals := 4301 } : Room) (va_Pc [.ref (a 36)] (vPre dC dI (wA a k σ) (tA k) sz)) (qAi dC dI a k (va_A (wA a k σ) sz) q) 0 0 (va_A (wA a k σ) sz) := metA (fun A => qAi dC dI a k A q) (plainFor_of_name (by decide)) (Nat.le_of_ble_eq_true rfl) (fun _ _ _ _ _ _ _ _ hC => b_X3_parse_e hC h)

def f_X5_copyFrom (b : Nat) (σ : ST) : Option (ST) := (some (stI (stI σ b 0 (σ.1 20 0)) b 1 ((stI σ b 0 (σ.1 20 0)).1 20 1))).bind fun z1 => if ¬ (0 : Int32) < 0 ∧ ¬ (0 : Int32) < 0 ∧ ¬ (6 : Int32) < 0 ∧ (0 : Int32).toNatClampNeg + (6 : Int32).toNatClampNeg ≤ 6 ∧ (0 : Int32).toNatClampNeg + (6 : Int32).toNatClampNeg ≤ 6 then ((some (stF z1 (b + 1) (va_cpy (z1.1 21) (z1.1 (b + 1)) (0 : Int32).toNatClampNeg (0 : Int32).toNatClampNeg (6 : Int32).toNatClampNeg))).bind fun z2 => if ¬ (0 : Int32) < 0 ∧ ¬ (0 : Int32) < 0 ∧ ¬ (6 : Int32) < 0 ∧ (0 : Int32).toNatClampNeg + (6 : Int32).toNatClampNeg ≤ 6 ∧ (0 : Int32).toNatClampNeg + (6 : Int32).toNatClampNeg ≤ 6 then ((some (stF z2 (b + 2) (va_cpy (z2.1 22) (z2.1 (b + 2)) (0 : Int32).toNatClampNeg (0 : Int32).toNatClampNeg (6 : Int32).toNatClampNeg))).bind fun z3 => if ¬ (0 : Int32) < 0 ∧ ¬ (0 : Int32) < 0 ∧ ¬ (36 : Int32) < 0 ∧ (0 : Int32).toNatClampNeg + (36 : Int32).toNatClampNeg ≤ 36 ∧ (0 : Int32).toNatClampNeg + (36 : Int32).toNatClampNeg ≤ 36 then ((some (stF z3 (b + 3) (va_cpy (z3.1 23) (z3.1 (b + 3)) (0 : Int32).toNatClampNeg (0 : Int32).toNatClampNeg (36 : Int32).toNatClampNeg))).bind fun z4 => if ¬ (0 : Int32) < 0 ∧ ¬ (0 : Int32) < 0 ∧ ¬ (36 : Int32) < 0 ∧ (0 : Int32).toNatClampNeg + (36 : Int32).toNatClampNeg ≤ 36 ∧ (0 : Int32).toNatClampNeg + (36 : Int32).toNatClampNeg ≤ 36 then ((some (stFL z4 (b + 4) (va_cpy (z4.2.1 24) (z4.2.1 (b + 4)) (0 : Int32).toNatClampNeg (0 : Int32).toNatClampNeg (36 : Int32).toNatClampNeg))).bind fun z5 => if ¬ (0 : Int32) < 0 ∧ ¬ (0 : Int32) < 0 ∧ ¬ (36 : Int32) < 0 ∧ (0 : Int32).toNatClampNeg + (36 : Int32).toNatClampNeg ≤ 36 ∧ (0 : Int32).toNatClampNeg + (36 : Int32).toNatClampNeg ≤ 36 then ((some (stF z5 (b + 5) (va_cpy (z5.1 25) (z5.1 (b + 5)) (0 : Int32).toNatClampNeg (0 : Int32).toNatClampNeg (36 : Int32).toNatClampNeg))).bind fun z6 => if ¬ (0 : Int32) < 0 ∧ ¬ (0 : Int32) < 0 ∧ ¬ (288 : Int32) < 0 ∧ (0 : Int32).toNatClampNeg + (288 : Int32).toNatClampNeg ≤ 288 ∧ (0 : Int32).toNatClampNeg + (288 : Int32).toNatClampNeg ≤ 288 then ((some (stFL z6 (b + 7) (va_cpy (z6.2.1 27) (z6.2.1 (b + 7)) (0 : Int32).toNatClampNeg (0 : Int32).toNatClampNeg (288 : Int32).toNatClampNeg))).bind fun z7 => if ¬ (0 : Int32) < 0 ∧ ¬ (0 : Int32) < 0 ∧ ¬ (288 : Int32) < 0 ∧ (0 : Int32).toNatClampNeg + (288 : Int32).toNatClampNeg ≤ 288 ∧ (0 : Int32).toNatClampNeg + (288 : Int32).toNatClampNeg ≤ 288 then ((some (stFL z7 (b + 8) (va_cpy (z7.2.1 28) (z7.2.1 (b + 8)) (0 : Int32).toNatClampNeg (0 : Int32).toNatClampNeg (288 : Int32).toNatClampNeg))).bind fun z8 => if ¬ (0 : Int32) < 0 ∧ ¬ (0 : Int32) < 0 ∧ ¬ (288 : Int32) < 0 ∧ (0 : Int32).toNatClampNeg + (288 : Int32).toNatClampNeg ≤ 288 ∧ (0 : Int32).toNatClampNeg + (288 : Int32).toNatClampNeg ≤ 288 then ((some (stF z8 (b + 9) (va_cpy (z8.1 29) (z8.1 (b + 9)) (0 : Int32).toNatClampNeg (0 : Int32).toNatClampNeg (288 : Int32).toNatClampNeg))).bind fun z9 => if ¬ (0 : Int32) < 0 ∧ ¬ (0 : Int32) < 0 ∧ ¬ (288 : Int32) < 0 ∧ (0 : Int32).toNatClampNeg + (288 : Int32).toNatClampNeg ≤ 288 ∧ (0 : Int32).toNatClampNeg + (288 : Int32).toNatClampNeg ≤ 288 then ((some (stFL z9 (b + 10) (va_cpy (z9.2.1 30) (z9.2.1 (b + 10)) (0 : Int32).toNatClampNeg (0 : Int32).toNatClampNeg (288 : Int32).toNatClampNeg))).bind fun z10 => if ¬ (0 : Int32) < 0 ∧ ¬ (0 : Int32) < 0 ∧ ¬ (262 : Int32) < 0 ∧ (0 : Int32).toNatClampNeg + (262 : Int32).toNatClampNeg ≤ 262 ∧ (0 : Int32).toNatClampNeg + (262 : Int32).toNatClampNeg ≤ 262 then ((some (stF z10 (b + 11) (va_cpy (z10.1 31) (z10.1 (b + 11)) (0 : Int32).toNatClampNeg (0 : Int32).toNatClampNeg (262 : Int32).toNatClampNeg))).bind fun z11 => if ¬ (0 : Int32) < 0 ∧ ¬ (0 : Int32) < 0 ∧ ¬ (262 : Int32) < 0 ∧ (0 : Int32).toNatClampNeg + (262 : Int32).toNatClampNeg ≤ 262 ∧ (0 : Int32).toNatClampNeg + (262 : Int32).toNatClampNeg ≤ 262 then ((some (stF z11 (b + 12) (va_cpy (z11.1 32) (z11.1 (b + 12)) (0 : Int32).toNatClampNeg (0 : Int32).toNatClampNeg (262 : Int32).toNatClampNeg))).bind fun z12 => if ¬ (0 : Int32) < 0 ∧ ¬ (0 : Int32) < 0 ∧ ¬ (262 : Int32) < 0 ∧ (0 : Int32).toNatClampNeg + (262 : Int32).toNatClampNeg ≤ 262 ∧ (0 : Int32).toNatClampNeg + (262 : Int32).toNatClampNeg ≤ 262 then ((some (stF z12 (b + 13) (va_cpy (z12.1 33) (z12.1 (b + 13)) (0 : Int32).toNatClampNeg (0 : Int32).toNatClampNeg (262 : Int32).toNatClampNeg))).bind fun z13 => some z13) else none) else none) else none) else none) else none) else none) else none) else none) else none) else none) else none) else none

set_option maxRecDepth 100000 in
set_option maxHeartbeats 4000000 in
theorem b_X5_copyFrom_e_4 {p : Program} {l : Launch} {e : Env} {s : State} {m : MethodId} {args : Array Value} {below : List Frame} {meth : Method} {c : Code} {dC : Nat → ClassId} {dI : Nat → Nat → Nat} {a : Nat → Nat} {k : Nat → ClassId} {A : Nat → Prop} {q : ST} (hC : CxA p s m args meth c dC dI k A cX5_copyFrom RX5 none 2)    {σ : ST} (h : f_X5_copyFrom 4  σ = some q) : GoA p l e ({ frames := 1, cells := 0, slots := 0, locals := 30 } : Room) s m args below meth c (MQ below (qAv dC dI a k A q) args s 0 0 A) dC dI a k A 2 0 σ (lv_args 0 [.ref (a 4), .ref (a 20)]) [] := by
  have hC0 := hC
  obtain ⟨hx, hb, hr, hml, hown, hts, hlocks, hA, hN, hK⟩ := hC0
  intro H locs ls hP hD hS hl
  have hD0 : ∀ σ1 : ST, va_D A (wA a k σ1) := fun σ1 => wA_D hD
  replace hl : lv_has ls 2 [(0, .ref (a 4)), (1, .ref (a 20))] := hl
  unfold f_X5_copyFrom at h
  refine lv_aload_n hx hb dX5_copyFrom_0 rfl (lv_at hl 0 rfl) ?_
  refine lv_aload_n hx hb dX5_copyFrom_1 rfl (lv_at hl 1 rfl) ?_
  refine va_get (D := (dC, dI)) (ci := 5) (C := RX5) (T := TX5) (N := 17) hx hb hts inlX5 hown hK hP 20 gA_20 rfl 0 (by decide) (hts (.fieldLink RX5 9 "ShapeReader$Shapes" "planCount" "I") mw_14_17) (fun _ h9 => h9) rfl dX5_copyFrom_2 ?_
  refine va_put (D := (dC, dI)) (ci := 5) (ty := .int) (C := RX5) (T := TX5) (N := 17) hx hb hts inlX5 tyX5 tyX5_ok nmX5 hown hK hP hD hS 4 gA_4 rfl 0 (by decide) (hts (.fieldLink RX5 9 "ShapeReader$Shapes" "planCount" "I") mw_14_17) (fun _ h9 => h9) rfl (by decide +kernel) rfl rfl (Nat.le_of_ble_eq_true rfl) dX5_copyFrom_5 (fun H locs hP hD hS => ?_)
  replace hP := uA_4_0 hP
  replace hD := hD0 ((stI σ 4 0 (σ.1 20 0)))
  refine lv_aload_n hx hb dX5_copyFrom_8 rfl (lv_at hl 0 rfl) ?_
  refine lv_aload_n hx hb dX5_copyFrom_9 rfl (lv_at hl 1 rfl) ?_
  refine va_get (D := (dC, dI)) (ci := 5) (C := RX5) (T := TX5) (N := 17) hx hb hts inlX5 hown hK hP 20 gA_20 rfl 1 (by decide) (hts (.fieldLink RX5 15 "ShapeReader$Shapes" "typeCount" "I") mw_14_18) (fun _ h9 => h9) rfl dX5_copyFrom_10 ?_
  refine va_put (D := (dC, dI)) (ci := 5) (ty := .int) (C := RX5) (T := TX5) (N := 17) hx hb hts inlX5 tyX5 tyX5_ok nmX5 hown hK hP hD hS 4 gA_4 rfl 1 (by decide) (hts (.fieldLink RX5 15 "ShapeReader$Shapes" "typeCount" "I") mw_14_18) (fun _ h9 => h9) rfl (by decide +kernel) rfl rfl (Nat.le_of_ble_eq_true rfl) dX5_copyFrom_13 (fun H locs hP hD hS => ?_)
  replace hP := uA_4_1 hP
  replace hD := hD0 ((stI (stI σ 4 0 (σ.1 20 0)) 4 1 ((stI σ 4 0 (σ.1 20 0)).1 20 1)))
  obtain ⟨z1, hs, h⟩ := ib h
  replace hs := Option.some.inj hs
  replace hP : va_P (dC, dI) vwCl (wA a k z1) H := by rw [← hs]; exact hP
  replace hD := hD0 z1
  clear hs
  refine lv_aload_n hx hb dX5_copyFrom_16 rfl (lv_at hl 1 rfl) ?_
  refine va_get (D := (dC, dI)) (ci := 5) (C := RX5) (T := TX5) (N := 17) hx hb hts inlX5 hown hK hP 20 gA_20 rfl 2 (by decide) (hts (.fieldLink RX5 18 "ShapeReader$Shapes" "recordCounts" "[I") mw_14_19) (fun _ h9 => h9) rfl dX5_copyFrom_17 ?_
  refine lv_iconst (v := 0) hx hb dX5_copyFrom_20 (by decide) ?_
  refine lv_aload_n hx hb dX5_copyFrom_21 rfl (lv_at hl 0 rfl) ?_
  refine va_get (D := (dC, dI)) (ci := 5) (C := RX5) (T := TX5) (N := 17) hx hb hts inlX5 hown hK hP 4 gA_4 rfl 2 (by decide) (hts (.fieldLink RX5 18 "ShapeReader$Shapes" "recordCounts" "[I") mw_14_19) (fun _ h9 => h9) rfl dX5_copyFrom_22 ?_
  refine lv_iconst (v := 0) hx hb dX5_copyFrom_25 (by decide) ?_
  refine lv_bipush (v := 6) hx hb dX5_copyFrom_26 (by decide) ?_
  obtain ⟨hg, h⟩ := ig h
  refine va_copyi hx hb (hml.trans hl.1.symm) hown (hts (.methodLink RX5 65 arraycopyName) mw_15_4) (hts (.native arraycopyName) mw_4_0) (hts (.static arraycopyName) mw_4_1) (hts (.initialized "java/lang/System") mw_4_2) hK hP hD hS 21 5 17 2 gA_21 gA_5 yA_21 yA_5 rfl hg.1 hg.2.1 hg.2.2.1 hg.2.2.2.1 hg.2.2.2.2 (fun _ _ => rfl) (Nat.le_of_ble_eq_true rfl) (Nat.le_of_ble_eq_true rfl) dX5_copyFrom_28 (fun H locs hP hD hS => ?_)
  replace hP := vA_5 hP
  obtain ⟨z2, hs, h⟩ := ib h
  replace hs := Option.some.inj hs
  replace hP : va_P (dC, dI) vwCl (wA a k z2) H := by rw [← hs]; exact hP
  replace hD := hD0 z2
  clear hs
  refine lv_aload_n hx hb dX5_copyFrom_31 rfl (lv_at hl 1 rfl) ?_
  refine va_get (D := (dC, dI)) (ci := 5) (C := RX5) (T := TX5) (N := 17) hx hb hts inlX5 hown hK hP 20 gA_20 rfl 3 (by decide) (hts (.fieldLink RX5 22 "ShapeReader$Shapes" "rootTypes" "[I") mw_14_20) (fun _ h9 => h9) rfl dX5_copyFrom_32 ?_
  refine lv_iconst (v := 0) hx hb dX5_copyFrom_35 (by decide) ?_
  refine lv_aload_n hx hb dX5_copyFrom_36 rfl (lv_at hl 0 rfl) ?_
  refine va_get (D := (dC, dI)) (ci := 5) (C := RX5) (T := TX5) (N := 17) hx hb hts inlX5 hown hK hP 4 gA_4 rfl 3 (by decide) (hts (.fieldLink RX5 22 "ShapeReader$Shapes" "rootTypes" "[I") mw_14_20) (fun _ h9 => h9) rfl dX5_copyFrom_37 ?_
  refine lv_iconst (v := 0) hx hb dX5_copyFrom_40 (by decide) ?_
  refine lv_bipush (v := 6) hx hb dX5_copyFrom_41 (by decide) ?_
  obtain ⟨hg, h⟩ := ig h
  refine va_copyi hx hb (hml.trans hl.1.symm) hown (hts (.methodLink RX5 65 arraycopyName) mw_15_4) (hts (.native arraycopyName) mw_4_0) (hts (.static arraycopyName) mw_4_1) (hts (.initialized "java/lang/System") mw_4_2) hK hP hD hS 22 6 18 3 gA_22 gA_6 yA_22 yA_6 rfl hg.1 hg.2.1 hg.2.2.1 hg.2.2.2.1 hg.2.2.2.2 (fun _ _ => rfl) (Nat.le_of_ble_eq_true rfl) (Nat.le_of_ble_eq_true rfl) dX5_copyFrom_43 (fun H locs hP hD hS => ?_)
  replace hP := vA_6 hP
  obtain ⟨z3, hs, h⟩ := ib h
  replace hs := Option.some.inj hs
  replace hP : va_P (dC, dI) vwCl (wA a k z3) H := by rw [← hs]; exact hP
  replace hD := hD0 z3
  clear hs
  refine lv_aload_n hx hb dX5_copyFrom_46 rfl (lv_at hl 1 rfl) ?_
  refine va_get (D := (dC, dI)) (ci := 5) (C := RX5) (T := TX5) (N := 17) hx hb hts inlX5 hown hK hP 20 gA_20 rfl 4 (by decide) (hts (.fieldLink RX5 25 "ShapeReader$Shapes" "fieldCounts" "[I") mw_14_21) (fun _ h9 => h9) rfl dX5_copyFrom_47 ?_
  refine lv_iconst (v := 0) hx hb dX5_copyFrom_50 (by decide) ?_
  refine lv_aload_n hx hb dX5_copyFrom_51 rfl (lv_at hl 0 rfl) ?_
  refine va_get (D := (dC, dI)) (ci := 5) (C := RX5) (T := TX5) (N := 17) hx hb hts inlX5 hown hK hP 4 gA_4 rfl 4 (by decide) (hts (.fieldLink RX5 25 "ShapeReader$Shapes" "fieldCounts" "[I") mw_14_21) (fun _ h9 => h9) rfl dX5_copyFrom_52 ?_
  refine lv_iconst (v := 0) hx hb dX5_copyFrom_55 (by decide) ?_
  refine lv_bipush (v := 36) hx hb dX5_copyFrom_56 (by decide) ?_
  obtain ⟨hg, h⟩ := ig h
  refine va_copyi hx hb (hml.trans hl.1.symm) hown (hts (.methodLink RX5 65 arraycopyName) mw_15_4) (hts (.native arraycopyName) mw_4_0) (hts (.static arraycopyName) mw_4_1) (hts (.initialized "java/lang/System") mw_4_2) hK hP hD hS 23 7 19 4 gA_23 gA_7 yA_23 yA_7 rfl hg.1 hg.2.1 hg.2.2.1 hg.2.2.2.1 hg.2.2.2.2 (fun _ _ => rfl) (Nat.le_of_ble_eq_true rfl) (Nat.le_of_ble_eq_true rfl) dX5_copyFrom_58 (fun H locs hP hD hS => ?_)
  replace hP := vA_7 hP
  obtain ⟨z4, hs, h⟩ := ib h
  replace hs := Option.some.inj hs
  replace hP : va_P (dC, dI) vwCl (wA a k z4) H := by rw [← hs]; exact hP
  replace hD := hD0 z4
  clear hs
  refine lv_aload_n hx hb dX5_copyFrom_61 rfl (lv_at hl 1 rfl) ?_
  refine va_get (D := (dC, dI)) (ci := 5) (C := RX5) (T := TX5) (N := 17) hx hb hts inlX5 hown hK hP 20 gA_20 rfl 5 (by decide) (hts (.fieldLink RX5 28 "ShapeReader$Shapes" "recordNames" "[J") mw_14_22) (fun _ h9 => h9) rfl dX5_copyFrom_62 ?_
  refine lv_iconst (v := 0) hx hb dX5_copyFrom_65 (by decide) ?_
  refine lv_aload_n hx hb dX5_copyFrom_66 rfl (lv_at hl 0 rfl) ?_
  refine va_get (D := (dC, dI)) (ci := 5) (C := RX5) (T := TX5) (N := 17) hx hb hts inlX5 hown hK hP 4 gA_4 rfl 5 (by decide) (hts (.fieldLink RX5 28 "ShapeReader$Shapes" "recordNames" "[J") mw_14_22) (fun _ h9 => h9) rfl dX5_copyFrom_67 ?_
  refine lv_iconst (v := 0) hx hb dX5_copyFrom_70 (by decide) ?_
  refine lv_bipush (v := 36) hx hb dX5_copyFrom_71 (by decide) ?_
  obtain ⟨hg, h⟩ := ig h
  refine va_copyl hx hb (hml.trans hl.1.symm) hown (hts (.methodLink RX5 65 arraycopyName) mw_15_4) (hts (.native arraycopyName) mw_4_0) (hts (.static arraycopyName) mw_4_1) (hts (.initialized "java/lang/System") mw_4_2) hK hP hD hS 24 8 20 5 gA_24 gA_8 yA_24 yA_8 rfl hg.1 hg.2.1 hg.2.2.1 hg.2.2.2.1 hg.2.2.2.2 (fun _ _ => rfl) (Nat.le_of_ble_eq_true rfl) (Nat.le_of_ble_eq_true rfl) dX5_copyFrom_73 (fun H locs hP hD hS => ?_)
  replace hP := vA_8 hP
  obtain ⟨z5, hs, h⟩ := ib h
  replace hs := Option.some.inj hs
  replace hP : va_P (dC, dI) vwCl (wA a k z5) H := by rw [← hs]; exact hP
  replace hD := hD0 z5
  clear hs
  refine lv_aload_n hx hb dX5_copyFrom_76 rfl (lv_at hl 1 rfl) ?_
  refine va_get (D := (dC, dI)) (ci := 5) (C := RX5) (T := TX5) (N := 17) hx hb hts inlX5 hown hK hP 20 gA_20 rfl 6 (by decide) (hts (.fieldLink RX5 32 "ShapeReader$Shapes" "elseBits" "[I") mw_14_23) (fun _ h9 => h9) rfl dX5_copyFrom_77 ?_
  refine lv_iconst (v := 0) hx hb dX5_copyFrom_80 (by decide) ?_
  refine lv_aload_n hx hb dX5_copyFrom_81 rfl (lv_at hl 0 rfl) ?_
  refine va_get (D := (dC, dI)) (ci := 5) (C := RX5) (T := TX5) (N := 17) hx hb hts inlX5 hown hK hP 4 gA_4 rfl 6 (by decide) (hts (.fieldLink RX5 32 "ShapeReader$Shapes" "elseBits" "[I") mw_14_23) (fun _ h9 => h9) rfl dX5_copyFrom_82 ?_
  refine lv_iconst (v := 0) hx hb dX5_copyFrom_85 (by decide) ?_
  refine lv_bipush (v := 36) hx hb dX5_copyFrom_86 (by decide) ?_
  obtain ⟨hg, h⟩ := ig h
  refine va_copyi hx hb (hml.trans hl.1.symm) hown (hts (.methodLink RX5 65 arraycopyName) mw_15_4) (hts (.native arraycopyName) mw_4_0) (hts (.static arraycopyName) mw_4_1) (hts (.initialized "java/lang/System") mw_4_2) hK hP hD hS 25 9 21 6 gA_25 gA_9 yA_25 yA_9 rfl hg.1 hg.2.1 hg.2.2.1 hg.2.2.2.1 hg.2.2.2.2 (fun _ _ => rfl) (Nat.le_of_ble_eq_true rfl) (Nat.le_of_ble_eq_true rfl) dX5_copyFrom_88 (fun H locs hP hD hS => ?_)
  replace hP := vA_9 hP
  obtain ⟨z6, hs, h⟩ := ib h
  replace hs := Option.some.inj hs
  replace hP : va_P (dC, dI) vwCl (wA a k z6) H := by rw [← hs]; exact hP
  replace hD := hD0 z6
  clear hs
  refine lv_aload_n hx hb dX5_copyFrom_91 rfl (lv_at hl 1 rfl) ?_
  refine va_get (D := (dC, dI)) (ci := 5) (C := RX5) (T := TX5) (N := 17) hx hb hts inlX5 hown hK hP 20 gA_20 rfl 8 (by decide) (hts (.fieldLink RX5 38 "ShapeReader$Shapes" "fieldNames" "[J") mw_14_25) (fun _ h9 => h9) rfl dX5_copyFrom_92 ?_
  refine lv_iconst (v := 0) hx hb dX5_copyFrom_95 (by decide) ?_
  refine lv_aload_n hx hb dX5_copyFrom_96 rfl (lv_at hl 0 rfl) ?_
  refine va_get (D := (dC, dI)) (ci := 5) (C := RX5) (T := TX5) (N := 17) hx hb hts inlX5 hown hK hP 4 gA_4 rfl 8 (by decide) (hts (.fieldLink RX5 38 "ShapeReader$Shapes" "fieldNames" "[J") mw_14_25) (fun _ h9 => h9) rfl dX5_copyFrom_97 ?_
  refine lv_iconst (v := 0) hx hb dX5_copyFrom_100 (by decide) ?_
  refine lv_sipush (v := 288) hx hb dX5_copyFrom_101 (by decide) ?_
  obtain ⟨hg, h⟩ := ig h
  refine va_copyl hx hb (hml.trans hl.1.symm) hown (hts (.methodLink RX5 65 arraycopyName) mw_15_4) (hts (.native arraycopyName) mw_4_0) (hts (.static arraycopyName) mw_4_1) (hts (.initialized "java/lang/System") mw_4_2) hK hP hD hS 27 11 23 8 gA_27 gA_11 yA_27 yA_11 rfl hg.1 hg.2.1 hg.2.2.1 hg.2.2.2.1 hg.2.2.2.2 (fun _ _ => rfl) (Nat.le_of_ble_eq_true rfl) (Nat.le_of_ble_eq_true rfl) dX5_copyFrom_104 (fun H locs hP hD hS => ?_)
  replace hP := vA_11 hP
  obtain ⟨z7, hs, h⟩ := ib h
  replace hs := Option.some.inj hs
  replace hP : va_P (dC, dI) vwCl (wA a k z7) H := by rw [← hs]; exact hP
  replace hD := hD0 z7
  clear hs
  refine lv_aload_n hx hb dX5_copyFrom_107 rfl (lv_at hl 1 rfl) ?_
  refine va_get (D := (dC, dI)) (ci := 5) (C := RX5) (T := TX5) (N := 17) hx hb hts inlX5 hown hK hP 20 gA_20 rfl 9 (by decide) (hts (.fieldLink RX5 41 "ShapeReader$Shapes" "formerNames" "[J") mw_14_26) (fun _ h9 => h9) rfl dX5_copyFrom_108 ?_
  refine lv_iconst (v := 0) hx hb dX5_copyFrom_111 (by decide) ?_
  refine lv_aload_n hx hb dX5_copyFrom_112 rfl (lv_at hl 0 rfl) ?_
  refine va_get (D := (dC, dI)) (ci := 5) (C := RX5) (T := TX5) (N := 17) hx hb hts inlX5 hown hK hP 4 gA_4 rfl 9 (by decide) (hts (.fieldLink RX5 41 "ShapeReader$Shapes" "formerNames" "[J") mw_14_26) (fun _ h9 => h9) rfl dX5_copyFrom_113 ?_
  refine lv_iconst (v := 0) hx hb dX5_copyFrom_116 (by decide) ?_
  refine lv_sipush (v := 288) hx hb dX5_copyFrom_117 (by decide) ?_
  obtain ⟨hg, h⟩ := ig h
  refine va_copyl hx hb (hml.trans hl.1.symm) hown (hts (.methodLink RX5 65 arraycopyName) mw_15_4) (hts (.native arraycopyName) mw_4_0) (hts (.static arraycopyName) mw_4_1) (hts (.initialized "java/lang/System") mw_4_2) hK hP hD hS 28 12 24 9 gA_28 gA_12 yA_28 yA_12 rfl hg.1 hg.2.1 hg.2.2.1 hg.2.2.2.1 hg.2.2.2.2 (fun _ _ => rfl) (Nat.le_of_ble_eq_true rfl) (Nat.le_of_ble_eq_true rfl) dX5_copyFrom_120 (fun H locs hP hD hS => ?_)
  replace hP := vA_12 hP
  obtain ⟨z8, hs, h⟩ := ib h
  replace hs := Option.some.inj hs
  replace hP : va_P (dC, dI) vwCl (wA a k z8) H := by rw [← hs]; exact hP
  replace hD := hD0 z8
  clear hs
  refine lv_aload_n hx hb dX5_copyFrom_123 rfl (lv_at hl 1 rfl) ?_
  refine va_get (D := (dC, dI)) (ci := 5) (C := RX5) (T := TX5) (N := 17) hx hb hts inlX5 hown hK hP 20 gA_20 rfl 10 (by decide) (hts (.fieldLink RX5 44 "ShapeReader$Shapes" "fieldTypes" "[I") mw_14_27) (fun _ h9 => h9) rfl dX5_copyFrom_124 ?_
  refine lv_iconst (v := 0) hx hb dX5_copyFrom_127 (by decide) ?_
  refine lv_aload_n hx hb dX5_copyFrom_128 rfl (lv_at hl 0 rfl) ?_
  refine va_get (D := (dC, dI)) (ci := 5) (C := RX5) (T := TX5) (N := 17) hx hb hts inlX5 hown hK hP 4 gA_4 rfl 10 (by decide) (hts (.fieldLink RX5 44 "ShapeReader$Shapes" "fieldTypes" "[I") mw_14_27) (fun _ h9 => h9) rfl dX5_copyFrom_129 ?_
  refine lv_iconst (v := 0) hx hb dX5_copyFrom_132 (by decide) ?_
  refine lv_sipush (v := 288) hx hb dX5_copyFrom_133 (by decide) ?_
  obtain ⟨hg, h⟩ := ig h
  refine va_copyi hx hb (hml.trans hl.1.symm) hown (hts (.methodLink RX5 65 arraycopyName) mw_15_4) (hts (.native arraycopyName) mw_4_0) (hts (.static arraycopyName) mw_4_1) (hts (.initialized "java/lang/System") mw_4_2) hK hP hD hS 29 13 25 10 gA_29 gA_13 yA_29 yA_13 rfl hg.1 hg.2.1 hg.2.2.1 hg.2.2.2.1 hg.2.2.2.2 (fun _ _ => rfl) (Nat.le_of_ble_eq_true rfl) (Nat.le_of_ble_eq_true rfl) dX5_copyFrom_136 (fun H locs hP hD hS => ?_)
  replace hP := vA_13 hP
  obtain ⟨z9, hs, h⟩ := ib h
  replace hs := Option.some.inj hs
  replace hP : va_P (dC, dI) vwCl (wA a k z9) H := by rw [← hs]; exact hP
  replace hD := hD0 z9
  clear hs
  refine lv_aload_n hx hb dX5_copyFrom_139 rfl (lv_at hl 1 rfl) ?_
  refine va_get (D := (dC, dI)) (ci := 5) (C := RX5) (T := TX5) (N := 17) hx hb hts inlX5 hown hK hP 20 gA_20 rfl 11 (by decide) (hts (.fieldLink RX5 47 "ShapeReader$Shapes" "elseWorths" "[J") mw_14_28) (fun _ h9 => h9) rfl dX5_copyFrom_140 ?_
  refine lv_iconst (v := 0) hx hb dX5_copyFrom_143 (by decide) ?_
  refine lv_aload_n hx hb dX5_copyFrom_144 rfl (lv_at hl 0 rfl) ?_
  refine va_get (D := (dC, dI)) (ci := 5) (C := RX5) (T := TX5) (N := 17) hx hb hts inlX5 hown hK hP 4 gA_4 rfl 11 (by decide) (hts (.fieldLink RX5 47 "ShapeReader$Shapes" "elseWorths" "[J") mw_14_28) (fun _ h9 => h9) rfl dX5_copyFrom_145 ?_
  refine lv_iconst (v := 0) hx hb dX5_copyFrom_148 (by decide) ?_
  refine lv_sipush (v := 288) hx hb dX5_copyFrom_149 (by decide) ?_
  obtain ⟨hg, h⟩ := ig h
  refine va_copyl hx hb (hml.trans hl.1.symm) hown (hts (.methodLink RX5 65 arraycopyName) mw_15_4) (hts (.native arraycopyName) mw_4_0) (hts (.static arraycopyName) mw_4_1) (hts (.initialized "java/lang/System") mw_4_2) hK hP hD hS 30 14 26 11 gA_30 gA_14 yA_30 yA_14 rfl hg.1 hg.2.1 hg.2.2.1 hg.2.2.2.1 hg.2.2.2.2 (fun _ _ => rfl) (Nat.le_of_ble_eq_true rfl) (Nat.le_of_ble_eq_true rfl) dX5_copyFrom_152 (fun H locs hP hD hS => ?_)
  replace hP := vA_14 hP
  obtain ⟨z10, hs, h⟩ := ib h
  replace hs := Option.some.inj hs
  replace hP : va_P (dC, dI) vwCl (wA a k z10) H := by rw [← hs]; exact hP
  replace hD := hD0 z10
  clear hs
  refine lv_aload_n hx hb dX5_copyFrom_155 rfl (lv_at hl 1 rfl) ?_
  refine va_get (D := (dC, dI)) (ci := 5) (C := RX5) (T := TX5) (N := 17) hx hb hts inlX5 hown hK hP 20 gA_20 rfl 12 (by decide) (hts (.fieldLink RX5 50 "ShapeReader$Shapes" "sorts" "[I") mw_14_29) (fun _ h9 => h9) rfl dX5_copyFrom_156 ?_
  refine lv_iconst (v := 0) hx hb dX5_copyFrom_159 (by decide) ?_
  refine lv_aload_n hx hb dX5_copyFrom_160 rfl (lv_at hl 0 rfl) ?_
  refine va_get (D := (dC, dI)) (ci := 5) (C := RX5) (T := TX5) (N := 17) hx hb hts inlX5 hown hK hP 4 gA_4 rfl 12 (by decide) (hts (.fieldLink RX5 50 "ShapeReader$Shapes" "sorts" "[I") mw_14_29) (fun _ h9 => h9) rfl dX5_copyFrom_161 ?_
  refine lv_iconst (v := 0) hx hb dX5_copyFrom_164 (by decide) ?_
  refine lv_sipush (v := 262) hx hb dX5_copyFrom_165 (by decide) ?_
  obtain ⟨hg, h⟩ := ig h
  refine va_copyi hx hb (hml.trans hl.1.symm) hown (hts (.methodLink RX5 65 arraycopyName) mw_15_4) (hts (.native arraycopyName) mw_4_0) (hts (.static arraycopyName) mw_4_1) (hts (.initialized "java/lang/System") mw_4_2) hK hP hD hS 31 15 27 12 gA_31 gA_15 yA_31 yA_15 rfl hg.1 hg.2.1 hg.2.2.1 hg.2.2.2.1 hg.2.2.2.2 (fun _ _ => rfl) (Nat.le_of_ble_eq_true rfl) (Nat.le_of_ble_eq_true rfl) dX5_copyFrom_168 (fun H locs hP hD hS => ?_)
  replace hP := vA_15 hP
  obtain ⟨z11, hs, h⟩ := ib h
  replace hs := Option.some.inj hs
  replace hP : va_P (dC, dI) vwCl (wA a k z11) H := by rw [← hs]; exact hP
  replace hD := hD0 z11
  clear hs
  refine lv_aload_n hx hb dX5_copyFrom_171 rfl (lv_at hl 1 rfl) ?_
  refine va_get (D := (dC, dI)) (ci := 5) (C := RX5) (T := TX5) (N := 17) hx hb hts inlX5 hown hK hP 20 gA_20 rfl 13 (by decide) (hts (.fieldLink RX5 53 "ShapeReader$Shapes" "inners" "[I") mw_15_0) (fun _ h9 => h9) rfl dX5_copyFrom_172 ?_
  refine lv_iconst (v := 0) hx hb dX5_copyFrom_175 (by decide) ?_
  refine lv_aload_n hx hb dX5_copyFrom_176 rfl (lv_at hl 0 rfl) ?_
  refine va_get (D := (dC, dI)) (ci := 5) (C := RX5) (T := TX5) (N := 17) hx hb hts inlX5 hown hK hP 4 gA_4 rfl 13 (by decide) (hts (.fieldLink RX5 53 "ShapeReader$Shapes" "inners" "[I") mw_15_0) (fun _ h9 => h9) rfl dX5_copyFrom_177 ?_
  refine lv_iconst (v := 0) hx hb dX5_copyFrom_180 (by decide) ?_
  refine lv_sipush (v := 262) hx hb dX5_copyFrom_181 (by decide) ?_
  obtain ⟨hg, h⟩ := ig h
  refine va_copyi hx hb (hml.trans hl.1.symm) hown (hts (.methodLink RX5 65 arraycopyName) mw_15_4) (hts (.native arraycopyName) mw_4_0) (hts (.static arraycopyName) mw_4_1) (hts (.initialized "java/lang/System") mw_4_2) hK hP hD hS 32 16 28 13 gA_32 gA_16 yA_32 yA_16 rfl hg.1 hg.2.1 hg.2.2.1 hg.2.2.2.1 hg.2.2.2.2 (fun _ _ => rfl) (Nat.le_of_ble_eq_true rfl) (Nat.le_of_ble_eq_true rfl) dX5_copyFrom_184 (fun H locs hP hD hS => ?_)
  replace hP := vA_16 hP
  obtain ⟨z12, hs, h⟩ := ib h
  replace hs := Option.some.inj hs
  replace hP : va_P (dC, dI) vwCl (wA a k z12) H := by rw [← hs]; exact hP
  replace hD := hD0 z12
  clear hs
  refine lv_aload_n hx hb dX5_copyFrom_187 rfl (lv_at hl 1 rfl) ?_
  refine va_get (D := (dC, dI)) (ci := 5) (C := RX5) (T := TX5) (N := 17) hx hb hts inlX5 hown hK hP 20 gA_20 rfl 14 (by decide) (hts (.fieldLink RX5 56 "ShapeReader$Shapes" "nextBranches" "[I") mw_15_1) (fun _ h9 => h9) rfl dX5_copyFrom_188 ?_
  refine lv_iconst (v := 0) hx hb dX5_copyFrom_191 (by decide) ?_
  refine lv_aload_n hx hb dX5_copyFrom_192 rfl (lv_at hl 0 rfl) ?_
  refine va_get (D := (dC, dI)) (ci := 5) (C := RX5) (T := TX5) (N := 17) hx hb hts inlX5 hown hK hP 4 gA_4 rfl 14 (by decide) (hts (.fieldLink RX5 56 "ShapeReader$Shapes" "nextBranches" "[I") mw_15_1) (fun _ h9 => h9) rfl dX5_copyFrom_193 ?_
  refine lv_iconst (v := 0) hx hb dX5_copyFrom_196 (by decide) ?_
  refine lv_sipush (v := 262) hx hb dX5_copyFrom_197 (by decide) ?_
  obtain ⟨hg, h⟩ := ig h
  refine va_copyi hx hb (hml.trans hl.1.symm) hown (hts (.methodLink RX5 65 arraycopyName) mw_15_4) (hts (.native arraycopyName) mw_4_0) (hts (.static arraycopyName) mw_4_1) (hts (.initialized "java/lang/System") mw_4_2) hK hP hD hS 33 17 29 14 gA_33 gA_17 yA_33 yA_17 rfl hg.1 hg.2.1 hg.2.2.1 hg.2.2.2.1 hg.2.2.2.2 (fun _ _ => rfl) (Nat.le_of_ble_eq_true rfl) (Nat.le_of_ble_eq_true rfl) dX5_copyFrom_200 (fun H locs hP hD hS => ?_)
  replace hP := vA_17 hP
  obtain ⟨z13, hs, h⟩ := ib h
  replace hs := Option.some.inj hs
  replace hP : va_P (dC, dI) vwCl (wA a k z13) H := by rw [← hs]; exact hP
  replace hD := hD0 z13
  clear hs
  obtain rfl := Option.some.inj h
  exact W.vret hx hb hr (fun t ht hW => ⟨⟨(), rfl, trivial, ⟨by rw [ht]; exact hP, va_K.moved hW.alike hK, hD⟩⟩, hS.F ht⟩) hS.2.2 dX5_copyFrom_203

theorem s_X5_copyFrom_4 {l : Launch} {dC : Nat → ClassId} {dI : Nat → Nat → Nat} {a : Nat → Nat} {k : Nat → ClassId} {sz : Nat}  {σ : ST} {q : ST} (h : f_X5_copyFrom 4  σ = some q) : Met l yX5_copyFrom (.code yX5_copyFrom cX5_copyFrom 2 none :: pw) ({ frames := 1, cells := 0, slots := 0, locals := 30 } : Room) (va_Pc [.ref (a 4), .ref (a 20)] (vPre dC dI (wA a k σ) (tA k) sz)) (qAv dC dI a k (va_A (wA a k σ) sz) q) 0 0 (va_A (wA a k σ) sz) := metA (fun A => qAv dC dI a k A q) (plainFor_of_name (by decide)) (Nat.le_of_ble_eq_true rfl) (fun _ _ _ _ _ _ _ _ hC => b_X5_copyFrom_e_4 hC h)

def f_X5_heightOfFields_4 (b : Nat) : Nat → Int32 → Int32 → Int32 → ST → Option (Int32 × ST)
  | 0, _, _, _, _ => none
  | n + 1, x1, x2, x3, σ => (f_X5_fieldsOf b x1 σ).bind fun q1 => if q1.1 ≤ x3 then (some ((x2 + 1), q1.2)) else ((f_X5_typeOf b x1 x3 q1.2).bind fun q3 => (f_X5_emptyHeight b q3.1 q3.2).bind fun q5 => if q5.1 = (-1) then (some ((-1), q5.2)) else (f_X5_heightOfFields_4 b n x1 (if x2 < q5.1 then q5.1 else x2) (x3 + 1) q5.2))
def f_X5_heightOfFields (b : Nat) (p0 : Int32) (σ : ST) : Option (Int32 × ST) := f_X5_heightOfFields_4 b FU p0 0 0 σ

set_option maxRecDepth 100000 in
set_option maxHeartbeats 4000000 in
theorem b_X5_heightOfFields_4_4 {p : Program} {l : Launch} {e : Env} {s : State} {m : MethodId} {args : Array Value} {below : List Frame} {meth : Method} {c : Code} {dC : Nat → ClassId} {dI : Nat → Nat → Nat} {a : Nat → Nat} {k : Nat → ClassId} {A : Nat → Prop} {q : Int32 × ST} (hC : CxA p s m args meth c dC dI k A cX5_heightOfFields RX5 (some .int) 5)   : ∀ (n : Nat) (x1 : Int32) (x2 : Int32) (x3 : Int32) (σ : ST), f_X5_heightOfFields_4 4 n x1 x2 x3 σ = some q → GoA p l e ({ frames := 3, cells := 0, slots := 0, locals := 64 } : Room) s m args below meth c (MQ below (qAi dC dI a k A q) args s 0 0 A) dC dI a k A 5 4 σ [(0, .ref (a 4)), (1, .int x1), (2, .int x2), (3, .int x3)] [] := by
  intro n
  induction n with
  | zero =>
    intro x1 x2 x3 σ h
    rw [f_X5_heightOfFields_4] at h
    cases h
  | succ n ih =>
    intro x1 x2 x3 σ h
    have hC0 := hC
    obtain ⟨hx, hb, hr, hml, hown, hts, hlocks, hA, hN, hK⟩ := hC0
    intro H locs ls hP hD hS hl
    have hD0 : ∀ σ1 : ST, va_D A (wA a k σ1) := fun σ1 => wA_D hD
    rw [f_X5_heightOfFields_4] at h
    refine lv_iload_n hx hb dX5_heightOfFields_4 rfl (lv_at hl 3 rfl) ?_
    refine lv_aload_n hx hb dX5_heightOfFields_5 rfl (lv_at hl 0 rfl) ?_
    refine lv_iload_n hx hb dX5_heightOfFields_6 rfl (lv_at hl 1 rfl) ?_
    obtain ⟨q1, hc, h⟩ := ib h
    have hF := va_frees hD hS hA
    refine va_calli (va_runV (As := [.int x1]) (rest := [.int x3]) ⟨hx, hb, hml, hown, hts⟩ (s_X5_fieldsOf_4 hc) (cwV 1 hts (gV mw_15_25 mw_1_28 mw_1_29 mw_0_9 mw_49_29) rfl rfl rfl (by decide +kernel) ⟨(Nat.le_of_ble_eq_true rfl), (Nat.le_of_ble_eq_true rfl)⟩) (vV (ci := 5) (q0 := 4) hK hP hD hN rfl gA_4) rfl rfl hl.1 rfl (lv_room (Nat.le_of_ble_eq_true rfl)) dX5_heightOfFields_7 ⟨(Nat.le_of_ble_eq_true rfl), (Nat.le_of_ble_eq_true rfl)⟩) hS (fun q _ h => hF q h) hF (fun r2 u t H locs ht hvm hw hB _ _ hS => ?_)
    obtain rfl : r2 = q1.1 := hw
    replace hP : va_P (dC, dI) vwCl (wA a k q1.2) H := by rw [← ht]; exact hB.1
    replace hD := hD0 (q1.2)
    clear hB hF
    refine lv_icmp_ge (tgt := 46) hx hb dX5_heightOfFields_10 (by decide) (fun hc => ?_) (fun hc => ?_)
    · replace h := ip hc h
      refine lv_iload_n hx hb dX5_heightOfFields_46 rfl (lv_at hl 2 rfl) ?_
      refine lv_iconst (v := 1) hx hb dX5_heightOfFields_47 (by decide) ?_
      refine lv_iadd hx hb dX5_heightOfFields_48 ?_
      obtain rfl := Option.some.inj h
      exact W.iret hx hb hr (fun t ht hW => ⟨⟨_, (), rfl, rfl, ⟨by rw [ht]; exact hP, va_K.moved hW.alike hK, hD⟩⟩, hS.F ht⟩) hS.2.2 dX5_heightOfFields_49
    · replace h := iq hc h
      refine lv_aload_n hx hb dX5_heightOfFields_13 rfl (lv_at hl 0 rfl) ?_
      refine lv_aload_n hx hb dX5_heightOfFields_14 rfl (lv_at hl 0 rfl) ?_
      refine lv_iload_n hx hb dX5_heightOfFields_15 rfl (lv_at hl 1 rfl) ?_
      refine lv_iload_n hx hb dX5_heightOfFields_16 rfl (lv_at hl 3 rfl) ?_
      obtain ⟨q3, hc, h⟩ := ib h
      have hF := va_frees hD hS hA
      refine va_calli (va_runV (As := [.int x1, .int x3]) (rest := [.ref (a 4)]) ⟨hx, hb, hml, hown, hts⟩ (s_X5_typeOf_4 hc) (cwV 2 hts (gV mw_16_2 mw_2_7 mw_2_8 mw_0_9 mw_50_3) rfl rfl rfl (by decide +kernel) ⟨(Nat.le_of_ble_eq_true rfl), (Nat.le_of_ble_eq_true rfl)⟩) (vV (ci := 5) (q0 := 4) hK hP hD hN rfl gA_4) rfl rfl hl.1 rfl (lv_room (Nat.le_of_ble_eq_true rfl)) dX5_heightOfFields_17 ⟨(Nat.le_of_ble_eq_true rfl), (Nat.le_of_ble_eq_true rfl)⟩) hS (fun q _ h => hF q h) hF (fun r4 u t H locs ht hvm hw hB _ _ hS => ?_)
      obtain rfl : r4 = q3.1 := hw
      replace hP : va_P (dC, dI) vwCl (wA a k q3.2) H := by rw [← ht]; exact hB.1
      replace hD := hD0 (q3.2)
      clear hB hF
      obtain ⟨q5, hc, h⟩ := ib h
      have hF := va_frees hD hS hA
      refine va_calli (va_runV (As := [.int q3.1]) (rest := []) ⟨hx, hb, hml, hown, hts⟩ (s_X5_emptyHeight_4 hc) (cwV 1 hts (gV mw_16_3 mw_12_16 mw_12_17 mw_0_9 mw_51_1) rfl rfl rfl (by decide +kernel) ⟨(Nat.le_of_ble_eq_true rfl), (Nat.le_of_ble_eq_true rfl)⟩) (vV (ci := 5) (q0 := 4) hK hP hD hN rfl gA_4) rfl rfl hl.1 rfl (lv_room (Nat.le_of_ble_eq_true rfl)) dX5_heightOfFields_20 ⟨(Nat.le_of_ble_eq_true rfl), (Nat.le_of_ble_eq_true rfl)⟩) hS (fun q _ h => hF q h) hF (fun r6 u t H locs ht hvm hw hB _ _ hS => ?_)
      obtain rfl : r6 = q5.1 := hw
      replace hP : va_P (dC, dI) vwCl (wA a k q5.2) H := by rw [← ht]; exact hB.1
      replace hD := hD0 (q5.2)
      clear hB hF
      refine lv_istore (lv' := [(4, .int q5.1), (0, .ref (a 4)), (1, .int x1), (2, .int x2), (3, .int x3)]) hx hb dX5_heightOfFields_23 hl (by decide) rfl (fun ls hl => ?_)
      refine lv_iload hx hb dX5_heightOfFields_25 (lv_at hl 0 rfl) ?_
      refine lv_iconst (v := (-1)) hx hb dX5_heightOfFields_27 (by decide) ?_
      refine lv_icmp_ne (tgt := 33) hx hb dX5_heightOfFields_28 (by decide) (fun hc => ?_) (fun hc => ?_)
      · replace h := iq hc h
        refine lv_iload_n hx hb dX5_heightOfFields_33 rfl (lv_at hl 3 rfl) ?_
        refine lv_iload hx hb dX5_heightOfFields_34 (lv_at hl 0 rfl) ?_
        refine va_mmax hx hb (hml.trans hl.1.symm) hown (hts (.methodLink RX5 147 Lib.Math.max.name) mw_16_4) (hts (.static Lib.Math.max.name) mw_16_5) (hts (.initialized RJ9) mw_1_6) (hts (.code Lib.Math.max.name Lib.Math.max.code 2 (some .int)) mw_51_0) (Nat.le_of_ble_eq_true rfl) (Nat.le_of_ble_eq_true rfl) (Nat.le_of_ble_eq_true rfl) (Nat.le_of_ble_eq_true rfl) dX5_heightOfFields_36 ?_
        refine lv_istore_n (lv' := [(2, .int (if x2 < q5.1 then q5.1 else x2)), (4, .int q5.1), (0, .ref (a 4)), (1, .int x1), (3, .int x3)]) hx hb dX5_heightOfFields_39 rfl hl (by decide) rfl (fun ls hl => ?_)
        refine lv_iinc (v := (x3 + 1)) (lv' := [(3, .int (x3 + 1)), (2, .int (if x2 < q5.1 then q5.1 else x2)), (4, .int q5.1), (0, .ref (a 4)), (1, .int x1)]) hx hb dX5_heightOfFields_40 hl (k := 4) rfl rfl (by decide) rfl (fun ls hl => ?_)
        refine lv_goto (tgt := 4) hx hb dX5_heightOfFields_43 (by decide) ?_
        exact ih _ _ _ _ h _ _ _ hP hD hS (lv_sub hl [3, 4, 1, 0] rfl)
      · replace h := ip hc h
        refine lv_iconst (v := (-1)) hx hb dX5_heightOfFields_31 (by decide) ?_
        obtain rfl := Option.some.inj h
        exact W.iret hx hb hr (fun t ht hW => ⟨⟨_, (), rfl, rfl, ⟨by rw [ht]; exact hP, va_K.moved hW.alike hK, hD⟩⟩, hS.F ht⟩) hS.2.2 dX5_heightOfFields_32

set_option maxRecDepth 100000 in
set_option maxHeartbeats 4000000 in
theorem b_X5_heightOfFields_e_4 {p : Program} {l : Launch} {e : Env} {s : State} {m : MethodId} {args : Array Value} {below : List Frame} {meth : Method} {c : Code} {dC : Nat → ClassId} {dI : Nat → Nat → Nat} {a : Nat → Nat} {k : Nat → ClassId} {A : Nat → Prop} {q : Int32 × ST} (hC : CxA p s m args meth c dC dI k A cX5_heightOfFields RX5 (some .int) 5)   {p0 : Int32} {σ : ST} (h : f_X5_heightOfFields 4 p0 σ = some q) : GoA p l e ({ frames := 3, cells := 0, slots := 0, locals := 64 } : Room) s m args below meth c (MQ below (qAi dC dI a k A q) args s 0 0 A) dC dI a k A 5 0 σ (lv_args 0 [.ref (a 4), .int p0]) [] := by
  have hC0 := hC
  obtain ⟨hx, hb, hr, hml, hown, hts, hlocks, hA, hN, hK⟩ := hC0
  intro H locs ls hP hD hS hl
  have hD0 : ∀ σ1 : ST, va_D A (wA a k σ1) := fun σ1 => wA_D hD
  replace hl : lv_has ls 5 [(0, .ref (a 4)), (1, .int p0)] := hl
  unfold f_X5_heightOfFields at h
  refine lv_iconst (v := 0) hx hb dX5_heightOfFields_0 (by decide) ?_
  refine lv_istore_n (lv' := [(2, .int 0), (0, .ref (a 4)), (1, .int p0)]) hx hb dX5_heightOfFields_1 rfl hl (by decide) rfl (fun ls hl => ?_)
  refine lv_iconst (v := 0) hx hb dX5_heightOfFields_2 (by decide) ?_
  refine lv_istore_n (lv' := [(3, .int 0), (2, .int 0), (0, .ref (a 4)), (1, .int p0)]) hx hb dX5_heightOfFields_3 rfl hl (by decide) rfl (fun ls hl => ?_)
  exact b_X5_heightOfFields_4_4 hC FU _ _ _ _ h _ _ _ hP hD hS (lv_sub hl [2, 3, 1, 0] rfl)

theorem s_X5_heightOfFields_4 {l : Launch} {dC : Nat → ClassId} {dI : Nat → Nat → Nat} {a : Nat → Nat} {k : Nat → ClassId} {sz : Nat} {p0 : Int32} {σ : ST} {q : Int32 × ST} (h : f_X5_heightOfFields 4 p0 σ = some q) : Met l yX5_heightOfFields (.code yX5_heightOfFields cX5_heightOfFields 5 (some .int) :: pw) ({ frames := 3, cells := 0, slots := 0, locals := 64 } : Room) (va_Pc [.ref (a 4), .int p0] (vPre dC dI (wA a k σ) (tA k) sz)) (qAi dC dI a k (va_A (wA a k σ) sz) q) 0 0 (va_A (wA a k σ) sz) := metA (fun A => qAi dC dI a k A q) (plainFor_of_name (by decide)) (Nat.le_of_ble_eq_true rfl) (fun _ _ _ _ _ _ _ _ hC => b_X5_heightOfFields_e_4 hC h)

def f_X5_findEmptyRecords_77 (k10 : Int32 → ST → Option (ST)) (k18 : Int32 → Int32 → ST → Option (ST)) (k28 : Int32 → Int32 → Int32 → ST → Option (ST)) (b : Nat) (x1 : Int32) (x2 : Int32) (x3 : Int32) (σ : ST) : Option (ST) := k28 x1 x2 (x3 + 1) σ
def f_X5_findEmptyRecords_28 (k10 : Int32 → ST → Option (ST)) (k18 : Int32 → Int32 → ST → Option (ST)) (b : Nat) : Nat → Int32 → Int32 → Int32 → ST → Option (ST)
  | 0, _, _, _, _ => none
  | n + 1, x1, x2, x3, σ => (f_X5_recordsOf b x2 σ).bind fun q1 => if q1.1 ≤ x3 then (k18 x1 (x2 + 1) q1.2) else ((f_X5_isRecord  ((x2 * 6) + x3) q1.2).bind fun q3 => if q3.1 = 0 then (f_X5_findEmptyRecords_77 k10 k18 (f_X5_findEmptyRecords_28 k10 k18 b n) b x1 x2 x3 q3.2) else (if 0 ≤ ((x2 * 6) + x3).toInt ∧ ((x2 * 6) + x3).toInt < 36 then (if (q3.2.1 (b + 6) ((x2 * 6) + x3).toNatClampNeg) = (-1) then ((f_X5_heightOfFields b ((x2 * 6) + x3) q3.2).bind fun q6 => f_X5_findEmptyRecords_77 k10 k18 (f_X5_findEmptyRecords_28 k10 k18 b n) b x1 x2 x3 (stI q6.2 (b + 6) ((x2 * 6) + x3).toNatClampNeg q6.1)) else (f_X5_findEmptyRecords_77 k10 k18 (f_X5_findEmptyRecords_28 k10 k18 b n) b x1 x2 x3 q3.2)) else none))
def f_X5_findEmptyRecords_18 (k10 : Int32 → ST → Option (ST)) (b : Nat) : Nat → Int32 → Int32 → ST → Option (ST)
  | 0, _, _, _ => none
  | n + 1, x1, x2, σ => if (σ.1 b 0) ≤ x2 then (k10 (x1 + 1) σ) else (f_X5_findEmptyRecords_28 k10 (f_X5_findEmptyRecords_18 k10 b n) b FU x1 x2 0 σ)
def f_X5_findEmptyRecords_10 (b : Nat) : Nat → Int32 → ST → Option (ST)
  | 0, _, _ => none
  | n + 1, x1, σ => if 6 ≤ x1 then (some σ) else (f_X5_findEmptyRecords_18 (f_X5_findEmptyRecords_10 b n) b FU x1 0 σ)
def f_X5_findEmptyRecords (b : Nat) (σ : ST) : Option (ST) := (f_J7_fill_53178 (b + 6) (-1) σ).bind fun q1 => f_X5_findEmptyRecords_10 b FU 0 q1

set_option maxRecDepth 100000 in
set_option maxHeartbeats 4000000 in
theorem b_X5_findEmptyRecords_77_4 {p : Program} {l : Launch} {e : Env} {s : State} {m : MethodId} {args : Array Value} {below : List Frame} {meth : Method} {c : Code} {dC : Nat → ClassId} {dI : Nat → Nat → Nat} {a : Nat → Nat} {k : Nat → ClassId} {A : Nat → Prop} {q : ST} (hC : CxA p s m args meth c dC dI k A cX5_findEmptyRecords RX5 none 5)  {k10 : Int32 → ST → Option (ST)} (hk10 : ∀ (x1 : Int32) (σ : ST), k10 x1 σ = some q → GoA p l e ({ frames := 4, cells := 0, slots := 0, locals := 88 } : Room) s m args below meth c (MQ below (qAv dC dI a k A q) args s 0 0 A) dC dI a k A 5 10 σ [(0, .ref (a 4)), (1, .int x1)] []) {k18 : Int32 → Int32 → ST → Option (ST)} (hk18 : ∀ (x1 : Int32) (x2 : Int32) (σ : ST), k18 x1 x2 σ = some q → GoA p l e ({ frames := 4, cells := 0, slots := 0, locals := 88 } : Room) s m args below meth c (MQ below (qAv dC dI a k A q) args s 0 0 A) dC dI a k A 5 18 σ [(0, .ref (a 4)), (1, .int x1), (2, .int x2)] []) {k28 : Int32 → Int32 → Int32 → ST → Option (ST)} (hk28 : ∀ (x1 : Int32) (x2 : Int32) (x3 : Int32) (σ : ST), k28 x1 x2 x3 σ = some q → GoA p l e ({ frames := 4, cells := 0, slots := 0, locals := 88 } : Room) s m args below meth c (MQ below (qAv dC dI a k A q) args s 0 0 A) dC dI a k A 5 28 σ [(0, .ref (a 4)), (1, .int x1), (2, .int x2), (3, .int x3)] []) {x1 : Int32} {x2 : Int32} {x3 : Int32} {σ : ST} (h : f_X5_findEmptyRecords_77 k10 k18 k28 4 x1 x2 x3 σ = some q) : GoA p l e ({ frames := 4, cells := 0, slots := 0, locals := 88 } : Room) s m args below meth c (MQ below (qAv dC dI a k A q) args s 0 0 A) dC dI a k A 5 77 σ [(0, .ref (a 4)), (1, .int x1), (2, .int x2), (3, .int x3)] [] := by
  have hC0 := hC
  obtain ⟨hx, hb, hr, hml, hown, hts, hlocks, hA, hN, hK⟩ := hC0
  intro H locs ls hP hD hS hl
  have hD0 : ∀ σ1 : ST, va_D A (wA a k σ1) := fun σ1 => wA_D hD
  unfold f_X5_findEmptyRecords_77 at h
  refine lv_iinc (v := (x3 + 1)) (lv' := [(3, .int (x3 + 1)), (0, .ref (a 4)), (1, .int x1), (2, .int x2)]) hx hb dX5_findEmptyRecords_77 hl (k := 3) rfl rfl (by decide) rfl (fun ls hl => ?_)
  refine lv_goto (tgt := 28) hx hb dX5_findEmptyRecords_80 (by decide) ?_
  exact hk28 _ _ _ _ h _ _ _ hP hD hS (lv_sub hl [1, 2, 3, 0] rfl)

set_option maxRecDepth 100000 in
set_option maxHeartbeats 4000000 in
theorem b_X5_findEmptyRecords_28_4 {p : Program} {l : Launch} {e : Env} {s : State} {m : MethodId} {args : Array Value} {below : List Frame} {meth : Method} {c : Code} {dC : Nat → ClassId} {dI : Nat → Nat → Nat} {a : Nat → Nat} {k : Nat → ClassId} {A : Nat → Prop} {q : ST} (hC : CxA p s m args meth c dC dI k A cX5_findEmptyRecords RX5 none 5)  {k10 : Int32 → ST → Option (ST)} (hk10 : ∀ (x1 : Int32) (σ : ST), k10 x1 σ = some q → GoA p l e ({ frames := 4, cells := 0, slots := 0, locals := 88 } : Room) s m args below meth c (MQ below (qAv dC dI a k A q) args s 0 0 A) dC dI a k A 5 10 σ [(0, .ref (a 4)), (1, .int x1)] []) {k18 : Int32 → Int32 → ST → Option (ST)} (hk18 : ∀ (x1 : Int32) (x2 : Int32) (σ : ST), k18 x1 x2 σ = some q → GoA p l e ({ frames := 4, cells := 0, slots := 0, locals := 88 } : Room) s m args below meth c (MQ below (qAv dC dI a k A q) args s 0 0 A) dC dI a k A 5 18 σ [(0, .ref (a 4)), (1, .int x1), (2, .int x2)] []) : ∀ (n : Nat) (x1 : Int32) (x2 : Int32) (x3 : Int32) (σ : ST), f_X5_findEmptyRecords_28 k10 k18 4 n x1 x2 x3 σ = some q → GoA p l e ({ frames := 4, cells := 0, slots := 0, locals := 88 } : Room) s m args below meth c (MQ below (qAv dC dI a k A q) args s 0 0 A) dC dI a k A 5 28 σ [(0, .ref (a 4)), (1, .int x1), (2, .int x2), (3, .int x3)] [] := by
  intro n
  induction n with
  | zero =>
    intro x1 x2 x3 σ h
    rw [f_X5_findEmptyRecords_28] at h
    cases h
  | succ n ih =>
    intro x1 x2 x3 σ h
    have hC0 := hC
    obtain ⟨hx, hb, hr, hml, hown, hts, hlocks, hA, hN, hK⟩ := hC0
    intro H locs ls hP hD hS hl
    have hD0 : ∀ σ1 : ST, va_D A (wA a k σ1) := fun σ1 => wA_D hD
    rw [f_X5_findEmptyRecords_28] at h
    refine lv_iload_n hx hb dX5_findEmptyRecords_28 rfl (lv_at hl 3 rfl) ?_
    refine lv_aload_n hx hb dX5_findEmptyRecords_29 rfl (lv_at hl 0 rfl) ?_
    refine lv_iload_n hx hb dX5_findEmptyRecords_30 rfl (lv_at hl 2 rfl) ?_
    obtain ⟨q1, hc, h⟩ := ib h
    have hF := va_frees hD hS hA
    refine va_calli (va_runV (As := [.int x2]) (rest := [.int x3]) ⟨hx, hb, hml, hown, hts⟩ (s_X5_recordsOf_4 hc) (cwV 1 hts (gV mw_15_16 mw_1_13 mw_1_14 mw_0_9 mw_49_27) rfl rfl rfl (by decide +kernel) ⟨(Nat.le_of_ble_eq_true rfl), (Nat.le_of_ble_eq_true rfl)⟩) (vV (ci := 5) (q0 := 4) hK hP hD hN rfl gA_4) rfl rfl hl.1 rfl (lv_room (Nat.le_of_ble_eq_true rfl)) dX5_findEmptyRecords_31 ⟨(Nat.le_of_ble_eq_true rfl), (Nat.le_of_ble_eq_true rfl)⟩) hS (fun q _ h => hF q h) hF (fun r2 u t H locs ht hvm hw hB _ _ hS => ?_)
    obtain rfl : r2 = q1.1 := hw
    replace hP : va_P (dC, dI) vwCl (wA a k q1.2) H := by rw [← ht]; exact hB.1
    replace hD := hD0 (q1.2)
    clear hB hF
    refine lv_icmp_ge (tgt := 83) hx hb dX5_findEmptyRecords_34 (by decide) (fun hc => ?_) (fun hc => ?_)
    · replace h := ip hc h
      refine lv_iinc (v := (x2 + 1)) (lv' := [(2, .int (x2 + 1)), (0, .ref (a 4)), (1, .int x1), (3, .int x3)]) hx hb dX5_findEmptyRecords_83 hl (k := 2) rfl rfl (by decide) rfl (fun ls hl => ?_)
      refine lv_goto (tgt := 18) hx hb dX5_findEmptyRecords_86 (by decide) ?_
      exact hk18 _ _ _ h _ _ _ hP hD hS (lv_sub hl [1, 2, 0] rfl)
    · replace h := iq hc h
      refine lv_iload_n hx hb dX5_findEmptyRecords_37 rfl (lv_at hl 2 rfl) ?_
      refine lv_bipush (v := 6) hx hb dX5_findEmptyRecords_38 (by decide) ?_
      refine lv_imul hx hb dX5_findEmptyRecords_40 ?_
      refine lv_iload_n hx hb dX5_findEmptyRecords_41 rfl (lv_at hl 3 rfl) ?_
      refine lv_iadd hx hb dX5_findEmptyRecords_42 ?_
      refine lv_istore (lv' := [(4, .int ((x2 * 6) + x3)), (0, .ref (a 4)), (1, .int x1), (2, .int x2), (3, .int x3)]) hx hb dX5_findEmptyRecords_43 hl (by decide) rfl (fun ls hl => ?_)
      refine lv_iload hx hb dX5_findEmptyRecords_45 (lv_at hl 0 rfl) ?_
      obtain ⟨q3, hc, h⟩ := ib h
      have hF := va_frees hD hS hA
      refine va_calli (va_runS (As := [.int ((x2 * 6) + x3)]) (rest := []) ⟨hx, hb, hml, hown, hts⟩ (s_X5_isRecord hc) (va_cwS 1 hts (gS mw_15_5 mw_15_6 mw_0_9 mw_49_24) rfl rfl rfl (by decide +kernel) ⟨(Nat.le_of_ble_eq_true rfl), (Nat.le_of_ble_eq_true rfl)⟩) (vS hK hP hD hN) rfl rfl hl.1 rfl (lv_room (Nat.le_of_ble_eq_true rfl)) dX5_findEmptyRecords_47 ⟨(Nat.le_of_ble_eq_true rfl), (Nat.le_of_ble_eq_true rfl)⟩) hS (fun q _ h => hF q h) hF (fun r4 u t H locs ht hvm hw hB _ _ hS => ?_)
      obtain rfl : r4 = q3.1 := hw
      replace hP : va_P (dC, dI) vwCl (wA a k q3.2) H := by rw [← ht]; exact hB.1
      replace hD := hD0 (q3.2)
      clear hB hF
      refine lv_if_eq (tgt := 77) hx hb dX5_findEmptyRecords_50 (by decide) (fun hc => ?_) (fun hc => ?_)
      · replace h := ip hc h
        exact b_X5_findEmptyRecords_77_4 hC hk10 hk18 ih h _ _ _ hP hD hS (lv_sub hl [1, 2, 3, 4] rfl)
      · replace h := iq hc h
        refine lv_aload_n hx hb dX5_findEmptyRecords_53 rfl (lv_at hl 1 rfl) ?_
        refine va_get (D := (dC, dI)) (ci := 5) (C := RX5) (T := TX5) (N := 17) hx hb hts inlX5 hown hK hP 4 gA_4 rfl 7 (by decide) (hts (.fieldLink RX5 35 "ShapeReader$Shapes" "emptyHeights" "[I") mw_14_24) (fun _ h9 => h9) rfl dX5_findEmptyRecords_54 ?_
        refine lv_iload hx hb dX5_findEmptyRecords_57 (lv_at hl 0 rfl) ?_
        obtain ⟨hg5, h⟩ := ig h
        refine va_iald hx hb hK hP 10 7 gA_10 yA_10 (vp_in_iff.mpr hg5) dX5_findEmptyRecords_59 ?_
        refine lv_iconst (v := (-1)) hx hb dX5_findEmptyRecords_60 (by decide) ?_
        refine lv_icmp_ne (tgt := 77) hx hb dX5_findEmptyRecords_61 (by decide) (fun hc => ?_) (fun hc => ?_)
        · replace h := iq hc h
          exact b_X5_findEmptyRecords_77_4 hC hk10 hk18 ih h _ _ _ hP hD hS (lv_sub hl [1, 2, 3, 4] rfl)
        · replace h := ip hc h
          refine lv_aload_n hx hb dX5_findEmptyRecords_64 rfl (lv_at hl 1 rfl) ?_
          refine va_get (D := (dC, dI)) (ci := 5) (C := RX5) (T := TX5) (N := 17) hx hb hts inlX5 hown hK hP 4 gA_4 rfl 7 (by decide) (hts (.fieldLink RX5 35 "ShapeReader$Shapes" "emptyHeights" "[I") mw_14_24) (fun _ h9 => h9) rfl dX5_findEmptyRecords_65 ?_
          refine lv_iload hx hb dX5_findEmptyRecords_68 (lv_at hl 0 rfl) ?_
          refine lv_aload_n hx hb dX5_findEmptyRecords_70 rfl (lv_at hl 1 rfl) ?_
          refine lv_iload hx hb dX5_findEmptyRecords_71 (lv_at hl 0 rfl) ?_
          obtain ⟨q6, hc, h⟩ := ib h
          have hF := va_frees hD hS hA
          refine va_calli (va_runV (As := [.int ((x2 * 6) + x3)]) (rest := [.int ((x2 * 6) + x3), .ref (a 10)]) ⟨hx, hb, hml, hown, hts⟩ (s_X5_heightOfFields_4 hc) (cwV 1 hts (gV mw_15_29 mw_16_0 mw_16_1 mw_0_9 mw_50_29) rfl rfl rfl (by decide +kernel) ⟨(Nat.le_of_ble_eq_true rfl), (Nat.le_of_ble_eq_true rfl)⟩) (vV (ci := 5) (q0 := 4) hK hP hD hN rfl gA_4) rfl rfl hl.1 rfl (lv_room (Nat.le_of_ble_eq_true rfl)) dX5_findEmptyRecords_73 ⟨(Nat.le_of_ble_eq_true rfl), (Nat.le_of_ble_eq_true rfl)⟩) hS (fun q _ h => hF q h) hF (fun r7 u t H locs ht hvm hw hB _ _ hS => ?_)
          obtain rfl : r7 = q6.1 := hw
          replace hP : va_P (dC, dI) vwCl (wA a k q6.2) H := by rw [← ht]; exact hB.1
          replace hD := hD0 (q6.2)
          clear hB hF
          refine va_iast hx hb hK hP hD hS 10 7 gA_10 yA_10 (vp_in_iff.mpr hg5) dX5_findEmptyRecords_76 (fun H locs hP hD hS => ?_)
          replace hP := uA_10 hP
          replace hD := hD0 ((stI q6.2 10 ((x2 * 6) + x3).toNatClampNeg q6.1))
          exact b_X5_findEmptyRecords_77_4 hC hk10 hk18 ih h _ _ _ hP hD hS (lv_sub hl [1, 2, 3, 4] rfl)

set_option maxRecDepth 100000 in
set_option maxHeartbeats 4000000 in
theorem b_X5_findEmptyRecords_18_4 {p : Program} {l : Launch} {e : Env} {s : State} {m : MethodId} {args : Array Value} {below : List Frame} {meth : Method} {c : Code} {dC : Nat → ClassId} {dI : Nat → Nat → Nat} {a : Nat → Nat} {k : Nat → ClassId} {A : Nat → Prop} {q : ST} (hC : CxA p s m args meth c dC dI k A cX5_findEmptyRecords RX5 none 5)  {k10 : Int32 → ST → Option (ST)} (hk10 : ∀ (x1 : Int32) (σ : ST), k10 x1 σ = some q → GoA p l e ({ frames := 4, cells := 0, slots := 0, locals := 88 } : Room) s m args below meth c (MQ below (qAv dC dI a k A q) args s 0 0 A) dC dI a k A 5 10 σ [(0, .ref (a 4)), (1, .int x1)] []) : ∀ (n : Nat) (x1 : Int32) (x2 : Int32) (σ : ST), f_X5_findEmptyRecords_18 k10 4 n x1 x2 σ = some q → GoA p l e ({ frames := 4, cells := 0, slots := 0, locals := 88 } : Room) s m args below meth c (MQ below (qAv dC dI a k A q) args s 0 0 A) dC dI a k A 5 18 σ [(0, .ref (a 4)), (1, .int x1), (2, .int x2)] [] := by
  intro n
  induction n with
  | zero =>
    intro x1 x2 σ h
    rw [f_X5_findEmptyRecords_18] at h
    cases h
  | succ n ih =>
    intro x1 x2 σ h
    have hC0 := hC
    obtain ⟨hx, hb, hr, hml, hown, hts, hlocks, hA, hN, hK⟩ := hC0
    intro H locs ls hP hD hS hl
    have hD0 : ∀ σ1 : ST, va_D A (wA a k σ1) := fun σ1 => wA_D hD
    rw [f_X5_findEmptyRecords_18] at h
    refine lv_iload_n hx hb dX5_findEmptyRecords_18 rfl (lv_at hl 2 rfl) ?_
    refine lv_aload_n hx hb dX5_findEmptyRecords_19 rfl (lv_at hl 0 rfl) ?_
    refine va_get (D := (dC, dI)) (ci := 5) (C := RX5) (T := TX5) (N := 17) hx hb hts inlX5 hown hK hP 4 gA_4 rfl 0 (by decide) (hts (.fieldLink RX5 9 "ShapeReader$Shapes" "planCount" "I") mw_14_17) (fun _ h9 => h9) rfl dX5_findEmptyRecords_20 ?_
    refine lv_icmp_ge (tgt := 89) hx hb dX5_findEmptyRecords_23 (by decide) (fun hc => ?_) (fun hc => ?_)
    · replace h := ip hc h
      refine lv_iinc (v := (x1 + 1)) (lv' := [(1, .int (x1 + 1)), (0, .ref (a 4)), (2, .int x2)]) hx hb dX5_findEmptyRecords_89 hl (k := 1) rfl rfl (by decide) rfl (fun ls hl => ?_)
      refine lv_goto (tgt := 10) hx hb dX5_findEmptyRecords_92 (by decide) ?_
      exact hk10 _ _ h _ _ _ hP hD hS (lv_sub hl [1, 0] rfl)
    · replace h := iq hc h
      refine lv_iconst (v := 0) hx hb dX5_findEmptyRecords_26 (by decide) ?_
      refine lv_istore_n (lv' := [(3, .int 0), (0, .ref (a 4)), (1, .int x1), (2, .int x2)]) hx hb dX5_findEmptyRecords_27 rfl hl (by decide) rfl (fun ls hl => ?_)
      exact b_X5_findEmptyRecords_28_4 hC hk10 ih FU _ _ _ _ h _ _ _ hP hD hS (lv_sub hl [1, 2, 3, 0] rfl)

set_option maxRecDepth 100000 in
set_option maxHeartbeats 4000000 in
theorem b_X5_findEmptyRecords_10_4 {p : Program} {l : Launch} {e : Env} {s : State} {m : MethodId} {args : Array Value} {below : List Frame} {meth : Method} {c : Code} {dC : Nat → ClassId} {dI : Nat → Nat → Nat} {a : Nat → Nat} {k : Nat → ClassId} {A : Nat → Prop} {q : ST} (hC : CxA p s m args meth c dC dI k A cX5_findEmptyRecords RX5 none 5)   : ∀ (n : Nat) (x1 : Int32) (σ : ST), f_X5_findEmptyRecords_10 4 n x1 σ = some q → GoA p l e ({ frames := 4, cells := 0, slots := 0, locals := 88 } : Room) s m args below meth c (MQ below (qAv dC dI a k A q) args s 0 0 A) dC dI a k A 5 10 σ [(0, .ref (a 4)), (1, .int x1)] [] := by
  intro n
  induction n with
  | zero =>
    intro x1 σ h
    rw [f_X5_findEmptyRecords_10] at h
    cases h
  | succ n ih =>
    intro x1 σ h
    have hC0 := hC
    obtain ⟨hx, hb, hr, hml, hown, hts, hlocks, hA, hN, hK⟩ := hC0
    intro H locs ls hP hD hS hl
    have hD0 : ∀ σ1 : ST, va_D A (wA a k σ1) := fun σ1 => wA_D hD
    rw [f_X5_findEmptyRecords_10] at h
    refine lv_iload_n hx hb dX5_findEmptyRecords_10 rfl (lv_at hl 1 rfl) ?_
    refine lv_bipush (v := 6) hx hb dX5_findEmptyRecords_11 (by decide) ?_
    refine lv_icmp_ge (tgt := 95) hx hb dX5_findEmptyRecords_13 (by decide) (fun hc => ?_) (fun hc => ?_)
    · replace h := ip hc h
      obtain rfl := Option.some.inj h
      exact W.vret hx hb hr (fun t ht hW => ⟨⟨(), rfl, trivial, ⟨by rw [ht]; exact hP, va_K.moved hW.alike hK, hD⟩⟩, hS.F ht⟩) hS.2.2 dX5_findEmptyRecords_95
    · replace h := iq hc h
      refine lv_iconst (v := 0) hx hb dX5_findEmptyRecords_16 (by decide) ?_
      refine lv_istore_n (lv' := [(2, .int 0), (0, .ref (a 4)), (1, .int x1)]) hx hb dX5_findEmptyRecords_17 rfl hl (by decide) rfl (fun ls hl => ?_)
      exact b_X5_findEmptyRecords_18_4 hC ih FU _ _ _ h _ _ _ hP hD hS (lv_sub hl [1, 2, 0] rfl)

set_option maxRecDepth 100000 in
set_option maxHeartbeats 4000000 in
theorem b_X5_findEmptyRecords_e_4 {p : Program} {l : Launch} {e : Env} {s : State} {m : MethodId} {args : Array Value} {below : List Frame} {meth : Method} {c : Code} {dC : Nat → ClassId} {dI : Nat → Nat → Nat} {a : Nat → Nat} {k : Nat → ClassId} {A : Nat → Prop} {q : ST} (hC : CxA p s m args meth c dC dI k A cX5_findEmptyRecords RX5 none 5)    {σ : ST} (h : f_X5_findEmptyRecords 4  σ = some q) : GoA p l e ({ frames := 4, cells := 0, slots := 0, locals := 88 } : Room) s m args below meth c (MQ below (qAv dC dI a k A q) args s 0 0 A) dC dI a k A 5 0 σ (lv_args 0 [.ref (a 4)]) [] := by
  have hC0 := hC
  obtain ⟨hx, hb, hr, hml, hown, hts, hlocks, hA, hN, hK⟩ := hC0
  intro H locs ls hP hD hS hl
  have hD0 : ∀ σ1 : ST, va_D A (wA a k σ1) := fun σ1 => wA_D hD
  replace hl : lv_has ls 5 [(0, .ref (a 4))] := hl
  unfold f_X5_findEmptyRecords at h
  refine lv_aload_n hx hb dX5_findEmptyRecords_0 rfl (lv_at hl 0 rfl) ?_
  refine va_get (D := (dC, dI)) (ci := 5) (C := RX5) (T := TX5) (N := 17) hx hb hts inlX5 hown hK hP 4 gA_4 rfl 7 (by decide) (hts (.fieldLink RX5 35 "ShapeReader$Shapes" "emptyHeights" "[I") mw_14_24) (fun _ h9 => h9) rfl dX5_findEmptyRecords_1 ?_
  refine lv_iconst (v := (-1)) hx hb dX5_findEmptyRecords_4 (by decide) ?_
  obtain ⟨q1, hc, h⟩ := ib h
  have hF := va_frees hD hS hA
  refine va_callv (va_runS (As := [.ref (a 10), .int (-1)]) (rest := []) ⟨hx, hb, hml, hown, hts⟩ (s_J7_fill_53178_10 hc) (va_cwS 2 hts (gS mw_15_28 mw_1_2 mw_1_3 mw_58_3) rfl rfl rfl (by decide +kernel) ⟨(Nat.le_of_ble_eq_true rfl), (Nat.le_of_ble_eq_true rfl)⟩) (vS hK hP hD hN) rfl rfl hl.1 rfl (lv_room (Nat.le_of_ble_eq_true rfl)) dX5_findEmptyRecords_5 ⟨(Nat.le_of_ble_eq_true rfl), (Nat.le_of_ble_eq_true rfl)⟩) hS (fun q _ h => hF q h) hF (fun u t H locs ht hvm hw hB _ _ hS => ?_)
  replace hP : va_P (dC, dI) vwCl (wA a k q1) H := by rw [← ht]; exact hB.1
  replace hD := hD0 (q1)
  clear hB hF
  refine lv_iconst (v := 0) hx hb dX5_findEmptyRecords_8 (by decide) ?_
  refine lv_istore_n (lv' := [(1, .int 0), (0, .ref (a 4))]) hx hb dX5_findEmptyRecords_9 rfl hl (by decide) rfl (fun ls hl => ?_)
  exact b_X5_findEmptyRecords_10_4 hC FU _ _ h _ _ _ hP hD hS (lv_sub hl [1, 0] rfl)

theorem s_X5_findEmptyRecords_4 {l : Launch} {dC : Nat → ClassId} {dI : Nat → Nat → Nat} {a : Nat → Nat} {k : Nat → ClassId} {sz : Nat}  {σ : ST} {q : ST} (h : f_X5_findEmptyRecords 4  σ = some q) : Met l yX5_findEmptyRecords (.code yX5_findEmptyRecords cX5_findEmptyRecords 5 none :: pw) ({ frames := 4, cells := 0, slots := 0, locals := 88 } : Room) (va_Pc [.ref (a 4)] (vPre dC dI (wA a k σ) (tA k) sz)) (qAv dC dI a k (va_A (wA a k σ) sz) q) 0 0 (va_A (wA a k σ) sz) := metA (fun A => qAv dC dI a k A q) (plainFor_of_name (by decide)) (Nat.le_of_ble_eq_true rfl) (fun _ _ _ _ _ _ _ _ hC => b_X5_findEmptyRecords_e_4 hC h)
