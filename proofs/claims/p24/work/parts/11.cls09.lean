theorem dX4_findSources_0 : decode cX4_findSources 0 = .ok (.iconst 0, 1) := by decide +kernel
theorem dX4_findSources_1 : decode cX4_findSources 1 = .ok (.istore 4, 2) := by decide +kernel
theorem dX4_findSources_3 : decode cX4_findSources 3 = .ok (.iload 4, 2) := by decide +kernel
theorem dX4_findSources_5 : decode cX4_findSources 5 = .ok (.aload_n 0, 1) := by decide +kernel
theorem dX4_findSources_6 : decode cX4_findSources 6 = .ok (.getfield 37, 3) := by decide +kernel
theorem dX4_findSources_9 : decode cX4_findSources 9 = .ok (.iload_n 2, 1) := by decide +kernel
theorem dX4_findSources_10 : decode cX4_findSources 10 = .ok (.invokevirtual 152, 3) := by decide +kernel
theorem dX4_findSources_13 : decode cX4_findSources 13 = .ok (.if_icmp .ge 49, 3) := by decide +kernel
theorem dX4_findSources_16 : decode cX4_findSources 16 = .ok (.iload_n 3, 1) := by decide +kernel
theorem dX4_findSources_17 : decode cX4_findSources 17 = .ok (.ifCond .lt 39, 3) := by decide +kernel
theorem dX4_findSources_20 : decode cX4_findSources 20 = .ok (.iload_n 3, 1) := by decide +kernel
theorem dX4_findSources_21 : decode cX4_findSources 21 = .ok (.bipush 31, 2) := by decide +kernel
theorem dX4_findSources_23 : decode cX4_findSources 23 = .ok (.if_icmp .ge 33, 3) := by decide +kernel
theorem dX4_findSources_26 : decode cX4_findSources 26 = .ok (.iload 4, 2) := by decide +kernel
theorem dX4_findSources_28 : decode cX4_findSources 28 = .ok (.bipush 8, 2) := by decide +kernel
theorem dX4_findSources_30 : decode cX4_findSources 30 = .ok (.if_icmp .ge 26, 3) := by decide +kernel
theorem dX4_findSources_33 : decode cX4_findSources 33 = .ok (.aload_n 0, 1) := by decide +kernel
theorem dX4_findSources_34 : decode cX4_findSources 34 = .ok (.getfield 34, 3) := by decide +kernel
theorem dX4_findSources_37 : decode cX4_findSources 37 = .ok (.iload_n 3, 1) := by decide +kernel
theorem dX4_findSources_38 : decode cX4_findSources 38 = .ok (.bipush 8, 2) := by decide +kernel
theorem dX4_findSources_40 : decode cX4_findSources 40 = .ok (.imul, 1) := by decide +kernel
theorem dX4_findSources_41 : decode cX4_findSources 41 = .ok (.iload 4, 2) := by decide +kernel
theorem dX4_findSources_43 : decode cX4_findSources 43 = .ok (.iadd, 1) := by decide +kernel
theorem dX4_findSources_44 : decode cX4_findSources 44 = .ok (.aload_n 0, 1) := by decide +kernel
theorem dX4_findSources_45 : decode cX4_findSources 45 = .ok (.getfield 37, 3) := by decide +kernel
theorem dX4_findSources_48 : decode cX4_findSources 48 = .ok (.iload_n 1, 1) := by decide +kernel
theorem dX4_findSources_49 : decode cX4_findSources 49 = .ok (.iload_n 2, 1) := by decide +kernel
theorem dX4_findSources_50 : decode cX4_findSources 50 = .ok (.iload 4, 2) := by decide +kernel
theorem dX4_findSources_52 : decode cX4_findSources 52 = .ok (.invokevirtual 175, 3) := by decide +kernel
theorem dX4_findSources_55 : decode cX4_findSources 55 = .ok (.iastore, 1) := by decide +kernel
theorem dX4_findSources_56 : decode cX4_findSources 56 = .ok (.iinc 4 1, 3) := by decide +kernel
theorem dX4_findSources_59 : decode cX4_findSources 59 = .ok (.goto (-56), 3) := by decide +kernel
theorem dX4_findSources_62 : decode cX4_findSources 62 = .ok (.return_, 1) := by decide +kernel
theorem dX4_sourceAt_0 : decode cX4_sourceAt 0 = .ok (.iload_n 1, 1) := by decide +kernel
theorem dX4_sourceAt_1 : decode cX4_sourceAt 1 = .ok (.ifCond .lt 33, 3) := by decide +kernel
theorem dX4_sourceAt_4 : decode cX4_sourceAt 4 = .ok (.iload_n 1, 1) := by decide +kernel
theorem dX4_sourceAt_5 : decode cX4_sourceAt 5 = .ok (.bipush 31, 2) := by decide +kernel
theorem dX4_sourceAt_7 : decode cX4_sourceAt 7 = .ok (.if_icmp .ge 27, 3) := by decide +kernel
theorem dX4_sourceAt_10 : decode cX4_sourceAt 10 = .ok (.iload_n 2, 1) := by decide +kernel
theorem dX4_sourceAt_11 : decode cX4_sourceAt 11 = .ok (.ifCond .lt 23, 3) := by decide +kernel
theorem dX4_sourceAt_14 : decode cX4_sourceAt 14 = .ok (.iload_n 2, 1) := by decide +kernel
theorem dX4_sourceAt_15 : decode cX4_sourceAt 15 = .ok (.bipush 8, 2) := by decide +kernel
theorem dX4_sourceAt_17 : decode cX4_sourceAt 17 = .ok (.if_icmp .ge 17, 3) := by decide +kernel
theorem dX4_sourceAt_20 : decode cX4_sourceAt 20 = .ok (.aload_n 0, 1) := by decide +kernel
theorem dX4_sourceAt_21 : decode cX4_sourceAt 21 = .ok (.getfield 34, 3) := by decide +kernel
theorem dX4_sourceAt_24 : decode cX4_sourceAt 24 = .ok (.iload_n 1, 1) := by decide +kernel
theorem dX4_sourceAt_25 : decode cX4_sourceAt 25 = .ok (.bipush 8, 2) := by decide +kernel
theorem dX4_sourceAt_27 : decode cX4_sourceAt 27 = .ok (.imul, 1) := by decide +kernel
theorem dX4_sourceAt_28 : decode cX4_sourceAt 28 = .ok (.iload_n 2, 1) := by decide +kernel
theorem dX4_sourceAt_29 : decode cX4_sourceAt 29 = .ok (.iadd, 1) := by decide +kernel
theorem dX4_sourceAt_30 : decode cX4_sourceAt 30 = .ok (.iaload, 1) := by decide +kernel
theorem dX4_sourceAt_31 : decode cX4_sourceAt 31 = .ok (.goto 4, 3) := by decide +kernel
theorem dX4_sourceAt_34 : decode cX4_sourceAt 34 = .ok (.iconst (-1), 1) := by decide +kernel
theorem dX4_sourceAt_35 : decode cX4_sourceAt 35 = .ok (.ireturn, 1) := by decide +kernel
theorem dX4_take_0 : decode cX4_take 0 = .ok (.iload 5, 2) := by decide +kernel
theorem dX4_take_2 : decode cX4_take 2 = .ok (.bipush 31, 2) := by decide +kernel
theorem dX4_take_4 : decode cX4_take 4 = .ok (.if_icmp .lt 14, 3) := by decide +kernel
theorem dX4_take_7 : decode cX4_take 7 = .ok (.aload_n 0, 1) := by decide +kernel
theorem dX4_take_8 : decode cX4_take 8 = .ok (.bipush 16, 2) := by decide +kernel
theorem dX4_take_10 : decode cX4_take 10 = .ok (.aload_n 0, 1) := by decide +kernel
theorem dX4_take_11 : decode cX4_take 11 = .ok (.getfield 15, 3) := by decide +kernel
theorem dX4_take_14 : decode cX4_take 14 = .ok (.invokevirtual 86, 3) := by decide +kernel
theorem dX4_take_17 : decode cX4_take 17 = .ok (.return_, 1) := by decide +kernel
theorem dX4_take_18 : decode cX4_take 18 = .ok (.iload_n 2, 1) := by decide +kernel
theorem dX4_take_19 : decode cX4_take 19 = .ok (.iconst (-1), 1) := by decide +kernel
theorem dX4_take_20 : decode cX4_take 20 = .ok (.if_icmp .ne 14, 3) := by decide +kernel
theorem dX4_take_23 : decode cX4_take 23 = .ok (.aload_n 0, 1) := by decide +kernel
theorem dX4_take_24 : decode cX4_take 24 = .ok (.iload_n 1, 1) := by decide +kernel
theorem dX4_take_25 : decode cX4_take 25 = .ok (.iload 5, 2) := by decide +kernel
theorem dX4_take_27 : decode cX4_take 27 = .ok (.invokevirtual 95, 3) := by decide +kernel
theorem dX4_take_30 : decode cX4_take 30 = .ok (.ifCond .eq 4, 3) := by decide +kernel
theorem dX4_take_33 : decode cX4_take 33 = .ok (.return_, 1) := by decide +kernel
theorem dX4_take_34 : decode cX4_take 34 = .ok (.aload_n 0, 1) := by decide +kernel
theorem dX4_take_35 : decode cX4_take 35 = .ok (.getfield 37, 3) := by decide +kernel
theorem dX4_take_38 : decode cX4_take 38 = .ok (.iload_n 1, 1) := by decide +kernel
theorem dX4_take_39 : decode cX4_take 39 = .ok (.invokevirtual 99, 3) := by decide +kernel
theorem dX4_take_42 : decode cX4_take 42 = .ok (.bipush 8, 2) := by decide +kernel
theorem dX4_take_44 : decode cX4_take 44 = .ok (.if_icmp .eq 15, 3) := by decide +kernel
theorem dX4_take_47 : decode cX4_take 47 = .ok (.aload_n 0, 1) := by decide +kernel
theorem dX4_take_48 : decode cX4_take 48 = .ok (.iload_n 1, 1) := by decide +kernel
theorem dX4_take_49 : decode cX4_take 49 = .ok (.iload_n 2, 1) := by decide +kernel
theorem dX4_take_50 : decode cX4_take 50 = .ok (.iload_n 3, 1) := by decide +kernel
theorem dX4_take_51 : decode cX4_take 51 = .ok (.iload 4, 2) := by decide +kernel
theorem dX4_take_53 : decode cX4_take 53 = .ok (.iload 5, 2) := by decide +kernel
theorem dX4_take_55 : decode cX4_take 55 = .ok (.invokevirtual 102, 3) := by decide +kernel
theorem dX4_take_58 : decode cX4_take 58 = .ok (.return_, 1) := by decide +kernel
theorem dX4_take_59 : decode cX4_take 59 = .ok (.aload_n 0, 1) := by decide +kernel
theorem dX4_take_60 : decode cX4_take 60 = .ok (.getfield 15, 3) := by decide +kernel
theorem dX4_take_63 : decode cX4_take 63 = .ok (.istore 6, 2) := by decide +kernel
theorem dX4_take_65 : decode cX4_take 65 = .ok (.aload_n 0, 1) := by decide +kernel
theorem dX4_take_66 : decode cX4_take 66 = .ok (.iload 6, 2) := by decide +kernel
theorem dX4_take_68 : decode cX4_take 68 = .ok (.aload_n 0, 1) := by decide +kernel
theorem dX4_take_69 : decode cX4_take 69 = .ok (.getfield 37, 3) := by decide +kernel
theorem dX4_take_72 : decode cX4_take 72 = .ok (.iload_n 1, 1) := by decide +kernel
theorem dX4_take_73 : decode cX4_take 73 = .ok (.invokevirtual 105, 3) := by decide +kernel
theorem dX4_take_76 : decode cX4_take 76 = .ok (.iconst 1, 1) := by decide +kernel
theorem dX4_take_77 : decode cX4_take 77 = .ok (.isub, 1) := by decide +kernel
theorem dX4_take_78 : decode cX4_take 78 = .ok (.invokevirtual 108, 3) := by decide +kernel
theorem dX4_take_81 : decode cX4_take 81 = .ok (.istore 7, 2) := by decide +kernel
theorem dX4_take_83 : decode cX4_take 83 = .ok (.aload_n 0, 1) := by decide +kernel
theorem dX4_take_84 : decode cX4_take 84 = .ok (.getfield 21, 3) := by decide +kernel
theorem dX4_take_87 : decode cX4_take 87 = .ok (.ifCond .eq 4, 3) := by decide +kernel
theorem dX4_take_90 : decode cX4_take 90 = .ok (.return_, 1) := by decide +kernel
theorem dX4_take_91 : decode cX4_take 91 = .ok (.aload_n 0, 1) := by decide +kernel
theorem dX4_take_92 : decode cX4_take 92 = .ok (.getfield 37, 3) := by decide +kernel
theorem dX4_take_95 : decode cX4_take 95 = .ok (.iload_n 1, 1) := by decide +kernel
theorem dX4_take_96 : decode cX4_take 96 = .ok (.iload 7, 2) := by decide +kernel
theorem dX4_take_98 : decode cX4_take 98 = .ok (.invokevirtual 112, 3) := by decide +kernel
theorem dX4_take_101 : decode cX4_take 101 = .ok (.istore 8, 2) := by decide +kernel
theorem dX4_take_103 : decode cX4_take 103 = .ok (.aload_n 0, 1) := by decide +kernel
theorem dX4_take_104 : decode cX4_take 104 = .ok (.sipush 200, 3) := by decide +kernel
theorem dX4_take_107 : decode cX4_take 107 = .ok (.iload 7, 2) := by decide +kernel
theorem dX4_take_109 : decode cX4_take 109 = .ok (.iadd, 1) := by decide +kernel
theorem dX4_take_110 : decode cX4_take 110 = .ok (.invokevirtual 115, 3) := by decide +kernel
theorem dX4_take_113 : decode cX4_take 113 = .ok (.iload_n 2, 1) := by decide +kernel
theorem dX4_take_114 : decode cX4_take 114 = .ok (.iconst (-1), 1) := by decide +kernel
theorem dX4_take_115 : decode cX4_take 115 = .ok (.if_icmp .eq 25, 3) := by decide +kernel
theorem dX4_take_118 : decode cX4_take 118 = .ok (.aload_n 0, 1) := by decide +kernel
theorem dX4_take_119 : decode cX4_take 119 = .ok (.getfield 45, 3) := by decide +kernel
theorem dX4_take_122 : decode cX4_take 122 = .ok (.iload 8, 2) := by decide +kernel
theorem dX4_take_124 : decode cX4_take 124 = .ok (.iload_n 2, 1) := by decide +kernel
theorem dX4_take_125 : decode cX4_take 125 = .ok (.invokevirtual 119, 3) := by decide +kernel
theorem dX4_take_128 : decode cX4_take 128 = .ok (.ifCond .ne 12, 3) := by decide +kernel
theorem dX4_take_131 : decode cX4_take 131 = .ok (.aload_n 0, 1) := by decide +kernel
theorem dX4_take_132 : decode cX4_take 132 = .ok (.bipush 13, 2) := by decide +kernel
theorem dX4_take_134 : decode cX4_take 134 = .ok (.iload 6, 2) := by decide +kernel
theorem dX4_take_136 : decode cX4_take 136 = .ok (.invokevirtual 86, 3) := by decide +kernel
theorem dX4_take_139 : decode cX4_take 139 = .ok (.return_, 1) := by decide +kernel
theorem dX4_take_140 : decode cX4_take 140 = .ok (.aload_n 0, 1) := by decide +kernel
theorem dX4_take_141 : decode cX4_take 141 = .ok (.iload 8, 2) := by decide +kernel
theorem dX4_take_143 : decode cX4_take 143 = .ok (.iload_n 2, 1) := by decide +kernel
theorem dX4_take_144 : decode cX4_take 144 = .ok (.iload_n 3, 1) := by decide +kernel
theorem dX4_take_145 : decode cX4_take 145 = .ok (.iload 4, 2) := by decide +kernel
theorem dX4_take_147 : decode cX4_take 147 = .ok (.iload 5, 2) := by decide +kernel
theorem dX4_take_149 : decode cX4_take 149 = .ok (.invokevirtual 102, 3) := by decide +kernel
theorem dX4_take_152 : decode cX4_take 152 = .ok (.aload_n 0, 1) := by decide +kernel
theorem dX4_take_153 : decode cX4_take 153 = .ok (.invokevirtual 122, 3) := by decide +kernel
theorem dX4_take_156 : decode cX4_take 156 = .ok (.return_, 1) := by decide +kernel
theorem dX4_takeField_0 : decode cX4_takeField 0 = .ok (.aload_n 0, 1) := by decide +kernel
theorem dX4_takeField_1 : decode cX4_takeField 1 = .ok (.getfield 15, 3) := by decide +kernel
theorem dX4_takeField_4 : decode cX4_takeField 4 = .ok (.istore 6, 2) := by decide +kernel
theorem dX4_takeField_6 : decode cX4_takeField 6 = .ok (.iconst 0, 1) := by decide +kernel
theorem dX4_takeField_7 : decode cX4_takeField 7 = .ok (.istore 7, 2) := by decide +kernel
theorem dX4_takeField_9 : decode cX4_takeField 9 = .ok (.iconst 0, 1) := by decide +kernel
theorem dX4_takeField_10 : decode cX4_takeField 10 = .ok (.istore 8, 2) := by decide +kernel
theorem dX4_takeField_12 : decode cX4_takeField 12 = .ok (.iload 8, 2) := by decide +kernel
theorem dX4_takeField_14 : decode cX4_takeField 14 = .ok (.aload_n 0, 1) := by decide +kernel
theorem dX4_takeField_15 : decode cX4_takeField 15 = .ok (.getfield 37, 3) := by decide +kernel
theorem dX4_takeField_18 : decode cX4_takeField 18 = .ok (.iload_n 3, 1) := by decide +kernel
theorem dX4_takeField_19 : decode cX4_takeField 19 = .ok (.invokevirtual 152, 3) := by decide +kernel
theorem dX4_takeField_22 : decode cX4_takeField 22 = .ok (.if_icmp .ge 60, 3) := by decide +kernel
theorem dX4_takeField_25 : decode cX4_takeField 25 = .ok (.aload_n 0, 1) := by decide +kernel
theorem dX4_takeField_26 : decode cX4_takeField 26 = .ok (.getfield 21, 3) := by decide +kernel
theorem dX4_takeField_29 : decode cX4_takeField 29 = .ok (.ifCond .ne 53, 3) := by decide +kernel
theorem dX4_takeField_32 : decode cX4_takeField 32 = .ok (.aload_n 0, 1) := by decide +kernel
theorem dX4_takeField_33 : decode cX4_takeField 33 = .ok (.iload 5, 2) := by decide +kernel
theorem dX4_takeField_35 : decode cX4_takeField 35 = .ok (.iload 8, 2) := by decide +kernel
theorem dX4_takeField_37 : decode cX4_takeField 37 = .ok (.invokevirtual 169, 3) := by decide +kernel
theorem dX4_takeField_40 : decode cX4_takeField 40 = .ok (.iload_n 2, 1) := by decide +kernel
theorem dX4_takeField_41 : decode cX4_takeField 41 = .ok (.if_icmp .ne 35, 3) := by decide +kernel
theorem dX4_takeField_44 : decode cX4_takeField 44 = .ok (.aload_n 0, 1) := by decide +kernel
theorem dX4_takeField_45 : decode cX4_takeField 45 = .ok (.iload 6, 2) := by decide +kernel
theorem dX4_takeField_47 : decode cX4_takeField 47 = .ok (.putfield 15, 3) := by decide +kernel
theorem dX4_takeField_50 : decode cX4_takeField 50 = .ok (.iconst 1, 1) := by decide +kernel
theorem dX4_takeField_51 : decode cX4_takeField 51 = .ok (.istore 7, 2) := by decide +kernel
theorem dX4_takeField_53 : decode cX4_takeField 53 = .ok (.aload_n 0, 1) := by decide +kernel
theorem dX4_takeField_54 : decode cX4_takeField 54 = .ok (.iload_n 1, 1) := by decide +kernel
theorem dX4_takeField_55 : decode cX4_takeField 55 = .ok (.aload_n 0, 1) := by decide +kernel
theorem dX4_takeField_56 : decode cX4_takeField 56 = .ok (.getfield 37, 3) := by decide +kernel
theorem dX4_takeField_59 : decode cX4_takeField 59 = .ok (.iload_n 3, 1) := by decide +kernel
theorem dX4_takeField_60 : decode cX4_takeField 60 = .ok (.iload 8, 2) := by decide +kernel
theorem dX4_takeField_62 : decode cX4_takeField 62 = .ok (.invokevirtual 163, 3) := by decide +kernel
theorem dX4_takeField_65 : decode cX4_takeField 65 = .ok (.iload 4, 2) := by decide +kernel
theorem dX4_takeField_67 : decode cX4_takeField 67 = .ok (.iload 8, 2) := by decide +kernel
theorem dX4_takeField_69 : decode cX4_takeField 69 = .ok (.iload 5, 2) := by decide +kernel
theorem dX4_takeField_71 : decode cX4_takeField 71 = .ok (.iconst 1, 1) := by decide +kernel
theorem dX4_takeField_72 : decode cX4_takeField 72 = .ok (.iadd, 1) := by decide +kernel
theorem dX4_takeField_73 : decode cX4_takeField 73 = .ok (.invokevirtual 82, 3) := by decide +kernel
theorem dX4_takeField_76 : decode cX4_takeField 76 = .ok (.iinc 8 1, 3) := by decide +kernel
theorem dX4_takeField_79 : decode cX4_takeField 79 = .ok (.goto (-67), 3) := by decide +kernel
theorem dX4_takeField_82 : decode cX4_takeField 82 = .ok (.iload 7, 2) := by decide +kernel
theorem dX4_takeField_84 : decode cX4_takeField 84 = .ok (.ifCond .ne 15, 3) := by decide +kernel
theorem dX4_takeField_87 : decode cX4_takeField 87 = .ok (.aload_n 0, 1) := by decide +kernel
theorem dX4_takeField_88 : decode cX4_takeField 88 = .ok (.iload_n 1, 1) := by decide +kernel
theorem dX4_takeField_89 : decode cX4_takeField 89 = .ok (.iconst (-1), 1) := by decide +kernel
theorem dX4_takeField_90 : decode cX4_takeField 90 = .ok (.iconst (-1), 1) := by decide +kernel
theorem dX4_takeField_91 : decode cX4_takeField 91 = .ok (.iconst 0, 1) := by decide +kernel
theorem dX4_takeField_92 : decode cX4_takeField 92 = .ok (.iload 5, 2) := by decide +kernel
theorem dX4_takeField_94 : decode cX4_takeField 94 = .ok (.iconst 1, 1) := by decide +kernel
theorem dX4_takeField_95 : decode cX4_takeField 95 = .ok (.iadd, 1) := by decide +kernel
theorem dX4_takeField_96 : decode cX4_takeField 96 = .ok (.invokevirtual 82, 3) := by decide +kernel
theorem dX4_takeField_99 : decode cX4_takeField 99 = .ok (.return_, 1) := by decide +kernel
theorem dX4_takeList_0 : decode cX4_takeList 0 = .ok (.aload_n 0, 1) := by decide +kernel
theorem dX4_takeList_1 : decode cX4_takeList 1 = .ok (.aload_n 0, 1) := by decide +kernel
theorem dX4_takeList_2 : decode cX4_takeList 2 = .ok (.getfield 15, 3) := by decide +kernel
theorem dX4_takeList_5 : decode cX4_takeList 5 = .ok (.sipush 200, 3) := by decide +kernel
theorem dX4_takeList_8 : decode cX4_takeList 8 = .ok (.invokevirtual 108, 3) := by decide +kernel
theorem dX4_takeList_11 : decode cX4_takeList 11 = .ok (.istore 6, 2) := by decide +kernel
theorem dX4_takeList_13 : decode cX4_takeList 13 = .ok (.aload_n 0, 1) := by decide +kernel
theorem dX4_takeList_14 : decode cX4_takeList 14 = .ok (.iload_n 2, 1) := by decide +kernel
theorem dX4_takeList_15 : decode cX4_takeList 15 = .ok (.iload_n 3, 1) := by decide +kernel
theorem dX4_takeList_16 : decode cX4_takeList 16 = .ok (.iload 4, 2) := by decide +kernel
theorem dX4_takeList_18 : decode cX4_takeList 18 = .ok (.iload 6, 2) := by decide +kernel
theorem dX4_takeList_20 : decode cX4_takeList 20 = .ok (.lconst 0, 1) := by decide +kernel
theorem dX4_takeList_21 : decode cX4_takeList 21 = .ok (.invokevirtual 155, 3) := by decide +kernel
theorem dX4_takeList_24 : decode cX4_takeList 24 = .ok (.istore 7, 2) := by decide +kernel
theorem dX4_takeList_26 : decode cX4_takeList 26 = .ok (.iload_n 2, 1) := by decide +kernel
theorem dX4_takeList_27 : decode cX4_takeList 27 = .ok (.iconst (-1), 1) := by decide +kernel
theorem dX4_takeList_28 : decode cX4_takeList 28 = .ok (.if_icmp .ne 7, 3) := by decide +kernel
theorem dX4_takeList_31 : decode cX4_takeList 31 = .ok (.iconst (-1), 1) := by decide +kernel
theorem dX4_takeList_32 : decode cX4_takeList 32 = .ok (.goto 11, 3) := by decide +kernel
theorem dX4_takeList_35 : decode cX4_takeList 35 = .ok (.aload_n 0, 1) := by decide +kernel
theorem dX4_takeList_36 : decode cX4_takeList 36 = .ok (.getfield 37, 3) := by decide +kernel
theorem dX4_takeList_39 : decode cX4_takeList 39 = .ok (.iload_n 2, 1) := by decide +kernel
theorem dX4_takeList_40 : decode cX4_takeList 40 = .ok (.invokevirtual 131, 3) := by decide +kernel
theorem dX4_takeList_43 : decode cX4_takeList 43 = .ok (.istore 8, 2) := by decide +kernel
theorem dX4_takeList_45 : decode cX4_takeList 45 = .ok (.iconst 0, 1) := by decide +kernel
theorem dX4_takeList_46 : decode cX4_takeList 46 = .ok (.istore 9, 2) := by decide +kernel
theorem dX4_takeList_48 : decode cX4_takeList 48 = .ok (.iload 9, 2) := by decide +kernel
theorem dX4_takeList_50 : decode cX4_takeList 50 = .ok (.iload 6, 2) := by decide +kernel
theorem dX4_takeList_52 : decode cX4_takeList 52 = .ok (.if_icmp .ge 44, 3) := by decide +kernel
theorem dX4_takeList_55 : decode cX4_takeList 55 = .ok (.aload_n 0, 1) := by decide +kernel
theorem dX4_takeList_56 : decode cX4_takeList 56 = .ok (.getfield 21, 3) := by decide +kernel
theorem dX4_takeList_59 : decode cX4_takeList 59 = .ok (.ifCond .ne 37, 3) := by decide +kernel
theorem dX4_takeList_62 : decode cX4_takeList 62 = .ok (.aload_n 0, 1) := by decide +kernel
theorem dX4_takeList_63 : decode cX4_takeList 63 = .ok (.bipush 100, 2) := by decide +kernel
theorem dX4_takeList_65 : decode cX4_takeList 65 = .ok (.iload 9, 2) := by decide +kernel
theorem dX4_takeList_67 : decode cX4_takeList 67 = .ok (.iadd, 1) := by decide +kernel
theorem dX4_takeList_68 : decode cX4_takeList 68 = .ok (.invokevirtual 115, 3) := by decide +kernel
theorem dX4_takeList_71 : decode cX4_takeList 71 = .ok (.aload_n 0, 1) := by decide +kernel
theorem dX4_takeList_72 : decode cX4_takeList 72 = .ok (.iload_n 1, 1) := by decide +kernel
theorem dX4_takeList_73 : decode cX4_takeList 73 = .ok (.iload 8, 2) := by decide +kernel
theorem dX4_takeList_75 : decode cX4_takeList 75 = .ok (.iload 7, 2) := by decide +kernel
theorem dX4_takeList_77 : decode cX4_takeList 77 = .ok (.iload 9, 2) := by decide +kernel
theorem dX4_takeList_79 : decode cX4_takeList 79 = .ok (.iload 5, 2) := by decide +kernel
theorem dX4_takeList_81 : decode cX4_takeList 81 = .ok (.iconst 1, 1) := by decide +kernel
theorem dX4_takeList_82 : decode cX4_takeList 82 = .ok (.iadd, 1) := by decide +kernel
theorem dX4_takeList_83 : decode cX4_takeList 83 = .ok (.invokevirtual 82, 3) := by decide +kernel
theorem dX4_takeList_86 : decode cX4_takeList 86 = .ok (.aload_n 0, 1) := by decide +kernel
theorem dX4_takeList_87 : decode cX4_takeList 87 = .ok (.invokevirtual 122, 3) := by decide +kernel
theorem dX4_takeList_90 : decode cX4_takeList 90 = .ok (.iinc 9 1, 3) := by decide +kernel
theorem dX4_takeList_93 : decode cX4_takeList 93 = .ok (.goto (-45), 3) := by decide +kernel
theorem dX4_takeList_96 : decode cX4_takeList 96 = .ok (.return_, 1) := by decide +kernel
theorem dX4_takeOwn_0 : decode cX4_takeOwn 0 = .ok (.aload_n 0, 1) := by decide +kernel
theorem dX4_takeOwn_1 : decode cX4_takeOwn 1 = .ok (.getfield 37, 3) := by decide +kernel
theorem dX4_takeOwn_4 : decode cX4_takeOwn 4 = .ok (.iload_n 2, 1) := by decide +kernel
theorem dX4_takeOwn_5 : decode cX4_takeOwn 5 = .ok (.invokevirtual 99, 3) := by decide +kernel
theorem dX4_takeOwn_8 : decode cX4_takeOwn 8 = .ok (.bipush 8, 2) := by decide +kernel
theorem dX4_takeOwn_10 : decode cX4_takeOwn 10 = .ok (.if_icmp .ne 15, 3) := by decide +kernel
theorem dX4_takeOwn_13 : decode cX4_takeOwn 13 = .ok (.aload_n 0, 1) := by decide +kernel
theorem dX4_takeOwn_14 : decode cX4_takeOwn 14 = .ok (.getfield 45, 3) := by decide +kernel
theorem dX4_takeOwn_17 : decode cX4_takeOwn 17 = .ok (.iload_n 1, 1) := by decide +kernel
theorem dX4_takeOwn_18 : decode cX4_takeOwn 18 = .ok (.iload_n 2, 1) := by decide +kernel
theorem dX4_takeOwn_19 : decode cX4_takeOwn 19 = .ok (.invokevirtual 128, 3) := by decide +kernel
theorem dX4_takeOwn_22 : decode cX4_takeOwn 22 = .ok (.goto 4, 3) := by decide +kernel
theorem dX4_takeOwn_25 : decode cX4_takeOwn 25 = .ok (.iload_n 2, 1) := by decide +kernel
theorem dX4_takeOwn_26 : decode cX4_takeOwn 26 = .ok (.istore 6, 2) := by decide +kernel
theorem dX4_takeOwn_28 : decode cX4_takeOwn 28 = .ok (.aload_n 0, 1) := by decide +kernel
theorem dX4_takeOwn_29 : decode cX4_takeOwn 29 = .ok (.getfield 37, 3) := by decide +kernel
theorem dX4_takeOwn_32 : decode cX4_takeOwn 32 = .ok (.iload_n 1, 1) := by decide +kernel
theorem dX4_takeOwn_33 : decode cX4_takeOwn 33 = .ok (.invokevirtual 99, 3) := by decide +kernel
theorem dX4_takeOwn_36 : decode cX4_takeOwn 36 = .ok (.istore 7, 2) := by decide +kernel
theorem dX4_takeOwn_38 : decode cX4_takeOwn 38 = .ok (.iload 7, 2) := by decide +kernel
theorem dX4_takeOwn_40 : decode cX4_takeOwn 40 = .ok (.bipush 7, 2) := by decide +kernel
theorem dX4_takeOwn_42 : decode cX4_takeOwn 42 = .ok (.if_icmp .ne 25, 3) := by decide +kernel
theorem dX4_takeOwn_45 : decode cX4_takeOwn 45 = .ok (.aload_n 0, 1) := by decide +kernel
theorem dX4_takeOwn_46 : decode cX4_takeOwn 46 = .ok (.aload_n 0, 1) := by decide +kernel
theorem dX4_takeOwn_47 : decode cX4_takeOwn 47 = .ok (.getfield 37, 3) := by decide +kernel
theorem dX4_takeOwn_50 : decode cX4_takeOwn 50 = .ok (.iload_n 1, 1) := by decide +kernel
theorem dX4_takeOwn_51 : decode cX4_takeOwn 51 = .ok (.invokevirtual 131, 3) := by decide +kernel
theorem dX4_takeOwn_54 : decode cX4_takeOwn 54 = .ok (.iload 6, 2) := by decide +kernel
theorem dX4_takeOwn_56 : decode cX4_takeOwn 56 = .ok (.iload_n 3, 1) := by decide +kernel
theorem dX4_takeOwn_57 : decode cX4_takeOwn 57 = .ok (.iload 4, 2) := by decide +kernel
theorem dX4_takeOwn_59 : decode cX4_takeOwn 59 = .ok (.iload 5, 2) := by decide +kernel
theorem dX4_takeOwn_61 : decode cX4_takeOwn 61 = .ok (.invokevirtual 134, 3) := by decide +kernel
theorem dX4_takeOwn_64 : decode cX4_takeOwn 64 = .ok (.goto 43, 3) := by decide +kernel
theorem dX4_takeOwn_67 : decode cX4_takeOwn 67 = .ok (.iload 7, 2) := by decide +kernel
theorem dX4_takeOwn_69 : decode cX4_takeOwn 69 = .ok (.bipush 6, 2) := by decide +kernel
theorem dX4_takeOwn_71 : decode cX4_takeOwn 71 = .ok (.if_icmp .ne 25, 3) := by decide +kernel
theorem dX4_takeOwn_74 : decode cX4_takeOwn 74 = .ok (.aload_n 0, 1) := by decide +kernel
theorem dX4_takeOwn_75 : decode cX4_takeOwn 75 = .ok (.aload_n 0, 1) := by decide +kernel
theorem dX4_takeOwn_76 : decode cX4_takeOwn 76 = .ok (.getfield 37, 3) := by decide +kernel
theorem dX4_takeOwn_79 : decode cX4_takeOwn 79 = .ok (.iload_n 1, 1) := by decide +kernel
theorem dX4_takeOwn_80 : decode cX4_takeOwn 80 = .ok (.invokevirtual 131, 3) := by decide +kernel
theorem dX4_takeOwn_83 : decode cX4_takeOwn 83 = .ok (.iload 6, 2) := by decide +kernel
theorem dX4_takeOwn_85 : decode cX4_takeOwn 85 = .ok (.iload_n 3, 1) := by decide +kernel
theorem dX4_takeOwn_86 : decode cX4_takeOwn 86 = .ok (.iload 4, 2) := by decide +kernel
theorem dX4_takeOwn_88 : decode cX4_takeOwn 88 = .ok (.iload 5, 2) := by decide +kernel
theorem dX4_takeOwn_90 : decode cX4_takeOwn 90 = .ok (.invokevirtual 137, 3) := by decide +kernel
theorem dX4_takeOwn_93 : decode cX4_takeOwn 93 = .ok (.goto 14, 3) := by decide +kernel
theorem dX4_takeOwn_96 : decode cX4_takeOwn 96 = .ok (.aload_n 0, 1) := by decide +kernel
theorem dX4_takeOwn_97 : decode cX4_takeOwn 97 = .ok (.iload 7, 2) := by decide +kernel
theorem dX4_takeOwn_99 : decode cX4_takeOwn 99 = .ok (.iload 6, 2) := by decide +kernel
theorem dX4_takeOwn_101 : decode cX4_takeOwn 101 = .ok (.iload_n 3, 1) := by decide +kernel
theorem dX4_takeOwn_102 : decode cX4_takeOwn 102 = .ok (.iload 4, 2) := by decide +kernel
theorem dX4_takeOwn_104 : decode cX4_takeOwn 104 = .ok (.invokevirtual 140, 3) := by decide +kernel
theorem dX4_takeOwn_107 : decode cX4_takeOwn 107 = .ok (.return_, 1) := by decide +kernel
theorem dX4_takeRecord_0 : decode cX4_takeRecord 0 = .ok (.iload_n 2, 1) := by decide +kernel
theorem dX4_takeRecord_1 : decode cX4_takeRecord 1 = .ok (.iconst (-1), 1) := by decide +kernel
theorem dX4_takeRecord_2 : decode cX4_takeRecord 2 = .ok (.if_icmp .ne 7, 3) := by decide +kernel
theorem dX4_takeRecord_5 : decode cX4_takeRecord 5 = .ok (.iconst (-1), 1) := by decide +kernel
theorem dX4_takeRecord_6 : decode cX4_takeRecord 6 = .ok (.goto 11, 3) := by decide +kernel
theorem dX4_takeRecord_9 : decode cX4_takeRecord 9 = .ok (.aload_n 0, 1) := by decide +kernel
theorem dX4_takeRecord_10 : decode cX4_takeRecord 10 = .ok (.getfield 37, 3) := by decide +kernel
theorem dX4_takeRecord_13 : decode cX4_takeRecord 13 = .ok (.iload_n 2, 1) := by decide +kernel
theorem dX4_takeRecord_14 : decode cX4_takeRecord 14 = .ok (.invokevirtual 131, 3) := by decide +kernel
theorem dX4_takeRecord_17 : decode cX4_takeRecord 17 = .ok (.istore 6, 2) := by decide +kernel
theorem dX4_takeRecord_19 : decode cX4_takeRecord 19 = .ok (.aload_n 0, 1) := by decide +kernel
theorem dX4_takeRecord_20 : decode cX4_takeRecord 20 = .ok (.iload_n 2, 1) := by decide +kernel
theorem dX4_takeRecord_21 : decode cX4_takeRecord 21 = .ok (.iload_n 3, 1) := by decide +kernel
theorem dX4_takeRecord_22 : decode cX4_takeRecord 22 = .ok (.iload 4, 2) := by decide +kernel
theorem dX4_takeRecord_24 : decode cX4_takeRecord 24 = .ok (.aload_n 0, 1) := by decide +kernel
theorem dX4_takeRecord_25 : decode cX4_takeRecord 25 = .ok (.getfield 37, 3) := by decide +kernel
theorem dX4_takeRecord_28 : decode cX4_takeRecord 28 = .ok (.iload 6, 2) := by decide +kernel
theorem dX4_takeRecord_30 : decode cX4_takeRecord 30 = .ok (.invokevirtual 152, 3) := by decide +kernel
theorem dX4_takeRecord_33 : decode cX4_takeRecord 33 = .ok (.lconst 0, 1) := by decide +kernel
theorem dX4_takeRecord_34 : decode cX4_takeRecord 34 = .ok (.invokevirtual 155, 3) := by decide +kernel
theorem dX4_takeRecord_37 : decode cX4_takeRecord 37 = .ok (.istore 7, 2) := by decide +kernel
theorem dX4_takeRecord_39 : decode cX4_takeRecord 39 = .ok (.aload_n 0, 1) := by decide +kernel
theorem dX4_takeRecord_40 : decode cX4_takeRecord 40 = .ok (.iload_n 1, 1) := by decide +kernel
theorem dX4_takeRecord_41 : decode cX4_takeRecord 41 = .ok (.iload 6, 2) := by decide +kernel
theorem dX4_takeRecord_43 : decode cX4_takeRecord 43 = .ok (.iload 5, 2) := by decide +kernel
theorem dX4_takeRecord_45 : decode cX4_takeRecord 45 = .ok (.invokevirtual 159, 3) := by decide +kernel
theorem dX4_takeRecord_48 : decode cX4_takeRecord 48 = .ok (.iconst 0, 1) := by decide +kernel
theorem dX4_takeRecord_49 : decode cX4_takeRecord 49 = .ok (.istore 8, 2) := by decide +kernel
theorem dX4_takeRecord_51 : decode cX4_takeRecord 51 = .ok (.iload 8, 2) := by decide +kernel
theorem dX4_takeRecord_53 : decode cX4_takeRecord 53 = .ok (.aload_n 0, 1) := by decide +kernel
theorem dX4_takeRecord_54 : decode cX4_takeRecord 54 = .ok (.getfield 37, 3) := by decide +kernel
theorem dX4_takeRecord_57 : decode cX4_takeRecord 57 = .ok (.iload_n 1, 1) := by decide +kernel
theorem dX4_takeRecord_58 : decode cX4_takeRecord 58 = .ok (.invokevirtual 152, 3) := by decide +kernel
theorem dX4_takeRecord_61 : decode cX4_takeRecord 61 = .ok (.if_icmp .ge 48, 3) := by decide +kernel
theorem dX4_takeRecord_64 : decode cX4_takeRecord 64 = .ok (.aload_n 0, 1) := by decide +kernel
theorem dX4_takeRecord_65 : decode cX4_takeRecord 65 = .ok (.getfield 21, 3) := by decide +kernel
theorem dX4_takeRecord_68 : decode cX4_takeRecord 68 = .ok (.ifCond .ne 41, 3) := by decide +kernel
theorem dX4_takeRecord_71 : decode cX4_takeRecord 71 = .ok (.aload_n 0, 1) := by decide +kernel
theorem dX4_takeRecord_72 : decode cX4_takeRecord 72 = .ok (.iload 8, 2) := by decide +kernel
theorem dX4_takeRecord_74 : decode cX4_takeRecord 74 = .ok (.invokevirtual 115, 3) := by decide +kernel
theorem dX4_takeRecord_77 : decode cX4_takeRecord 77 = .ok (.aload_n 0, 1) := by decide +kernel
theorem dX4_takeRecord_78 : decode cX4_takeRecord 78 = .ok (.aload_n 0, 1) := by decide +kernel
theorem dX4_takeRecord_79 : decode cX4_takeRecord 79 = .ok (.getfield 37, 3) := by decide +kernel
theorem dX4_takeRecord_82 : decode cX4_takeRecord 82 = .ok (.iload_n 1, 1) := by decide +kernel
theorem dX4_takeRecord_83 : decode cX4_takeRecord 83 = .ok (.iload 8, 2) := by decide +kernel
theorem dX4_takeRecord_85 : decode cX4_takeRecord 85 = .ok (.invokevirtual 163, 3) := by decide +kernel
theorem dX4_takeRecord_88 : decode cX4_takeRecord 88 = .ok (.iload 8, 2) := by decide +kernel
theorem dX4_takeRecord_90 : decode cX4_takeRecord 90 = .ok (.iload 6, 2) := by decide +kernel
theorem dX4_takeRecord_92 : decode cX4_takeRecord 92 = .ok (.iload 7, 2) := by decide +kernel
theorem dX4_takeRecord_94 : decode cX4_takeRecord 94 = .ok (.iload 5, 2) := by decide +kernel
theorem dX4_takeRecord_96 : decode cX4_takeRecord 96 = .ok (.invokevirtual 166, 3) := by decide +kernel
theorem dX4_takeRecord_99 : decode cX4_takeRecord 99 = .ok (.aload_n 0, 1) := by decide +kernel
theorem dX4_takeRecord_100 : decode cX4_takeRecord 100 = .ok (.invokevirtual 122, 3) := by decide +kernel
theorem dX4_takeRecord_103 : decode cX4_takeRecord 103 = .ok (.iinc 8 1, 3) := by decide +kernel
theorem dX4_takeRecord_106 : decode cX4_takeRecord 106 = .ok (.goto (-55), 3) := by decide +kernel
theorem dX4_takeRecord_109 : decode cX4_takeRecord 109 = .ok (.iconst 0, 1) := by decide +kernel
theorem dX4_takeRecord_110 : decode cX4_takeRecord 110 = .ok (.istore 8, 2) := by decide +kernel
theorem dX4_takeRecord_112 : decode cX4_takeRecord 112 = .ok (.iload 8, 2) := by decide +kernel
theorem dX4_takeRecord_114 : decode cX4_takeRecord 114 = .ok (.aload_n 0, 1) := by decide +kernel
theorem dX4_takeRecord_115 : decode cX4_takeRecord 115 = .ok (.getfield 37, 3) := by decide +kernel
theorem dX4_takeRecord_118 : decode cX4_takeRecord 118 = .ok (.iload 6, 2) := by decide +kernel
theorem dX4_takeRecord_120 : decode cX4_takeRecord 120 = .ok (.invokevirtual 152, 3) := by decide +kernel
theorem dX4_takeRecord_123 : decode cX4_takeRecord 123 = .ok (.if_icmp .ge 38, 3) := by decide +kernel
theorem dX4_takeRecord_126 : decode cX4_takeRecord 126 = .ok (.aload_n 0, 1) := by decide +kernel
theorem dX4_takeRecord_127 : decode cX4_takeRecord 127 = .ok (.getfield 21, 3) := by decide +kernel
theorem dX4_takeRecord_130 : decode cX4_takeRecord 130 = .ok (.ifCond .ne 31, 3) := by decide +kernel
theorem dX4_takeRecord_133 : decode cX4_takeRecord 133 = .ok (.aload_n 0, 1) := by decide +kernel
theorem dX4_takeRecord_134 : decode cX4_takeRecord 134 = .ok (.iload 5, 2) := by decide +kernel
theorem dX4_takeRecord_136 : decode cX4_takeRecord 136 = .ok (.iload 8, 2) := by decide +kernel
theorem dX4_takeRecord_138 : decode cX4_takeRecord 138 = .ok (.invokevirtual 169, 3) := by decide +kernel
theorem dX4_takeRecord_141 : decode cX4_takeRecord 141 = .ok (.iconst (-1), 1) := by decide +kernel
theorem dX4_takeRecord_142 : decode cX4_takeRecord 142 = .ok (.if_icmp .ne 13, 3) := by decide +kernel
theorem dX4_takeRecord_145 : decode cX4_takeRecord 145 = .ok (.aload_n 0, 1) := by decide +kernel
theorem dX4_takeRecord_146 : decode cX4_takeRecord 146 = .ok (.iload 6, 2) := by decide +kernel
theorem dX4_takeRecord_148 : decode cX4_takeRecord 148 = .ok (.iload 8, 2) := by decide +kernel
theorem dX4_takeRecord_150 : decode cX4_takeRecord 150 = .ok (.iload 7, 2) := by decide +kernel
theorem dX4_takeRecord_152 : decode cX4_takeRecord 152 = .ok (.invokevirtual 172, 3) := by decide +kernel
theorem dX4_takeRecord_155 : decode cX4_takeRecord 155 = .ok (.iinc 8 1, 3) := by decide +kernel
theorem dX4_takeRecord_158 : decode cX4_takeRecord 158 = .ok (.goto (-46), 3) := by decide +kernel
theorem dX4_takeRecord_161 : decode cX4_takeRecord 161 = .ok (.return_, 1) := by decide +kernel
theorem dX5_branchOf_0 : decode cX5_branchOf 0 = .ok (.aload_n 0, 1) := by decide +kernel
theorem dX5_branchOf_1 : decode cX5_branchOf 1 = .ok (.iload_n 1, 1) := by decide +kernel
theorem dX5_branchOf_2 : decode cX5_branchOf 2 = .ok (.invokevirtual 82, 3) := by decide +kernel
theorem dX5_branchOf_5 : decode cX5_branchOf 5 = .ok (.bipush 8, 2) := by decide +kernel
theorem dX5_branchOf_7 : decode cX5_branchOf 7 = .ok (.if_icmp .ne 11, 3) := by decide +kernel
theorem dX5_branchOf_10 : decode cX5_branchOf 10 = .ok (.aload_n 0, 1) := by decide +kernel
theorem dX5_branchOf_11 : decode cX5_branchOf 11 = .ok (.iload_n 1, 1) := by decide +kernel
theorem dX5_branchOf_12 : decode cX5_branchOf 12 = .ok (.invokevirtual 86, 3) := by decide +kernel
theorem dX5_branchOf_15 : decode cX5_branchOf 15 = .ok (.goto 4, 3) := by decide +kernel
theorem dX5_branchOf_18 : decode cX5_branchOf 18 = .ok (.iconst (-1), 1) := by decide +kernel
theorem dX5_branchOf_19 : decode cX5_branchOf 19 = .ok (.istore_n 3, 1) := by decide +kernel
theorem dX5_branchOf_20 : decode cX5_branchOf 20 = .ok (.iconst 0, 1) := by decide +kernel
theorem dX5_branchOf_21 : decode cX5_branchOf 21 = .ok (.istore 4, 2) := by decide +kernel
theorem dX5_branchOf_23 : decode cX5_branchOf 23 = .ok (.iload 4, 2) := by decide +kernel
theorem dX5_branchOf_25 : decode cX5_branchOf 25 = .ok (.iload_n 2, 1) := by decide +kernel
theorem dX5_branchOf_26 : decode cX5_branchOf 26 = .ok (.if_icmp .ge 21, 3) := by decide +kernel
theorem dX5_branchOf_29 : decode cX5_branchOf 29 = .ok (.iload 4, 2) := by decide +kernel
theorem dX5_branchOf_31 : decode cX5_branchOf 31 = .ok (.iconst 4, 1) := by decide +kernel
theorem dX5_branchOf_32 : decode cX5_branchOf 32 = .ok (.if_icmp .ge 15, 3) := by decide +kernel
theorem dX5_branchOf_35 : decode cX5_branchOf 35 = .ok (.aload_n 0, 1) := by decide +kernel
theorem dX5_branchOf_36 : decode cX5_branchOf 36 = .ok (.iload_n 3, 1) := by decide +kernel
theorem dX5_branchOf_37 : decode cX5_branchOf 37 = .ok (.invokevirtual 89, 3) := by decide +kernel
theorem dX5_branchOf_40 : decode cX5_branchOf 40 = .ok (.istore_n 3, 1) := by decide +kernel
theorem dX5_branchOf_41 : decode cX5_branchOf 41 = .ok (.iinc 4 1, 3) := by decide +kernel
theorem dX5_branchOf_44 : decode cX5_branchOf 44 = .ok (.goto (-21), 3) := by decide +kernel
theorem dX5_branchOf_47 : decode cX5_branchOf 47 = .ok (.iload_n 3, 1) := by decide +kernel
theorem dX5_branchOf_48 : decode cX5_branchOf 48 = .ok (.ireturn, 1) := by decide +kernel
theorem dX5_branchesOf_0 : decode cX5_branchesOf 0 = .ok (.aload_n 0, 1) := by decide +kernel
theorem dX5_branchesOf_1 : decode cX5_branchesOf 1 = .ok (.iload_n 1, 1) := by decide +kernel
theorem dX5_branchesOf_2 : decode cX5_branchesOf 2 = .ok (.invokevirtual 82, 3) := by decide +kernel
theorem dX5_branchesOf_5 : decode cX5_branchesOf 5 = .ok (.bipush 8, 2) := by decide +kernel
theorem dX5_branchesOf_7 : decode cX5_branchesOf 7 = .ok (.if_icmp .eq 5, 3) := by decide +kernel
theorem dX5_branchesOf_10 : decode cX5_branchesOf 10 = .ok (.iconst 0, 1) := by decide +kernel
theorem dX5_branchesOf_11 : decode cX5_branchesOf 11 = .ok (.ireturn, 1) := by decide +kernel
theorem dX5_branchesOf_12 : decode cX5_branchesOf 12 = .ok (.iconst 0, 1) := by decide +kernel
theorem dX5_branchesOf_13 : decode cX5_branchesOf 13 = .ok (.istore_n 2, 1) := by decide +kernel
theorem dX5_branchesOf_14 : decode cX5_branchesOf 14 = .ok (.aload_n 0, 1) := by decide +kernel
theorem dX5_branchesOf_15 : decode cX5_branchesOf 15 = .ok (.iload_n 1, 1) := by decide +kernel
theorem dX5_branchesOf_16 : decode cX5_branchesOf 16 = .ok (.invokevirtual 86, 3) := by decide +kernel
theorem dX5_branchesOf_19 : decode cX5_branchesOf 19 = .ok (.istore_n 3, 1) := by decide +kernel
theorem dX5_branchesOf_20 : decode cX5_branchesOf 20 = .ok (.iload_n 3, 1) := by decide +kernel
theorem dX5_branchesOf_21 : decode cX5_branchesOf 21 = .ok (.iconst (-1), 1) := by decide +kernel
theorem dX5_branchesOf_22 : decode cX5_branchesOf 22 = .ok (.if_icmp .eq 20, 3) := by decide +kernel
theorem dX5_branchesOf_25 : decode cX5_branchesOf 25 = .ok (.iload_n 2, 1) := by decide +kernel
theorem dX5_branchesOf_26 : decode cX5_branchesOf 26 = .ok (.iconst 4, 1) := by decide +kernel
theorem dX5_branchesOf_27 : decode cX5_branchesOf 27 = .ok (.if_icmp .ge 15, 3) := by decide +kernel
theorem dX5_branchesOf_30 : decode cX5_branchesOf 30 = .ok (.iinc 2 1, 3) := by decide +kernel
theorem dX5_branchesOf_33 : decode cX5_branchesOf 33 = .ok (.aload_n 0, 1) := by decide +kernel
theorem dX5_branchesOf_34 : decode cX5_branchesOf 34 = .ok (.iload_n 3, 1) := by decide +kernel
theorem dX5_branchesOf_35 : decode cX5_branchesOf 35 = .ok (.invokevirtual 89, 3) := by decide +kernel
theorem dX5_branchesOf_38 : decode cX5_branchesOf 38 = .ok (.istore_n 3, 1) := by decide +kernel
theorem dX5_branchesOf_39 : decode cX5_branchesOf 39 = .ok (.goto (-19), 3) := by decide +kernel
theorem dX5_branchesOf_42 : decode cX5_branchesOf 42 = .ok (.iload_n 2, 1) := by decide +kernel
theorem dX5_branchesOf_43 : decode cX5_branchesOf 43 = .ok (.ireturn, 1) := by decide +kernel
def f_X4_fillIn_51 (b : Nat) (t : Nat) (x2 : Int32) (x3 : Int32) (x4 : Int32) (x5 : Int64) (y0 : Int32) (σ : ST) : Option (ST) := if σ.2.2.2 b = t then ((f_X4_addNode b t x4 x3 x2 y0 x5 σ).bind fun q2 => (f_X7_setFilled t q2.1 q2.2).bind fun q4 => some q4) else none
def f_X4_fillIn (b : Nat) (t : Nat) (p0 : Int32) (p1 : Int32) (p2 : Int32) (σ : ST) : Option (ST) := (f_X5_typeOf 4 p0 p1 σ).bind fun q1 => (f_X5_firstChoice 4 q1.1 q1.2).bind fun q3 => (f_X5_elseWorth 4 p0 p1 q3.2).bind fun q5 => (f_X5_sortOf 4 q3.1 q5.2).bind fun q7 => if q7.1 = 5 then ((f_X10_lettersIn  q5.1 q7.2).bind fun q9 => f_X4_fillIn_51 b t p1 p2 q3.1 q5.1 q9.1 q9.2) else (f_X4_fillIn_51 b t p1 p2 q3.1 q5.1 0 q7.2)

set_option maxRecDepth 100000 in
set_option maxHeartbeats 4000000 in
theorem b_X4_fillIn_51_89_50 {p : Program} {l : Launch} {e : Env} {s : State} {m : MethodId} {args : Array Value} {below : List Frame} {meth : Method} {c : Code} {dC : Nat → ClassId} {dI : Nat → Nat → Nat} {a : Nat → Nat} {k : Nat → ClassId} {A : Nat → Prop} {q : ST} (hC : CxA p s m args meth c dC dI k A cX4_fillIn RX4 none 8)   {x2 : Int32} {x3 : Int32} {x4 : Int32} {x5 : Int64} {y0 : Int32} {σ : ST} (h : f_X4_fillIn_51 89 50 x2 x3 x4 x5 y0 σ = some q) : GoA p l e ({ frames := 4, cells := 0, slots := 0, locals := 98 } : Room) s m args below meth c (MQ below (qAv dC dI a k A q) args s 0 0 A) dC dI a k A 8 51 σ [(0, .ref (a 89)), (2, .int x2), (3, .int x3), (4, .int x4), (5, .long x5)] [.int y0] := by
  have hC0 := hC
  obtain ⟨hx, hb, hr, hml, hown, hts, hlocks, hA, hN, hK⟩ := hC0
  intro H locs ls hP hD hS hl
  have hD0 : ∀ σ1 : ST, va_D A (wA a k σ1) := fun σ1 => wA_D hD
  unfold f_X4_fillIn_51 at h
  refine lv_istore (lv' := [(7, .int y0), (0, .ref (a 89)), (2, .int x2), (3, .int x3), (4, .int x4), (5, .long x5)]) hx hb dX4_fillIn_51 hl (by decide) rfl (fun ls hl => ?_)
  refine lv_aload_n hx hb dX4_fillIn_53 rfl (lv_at hl 1 rfl) ?_
  refine va_get (D := (dC, dI)) (ci := 4) (C := RX4) (T := TX4) (N := 12) hx hb hts inlX4 hown hK hP 89 gA_89 rfl 3 (by decide) (hts (.fieldLink RX4 49 "ShapeReader$Reading" "tree" "LShapeReader$Tree;") mw_11_1) (fun _ h9 => h9) rfl dX4_fillIn_54 ?_
  obtain ⟨hg1, h⟩ := ig h
  rw [show σ.2.2.2 89 = 50 from hg1]
  refine lv_aload_n hx hb dX4_fillIn_57 rfl (lv_at hl 1 rfl) ?_
  refine lv_iload hx hb dX4_fillIn_58 (lv_at hl 4 rfl) ?_
  refine lv_iload_n hx hb dX4_fillIn_60 rfl (lv_at hl 3 rfl) ?_
  refine lv_iload_n hx hb dX4_fillIn_61 rfl (lv_at hl 2 rfl) ?_
  refine lv_iload hx hb dX4_fillIn_62 (lv_at hl 0 rfl) ?_
  refine lv_lload hx hb dX4_fillIn_64 (lv_at hl 5 rfl) ?_
  obtain ⟨q2, hc, h⟩ := ib h
  have hF := va_frees hD hS hA
  refine va_calli (va_runV (As := [.int x4, .int x3, .int x2, .int y0, .long x5]) (rest := [.ref (a 50)]) ⟨hx, hb, hml, hown, hts⟩ (s_X4_addNode_89_50 hc) (cwV 5 hts (gV mw_13_6 mw_13_7 mw_13_8 mw_0_8 mw_49_8) rfl rfl rfl (by decide +kernel) ⟨(Nat.le_of_ble_eq_true rfl), (Nat.le_of_ble_eq_true rfl)⟩) (vV (ci := 4) (q0 := 89) hK hP hD hN rfl gA_89) rfl rfl hl.1 rfl (lv_room (Nat.le_of_ble_eq_true rfl)) dX4_fillIn_66 ⟨(Nat.le_of_ble_eq_true rfl), (Nat.le_of_ble_eq_true rfl)⟩) hS (fun q _ h => hF q h) hF (fun r3 u t H locs ht hvm hw hB _ _ hS => ?_)
  obtain rfl : r3 = q2.1 := hw
  replace hP : va_P (dC, dI) vwCl (wA a k q2.2) H := by rw [← ht]; exact hB.1
  replace hD := hD0 (q2.2)
  clear hB hF
  obtain ⟨q4, hc, h⟩ := ib h
  have hF := va_frees hD hS hA
  refine va_callv (va_runV (As := [.int q2.1]) (rest := []) ⟨hx, hb, hml, hown, hts⟩ (s_X7_setFilled_50 hc) (cwV 1 hts (gV mw_13_25 mw_13_26 mw_13_27 mw_0_11 mw_51_28) rfl rfl rfl (by decide +kernel) ⟨(Nat.le_of_ble_eq_true rfl), (Nat.le_of_ble_eq_true rfl)⟩) (vV (ci := 7) (q0 := 50) hK hP hD hN rfl gA_50) rfl rfl hl.1 rfl (lv_room (Nat.le_of_ble_eq_true rfl)) dX4_fillIn_69 ⟨(Nat.le_of_ble_eq_true rfl), (Nat.le_of_ble_eq_true rfl)⟩) hS (fun q _ h => hF q h) hF (fun u t H locs ht hvm hw hB _ _ hS => ?_)
  replace hP : va_P (dC, dI) vwCl (wA a k q4) H := by rw [← ht]; exact hB.1
  replace hD := hD0 (q4)
  clear hB hF
  obtain rfl := Option.some.inj h
  exact W.vret hx hb hr (fun t ht hW => ⟨⟨(), rfl, trivial, ⟨by rw [ht]; exact hP, va_K.moved hW.alike hK, hD⟩⟩, hS.F ht⟩) hS.2.2 dX4_fillIn_72

set_option maxRecDepth 100000 in
set_option maxHeartbeats 4000000 in
theorem b_X4_fillIn_e_89_50 {p : Program} {l : Launch} {e : Env} {s : State} {m : MethodId} {args : Array Value} {below : List Frame} {meth : Method} {c : Code} {dC : Nat → ClassId} {dI : Nat → Nat → Nat} {a : Nat → Nat} {k : Nat → ClassId} {A : Nat → Prop} {q : ST} (hC : CxA p s m args meth c dC dI k A cX4_fillIn RX4 none 8)   {p0 : Int32} {p1 : Int32} {p2 : Int32} {σ : ST} (h : f_X4_fillIn 89 50 p0 p1 p2 σ = some q) : GoA p l e ({ frames := 4, cells := 0, slots := 0, locals := 98 } : Room) s m args below meth c (MQ below (qAv dC dI a k A q) args s 0 0 A) dC dI a k A 8 0 σ (lv_args 0 [.ref (a 89), .int p0, .int p1, .int p2]) [] := by
  have hC0 := hC
  obtain ⟨hx, hb, hr, hml, hown, hts, hlocks, hA, hN, hK⟩ := hC0
  intro H locs ls hP hD hS hl
  have hD0 : ∀ σ1 : ST, va_D A (wA a k σ1) := fun σ1 => wA_D hD
  replace hl : lv_has ls 8 [(0, .ref (a 89)), (1, .int p0), (2, .int p1), (3, .int p2)] := hl
  unfold f_X4_fillIn at h
  refine lv_aload_n hx hb dX4_fillIn_0 rfl (lv_at hl 0 rfl) ?_
  refine va_get (D := (dC, dI)) (ci := 4) (C := RX4) (T := TX4) (N := 12) hx hb hts inlX4 hown hK hP 89 gA_89 rfl 0 (by decide) (hts (.fieldLink RX4 37 "ShapeReader$Reading" "shapes" "LShapeReader$Shapes;") mw_10_28) (fun _ h9 => h9) rfl dX4_fillIn_1 ?_
  refine lv_aload_n hx hb dX4_fillIn_4 rfl (lv_at hl 0 rfl) ?_
  refine va_get (D := (dC, dI)) (ci := 4) (C := RX4) (T := TX4) (N := 12) hx hb hts inlX4 hown hK hP 89 gA_89 rfl 0 (by decide) (hts (.fieldLink RX4 37 "ShapeReader$Reading" "shapes" "LShapeReader$Shapes;") mw_10_28) (fun _ h9 => h9) rfl dX4_fillIn_5 ?_
  refine lv_iload_n hx hb dX4_fillIn_8 rfl (lv_at hl 1 rfl) ?_
  refine lv_iload_n hx hb dX4_fillIn_9 rfl (lv_at hl 2 rfl) ?_
  obtain ⟨q1, hc, h⟩ := ib h
  have hF := va_frees hD hS hA
  refine va_calli (va_runV (As := [.int p0, .int p1]) (rest := [.ref (a 4)]) ⟨hx, hb, hml, hown, hts⟩ (s_X5_typeOf_4 hc) (cwV 2 hts (gV mw_13_12 mw_2_7 mw_2_8 mw_0_9 mw_50_3) rfl rfl rfl (by decide +kernel) ⟨(Nat.le_of_ble_eq_true rfl), (Nat.le_of_ble_eq_true rfl)⟩) (vV (ci := 5) (q0 := 4) hK hP hD hN rfl gA_4) rfl rfl hl.1 rfl (lv_room (Nat.le_of_ble_eq_true rfl)) dX4_fillIn_10 ⟨(Nat.le_of_ble_eq_true rfl), (Nat.le_of_ble_eq_true rfl)⟩) hS (fun q _ h => hF q h) hF (fun r2 u t H locs ht hvm hw hB _ _ hS => ?_)
  obtain rfl : r2 = q1.1 := hw
  replace hP : va_P (dC, dI) vwCl (wA a k q1.2) H := by rw [← ht]; exact hB.1
  replace hD := hD0 (q1.2)
  clear hB hF
  obtain ⟨q3, hc, h⟩ := ib h
  have hF := va_frees hD hS hA
  refine va_calli (va_runV (As := [.int q1.1]) (rest := []) ⟨hx, hb, hml, hown, hts⟩ (s_X5_firstChoice_4 hc) (cwV 1 hts (gV mw_13_23 mw_6_15 mw_6_16 mw_0_9 mw_50_11) rfl rfl rfl (by decide +kernel) ⟨(Nat.le_of_ble_eq_true rfl), (Nat.le_of_ble_eq_true rfl)⟩) (vV (ci := 5) (q0 := 4) hK hP hD hN rfl gA_4) rfl rfl hl.1 rfl (lv_room (Nat.le_of_ble_eq_true rfl)) dX4_fillIn_13 ⟨(Nat.le_of_ble_eq_true rfl), (Nat.le_of_ble_eq_true rfl)⟩) hS (fun q _ h => hF q h) hF (fun r4 u t H locs ht hvm hw hB _ _ hS => ?_)
  obtain rfl : r4 = q3.1 := hw
  replace hP : va_P (dC, dI) vwCl (wA a k q3.2) H := by rw [← ht]; exact hB.1
  replace hD := hD0 (q3.2)
  clear hB hF
  refine lv_istore (lv' := [(4, .int q3.1), (0, .ref (a 89)), (1, .int p0), (2, .int p1), (3, .int p2)]) hx hb dX4_fillIn_16 hl (by decide) rfl (fun ls hl => ?_)
  refine lv_aload_n hx hb dX4_fillIn_18 rfl (lv_at hl 1 rfl) ?_
  refine va_get (D := (dC, dI)) (ci := 4) (C := RX4) (T := TX4) (N := 12) hx hb hts inlX4 hown hK hP 89 gA_89 rfl 0 (by decide) (hts (.fieldLink RX4 37 "ShapeReader$Reading" "shapes" "LShapeReader$Shapes;") mw_10_28) (fun _ h9 => h9) rfl dX4_fillIn_19 ?_
  refine lv_iload_n hx hb dX4_fillIn_22 rfl (lv_at hl 2 rfl) ?_
  refine lv_iload_n hx hb dX4_fillIn_23 rfl (lv_at hl 3 rfl) ?_
  obtain ⟨q5, hc, h⟩ := ib h
  have hF := va_frees hD hS hA
  refine va_calll (va_runV (As := [.int p0, .int p1]) (rest := []) ⟨hx, hb, hml, hown, hts⟩ (s_X5_elseWorth_4 hc) (cwV 2 hts (gV mw_13_24 mw_6_18 mw_6_19 mw_0_9 mw_50_5) rfl rfl rfl (by decide +kernel) ⟨(Nat.le_of_ble_eq_true rfl), (Nat.le_of_ble_eq_true rfl)⟩) (vV (ci := 5) (q0 := 4) hK hP hD hN rfl gA_4) rfl rfl hl.1 rfl (lv_room (Nat.le_of_ble_eq_true rfl)) dX4_fillIn_24 ⟨(Nat.le_of_ble_eq_true rfl), (Nat.le_of_ble_eq_true rfl)⟩) hS (fun q _ h => hF q h) hF (fun r6 u t H locs ht hvm hw hB _ _ hS => ?_)
  obtain rfl : r6 = q5.1 := hw
  replace hP : va_P (dC, dI) vwCl (wA a k q5.2) H := by rw [← ht]; exact hB.1
  replace hD := hD0 (q5.2)
  clear hB hF
  refine lv_lstore (lv' := [(5, .long q5.1), (4, .int q3.1), (0, .ref (a 89)), (1, .int p0), (2, .int p1), (3, .int p2)]) hx hb dX4_fillIn_27 hl (by decide) rfl (fun ls hl => ?_)
  refine lv_aload_n hx hb dX4_fillIn_29 rfl (lv_at hl 2 rfl) ?_
  refine va_get (D := (dC, dI)) (ci := 4) (C := RX4) (T := TX4) (N := 12) hx hb hts inlX4 hown hK hP 89 gA_89 rfl 0 (by decide) (hts (.fieldLink RX4 37 "ShapeReader$Reading" "shapes" "LShapeReader$Shapes;") mw_10_28) (fun _ h9 => h9) rfl dX4_fillIn_30 ?_
  refine lv_iload hx hb dX4_fillIn_33 (lv_at hl 1 rfl) ?_
  obtain ⟨q7, hc, h⟩ := ib h
  have hF := va_frees hD hS hA
  refine va_calli (va_runV (As := [.int q3.1]) (rest := []) ⟨hx, hb, hml, hown, hts⟩ (s_X5_sortOf_4 hc) (cwV 1 hts (gV mw_11_25 mw_2_13 mw_2_14 mw_0_9 mw_50_6) rfl rfl rfl (by decide +kernel) ⟨(Nat.le_of_ble_eq_true rfl), (Nat.le_of_ble_eq_true rfl)⟩) (vV (ci := 5) (q0 := 4) hK hP hD hN rfl gA_4) rfl rfl hl.1 rfl (lv_room (Nat.le_of_ble_eq_true rfl)) dX4_fillIn_35 ⟨(Nat.le_of_ble_eq_true rfl), (Nat.le_of_ble_eq_true rfl)⟩) hS (fun q _ h => hF q h) hF (fun r8 u t H locs ht hvm hw hB _ _ hS => ?_)
  obtain rfl : r8 = q7.1 := hw
  replace hP : va_P (dC, dI) vwCl (wA a k q7.2) H := by rw [← ht]; exact hB.1
  replace hD := hD0 (q7.2)
  clear hB hF
  refine lv_iconst (v := 5) hx hb dX4_fillIn_38 (by decide) ?_
  refine lv_icmp_ne (tgt := 50) hx hb dX4_fillIn_39 (by decide) (fun hc => ?_) (fun hc => ?_)
  · replace h := iq hc h
    refine lv_iconst (v := 0) hx hb dX4_fillIn_50 (by decide) ?_
    exact b_X4_fillIn_51_89_50 hC h _ _ _ hP hD hS (lv_sub hl [2, 4, 5, 1, 0] rfl)
  · replace h := ip hc h
    refine lv_lload hx hb dX4_fillIn_42 (lv_at hl 0 rfl) ?_
    obtain ⟨q9, hc, h⟩ := ib h
    have hF := va_frees hD hS hA
    refine va_calli (va_runSN (As := [.long q5.1]) (rest := []) ⟨hx, hb, hml, hown, hts⟩ (s_X10_lettersIn hc) ⟨va_cnB 1 hts (gI mw_53_21) rfl rfl rfl (hN _ (List.mem_of_getElem? (i := 7) rfl)) (hts (.initialized RX10) mw_0_14) (by decide +kernel) ⟨(Nat.le_of_ble_eq_true rfl), (Nat.le_of_ble_eq_true rfl)⟩, (hts (.static yX10_lettersIn) mw_6_26), trivial⟩ (vS hK hP hD hN) rfl rfl hl.1 rfl (lv_room (Nat.le_of_ble_eq_true rfl)) dX4_fillIn_44 ⟨(Nat.le_of_ble_eq_true rfl), (Nat.le_of_ble_eq_true rfl)⟩) hS (fun q _ h => hF q h) hF (fun r10 u t H locs ht hvm hw hB _ _ hS => ?_)
    obtain rfl : r10 = q9.1 := hw
    replace hP : va_P (dC, dI) vwCl (wA a k q9.2) H := by rw [← ht]; exact hB.1
    replace hD := hD0 (q9.2)
    clear hB hF
    refine lv_goto (tgt := 51) hx hb dX4_fillIn_47 (by decide) ?_
    exact b_X4_fillIn_51_89_50 hC h _ _ _ hP hD hS (lv_sub hl [2, 4, 5, 1, 0] rfl)

theorem s_X4_fillIn_89_50 {l : Launch} {dC : Nat → ClassId} {dI : Nat → Nat → Nat} {a : Nat → Nat} {k : Nat → ClassId} {sz : Nat} {p0 : Int32} {p1 : Int32} {p2 : Int32} {σ : ST} {q : ST} (h : f_X4_fillIn 89 50 p0 p1 p2 σ = some q) : Met l yX4_fillIn (.code yX4_fillIn cX4_fillIn 8 none :: pw) ({ frames := 4, cells := 0, slots := 0, locals := 98 } : Room) (va_Pc [.ref (a 89), .int p0, .int p1, .int p2] (vPre dC dI (wA a k σ) (tA k) sz)) (qAv dC dI a k (va_A (wA a k σ) sz) q) 0 0 (va_A (wA a k σ) sz) := metA (fun A => qAv dC dI a k A q) (plainFor_of_name (by decide)) (Nat.le_of_ble_eq_true rfl) (fun _ _ _ _ _ _ _ _ hC => b_X4_fillIn_e_89_50 hC h)

set_option maxRecDepth 100000 in
set_option maxHeartbeats 4000000 in
theorem b_X4_fillIn_51_92_62 {p : Program} {l : Launch} {e : Env} {s : State} {m : MethodId} {args : Array Value} {below : List Frame} {meth : Method} {c : Code} {dC : Nat → ClassId} {dI : Nat → Nat → Nat} {a : Nat → Nat} {k : Nat → ClassId} {A : Nat → Prop} {q : ST} (hC : CxA p s m args meth c dC dI k A cX4_fillIn RX4 none 8)   {x2 : Int32} {x3 : Int32} {x4 : Int32} {x5 : Int64} {y0 : Int32} {σ : ST} (h : f_X4_fillIn_51 92 62 x2 x3 x4 x5 y0 σ = some q) : GoA p l e ({ frames := 4, cells := 0, slots := 0, locals := 98 } : Room) s m args below meth c (MQ below (qAv dC dI a k A q) args s 0 0 A) dC dI a k A 8 51 σ [(0, .ref (a 92)), (2, .int x2), (3, .int x3), (4, .int x4), (5, .long x5)] [.int y0] := by
  have hC0 := hC
  obtain ⟨hx, hb, hr, hml, hown, hts, hlocks, hA, hN, hK⟩ := hC0
  intro H locs ls hP hD hS hl
  have hD0 : ∀ σ1 : ST, va_D A (wA a k σ1) := fun σ1 => wA_D hD
  unfold f_X4_fillIn_51 at h
  refine lv_istore (lv' := [(7, .int y0), (0, .ref (a 92)), (2, .int x2), (3, .int x3), (4, .int x4), (5, .long x5)]) hx hb dX4_fillIn_51 hl (by decide) rfl (fun ls hl => ?_)
  refine lv_aload_n hx hb dX4_fillIn_53 rfl (lv_at hl 1 rfl) ?_
  refine va_get (D := (dC, dI)) (ci := 4) (C := RX4) (T := TX4) (N := 12) hx hb hts inlX4 hown hK hP 92 gA_92 rfl 3 (by decide) (hts (.fieldLink RX4 49 "ShapeReader$Reading" "tree" "LShapeReader$Tree;") mw_11_1) (fun _ h9 => h9) rfl dX4_fillIn_54 ?_
  obtain ⟨hg1, h⟩ := ig h
  rw [show σ.2.2.2 92 = 62 from hg1]
  refine lv_aload_n hx hb dX4_fillIn_57 rfl (lv_at hl 1 rfl) ?_
  refine lv_iload hx hb dX4_fillIn_58 (lv_at hl 4 rfl) ?_
  refine lv_iload_n hx hb dX4_fillIn_60 rfl (lv_at hl 3 rfl) ?_
  refine lv_iload_n hx hb dX4_fillIn_61 rfl (lv_at hl 2 rfl) ?_
  refine lv_iload hx hb dX4_fillIn_62 (lv_at hl 0 rfl) ?_
  refine lv_lload hx hb dX4_fillIn_64 (lv_at hl 5 rfl) ?_
  obtain ⟨q2, hc, h⟩ := ib h
  have hF := va_frees hD hS hA
  refine va_calli (va_runV (As := [.int x4, .int x3, .int x2, .int y0, .long x5]) (rest := [.ref (a 62)]) ⟨hx, hb, hml, hown, hts⟩ (s_X4_addNode_92_62 hc) (cwV 5 hts (gV mw_13_6 mw_13_7 mw_13_8 mw_0_8 mw_49_8) rfl rfl rfl (by decide +kernel) ⟨(Nat.le_of_ble_eq_true rfl), (Nat.le_of_ble_eq_true rfl)⟩) (vV (ci := 4) (q0 := 92) hK hP hD hN rfl gA_92) rfl rfl hl.1 rfl (lv_room (Nat.le_of_ble_eq_true rfl)) dX4_fillIn_66 ⟨(Nat.le_of_ble_eq_true rfl), (Nat.le_of_ble_eq_true rfl)⟩) hS (fun q _ h => hF q h) hF (fun r3 u t H locs ht hvm hw hB _ _ hS => ?_)
  obtain rfl : r3 = q2.1 := hw
  replace hP : va_P (dC, dI) vwCl (wA a k q2.2) H := by rw [← ht]; exact hB.1
  replace hD := hD0 (q2.2)
  clear hB hF
  obtain ⟨q4, hc, h⟩ := ib h
  have hF := va_frees hD hS hA
  refine va_callv (va_runV (As := [.int q2.1]) (rest := []) ⟨hx, hb, hml, hown, hts⟩ (s_X7_setFilled_62 hc) (cwV 1 hts (gV mw_13_25 mw_13_26 mw_13_27 mw_0_11 mw_51_28) rfl rfl rfl (by decide +kernel) ⟨(Nat.le_of_ble_eq_true rfl), (Nat.le_of_ble_eq_true rfl)⟩) (vV (ci := 7) (q0 := 62) hK hP hD hN rfl gA_62) rfl rfl hl.1 rfl (lv_room (Nat.le_of_ble_eq_true rfl)) dX4_fillIn_69 ⟨(Nat.le_of_ble_eq_true rfl), (Nat.le_of_ble_eq_true rfl)⟩) hS (fun q _ h => hF q h) hF (fun u t H locs ht hvm hw hB _ _ hS => ?_)
  replace hP : va_P (dC, dI) vwCl (wA a k q4) H := by rw [← ht]; exact hB.1
  replace hD := hD0 (q4)
  clear hB hF
  obtain rfl := Option.some.inj h
  exact W.vret hx hb hr (fun t ht hW => ⟨⟨(), rfl, trivial, ⟨by rw [ht]; exact hP, va_K.moved hW.alike hK, hD⟩⟩, hS.F ht⟩) hS.2.2 dX4_fillIn_72

set_option maxRecDepth 100000 in
set_option maxHeartbeats 4000000 in
theorem b_X4_fillIn_e_92_62 {p : Program} {l : Launch} {e : Env} {s : State} {m : MethodId} {args : Array Value} {below : List Frame} {meth : Method} {c : Code} {dC : Nat → ClassId} {dI : Nat → Nat → Nat} {a : Nat → Nat} {k : Nat → ClassId} {A : Nat → Prop} {q : ST} (hC : CxA p s m args meth c dC dI k A cX4_fillIn RX4 none 8)   {p0 : Int32} {p1 : Int32} {p2 : Int32} {σ : ST} (h : f_X4_fillIn 92 62 p0 p1 p2 σ = some q) : GoA p l e ({ frames := 4, cells := 0, slots := 0, locals := 98 } : Room) s m args below meth c (MQ below (qAv dC dI a k A q) args s 0 0 A) dC dI a k A 8 0 σ (lv_args 0 [.ref (a 92), .int p0, .int p1, .int p2]) [] := by
  have hC0 := hC
  obtain ⟨hx, hb, hr, hml, hown, hts, hlocks, hA, hN, hK⟩ := hC0
  intro H locs ls hP hD hS hl
  have hD0 : ∀ σ1 : ST, va_D A (wA a k σ1) := fun σ1 => wA_D hD
  replace hl : lv_has ls 8 [(0, .ref (a 92)), (1, .int p0), (2, .int p1), (3, .int p2)] := hl
  unfold f_X4_fillIn at h
  refine lv_aload_n hx hb dX4_fillIn_0 rfl (lv_at hl 0 rfl) ?_
  refine va_get (D := (dC, dI)) (ci := 4) (C := RX4) (T := TX4) (N := 12) hx hb hts inlX4 hown hK hP 92 gA_92 rfl 0 (by decide) (hts (.fieldLink RX4 37 "ShapeReader$Reading" "shapes" "LShapeReader$Shapes;") mw_10_28) (fun _ h9 => h9) rfl dX4_fillIn_1 ?_
  refine lv_aload_n hx hb dX4_fillIn_4 rfl (lv_at hl 0 rfl) ?_
  refine va_get (D := (dC, dI)) (ci := 4) (C := RX4) (T := TX4) (N := 12) hx hb hts inlX4 hown hK hP 92 gA_92 rfl 0 (by decide) (hts (.fieldLink RX4 37 "ShapeReader$Reading" "shapes" "LShapeReader$Shapes;") mw_10_28) (fun _ h9 => h9) rfl dX4_fillIn_5 ?_
  refine lv_iload_n hx hb dX4_fillIn_8 rfl (lv_at hl 1 rfl) ?_
  refine lv_iload_n hx hb dX4_fillIn_9 rfl (lv_at hl 2 rfl) ?_
  obtain ⟨q1, hc, h⟩ := ib h
  have hF := va_frees hD hS hA
  refine va_calli (va_runV (As := [.int p0, .int p1]) (rest := [.ref (a 4)]) ⟨hx, hb, hml, hown, hts⟩ (s_X5_typeOf_4 hc) (cwV 2 hts (gV mw_13_12 mw_2_7 mw_2_8 mw_0_9 mw_50_3) rfl rfl rfl (by decide +kernel) ⟨(Nat.le_of_ble_eq_true rfl), (Nat.le_of_ble_eq_true rfl)⟩) (vV (ci := 5) (q0 := 4) hK hP hD hN rfl gA_4) rfl rfl hl.1 rfl (lv_room (Nat.le_of_ble_eq_true rfl)) dX4_fillIn_10 ⟨(Nat.le_of_ble_eq_true rfl), (Nat.le_of_ble_eq_true rfl)⟩) hS (fun q _ h => hF q h) hF (fun r2 u t H locs ht hvm hw hB _ _ hS => ?_)
  obtain rfl : r2 = q1.1 := hw
  replace hP : va_P (dC, dI) vwCl (wA a k q1.2) H := by rw [← ht]; exact hB.1
  replace hD := hD0 (q1.2)
  clear hB hF
  obtain ⟨q3, hc, h⟩ := ib h
  have hF := va_frees hD hS hA
  refine va_calli (va_runV (As := [.int q1.1]) (rest := []) ⟨hx, hb, hml, hown, hts⟩ (s_X5_firstChoice_4 hc) (cwV 1 hts (gV mw_13_23 mw_6_15 mw_6_16 mw_0_9 mw_50_11) rfl rfl rfl (by decide +kernel) ⟨(Nat.le_of_ble_eq_true rfl), (Nat.le_of_ble_eq_true rfl)⟩) (vV (ci := 5) (q0 := 4) hK hP hD hN rfl gA_4) rfl rfl hl.1 rfl (lv_room (Nat.le_of_ble_eq_true rfl)) dX4_fillIn_13 ⟨(Nat.le_of_ble_eq_true rfl), (Nat.le_of_ble_eq_true rfl)⟩) hS (fun q _ h => hF q h) hF (fun r4 u t H locs ht hvm hw hB _ _ hS => ?_)
  obtain rfl : r4 = q3.1 := hw
  replace hP : va_P (dC, dI) vwCl (wA a k q3.2) H := by rw [← ht]; exact hB.1
  replace hD := hD0 (q3.2)
  clear hB hF
  refine lv_istore (lv' := [(4, .int q3.1), (0, .ref (a 92)), (1, .int p0), (2, .int p1), (3, .int p2)]) hx hb dX4_fillIn_16 hl (by decide) rfl (fun ls hl => ?_)
  refine lv_aload_n hx hb dX4_fillIn_18 rfl (lv_at hl 1 rfl) ?_
  refine va_get (D := (dC, dI)) (ci := 4) (C := RX4) (T := TX4) (N := 12) hx hb hts inlX4 hown hK hP 92 gA_92 rfl 0 (by decide) (hts (.fieldLink RX4 37 "ShapeReader$Reading" "shapes" "LShapeReader$Shapes;") mw_10_28) (fun _ h9 => h9) rfl dX4_fillIn_19 ?_
  refine lv_iload_n hx hb dX4_fillIn_22 rfl (lv_at hl 2 rfl) ?_
  refine lv_iload_n hx hb dX4_fillIn_23 rfl (lv_at hl 3 rfl) ?_
  obtain ⟨q5, hc, h⟩ := ib h
  have hF := va_frees hD hS hA
  refine va_calll (va_runV (As := [.int p0, .int p1]) (rest := []) ⟨hx, hb, hml, hown, hts⟩ (s_X5_elseWorth_4 hc) (cwV 2 hts (gV mw_13_24 mw_6_18 mw_6_19 mw_0_9 mw_50_5) rfl rfl rfl (by decide +kernel) ⟨(Nat.le_of_ble_eq_true rfl), (Nat.le_of_ble_eq_true rfl)⟩) (vV (ci := 5) (q0 := 4) hK hP hD hN rfl gA_4) rfl rfl hl.1 rfl (lv_room (Nat.le_of_ble_eq_true rfl)) dX4_fillIn_24 ⟨(Nat.le_of_ble_eq_true rfl), (Nat.le_of_ble_eq_true rfl)⟩) hS (fun q _ h => hF q h) hF (fun r6 u t H locs ht hvm hw hB _ _ hS => ?_)
  obtain rfl : r6 = q5.1 := hw
  replace hP : va_P (dC, dI) vwCl (wA a k q5.2) H := by rw [← ht]; exact hB.1
  replace hD := hD0 (q5.2)
  clear hB hF
  refine lv_lstore (lv' := [(5, .long q5.1), (4, .int q3.1), (0, .ref (a 92)), (1, .int p0), (2, .int p1), (3, .int p2)]) hx hb dX4_fillIn_27 hl (by decide) rfl (fun ls hl => ?_)
  refine lv_aload_n hx hb dX4_fillIn_29 rfl (lv_at hl 2 rfl) ?_
  refine va_get (D := (dC, dI)) (ci := 4) (C := RX4) (T := TX4) (N := 12) hx hb hts inlX4 hown hK hP 92 gA_92 rfl 0 (by decide) (hts (.fieldLink RX4 37 "ShapeReader$Reading" "shapes" "LShapeReader$Shapes;") mw_10_28) (fun _ h9 => h9) rfl dX4_fillIn_30 ?_
  refine lv_iload hx hb dX4_fillIn_33 (lv_at hl 1 rfl) ?_
  obtain ⟨q7, hc, h⟩ := ib h
  have hF := va_frees hD hS hA
  refine va_calli (va_runV (As := [.int q3.1]) (rest := []) ⟨hx, hb, hml, hown, hts⟩ (s_X5_sortOf_4 hc) (cwV 1 hts (gV mw_11_25 mw_2_13 mw_2_14 mw_0_9 mw_50_6) rfl rfl rfl (by decide +kernel) ⟨(Nat.le_of_ble_eq_true rfl), (Nat.le_of_ble_eq_true rfl)⟩) (vV (ci := 5) (q0 := 4) hK hP hD hN rfl gA_4) rfl rfl hl.1 rfl (lv_room (Nat.le_of_ble_eq_true rfl)) dX4_fillIn_35 ⟨(Nat.le_of_ble_eq_true rfl), (Nat.le_of_ble_eq_true rfl)⟩) hS (fun q _ h => hF q h) hF (fun r8 u t H locs ht hvm hw hB _ _ hS => ?_)
  obtain rfl : r8 = q7.1 := hw
  replace hP : va_P (dC, dI) vwCl (wA a k q7.2) H := by rw [← ht]; exact hB.1
  replace hD := hD0 (q7.2)
  clear hB hF
  refine lv_iconst (v := 5) hx hb dX4_fillIn_38 (by decide) ?_
  refine lv_icmp_ne (tgt := 50) hx hb dX4_fillIn_39 (by decide) (fun hc => ?_) (fun hc => ?_)
  · replace h := iq hc h
    refine lv_iconst (v := 0) hx hb dX4_fillIn_50 (by decide) ?_
    exact b_X4_fillIn_51_92_62 hC h _ _ _ hP hD hS (lv_sub hl [2, 4, 5, 1, 0] rfl)
  · replace h := ip hc h
    refine lv_lload hx hb dX4_fillIn_42 (lv_at hl 0 rfl) ?_
    obtain ⟨q9, hc, h⟩ := ib h
    have hF := va_frees hD hS hA
    refine va_calli (va_runSN (As := [.long q5.1]) (rest := []) ⟨hx, hb, hml, hown, hts⟩ (s_X10_lettersIn hc) ⟨va_cnB 1 hts (gI mw_53_21) rfl rfl rfl (hN _ (List.mem_of_getElem? (i := 7) rfl)) (hts (.initialized RX10) mw_0_14) (by decide +kernel) ⟨(Nat.le_of_ble_eq_true rfl), (Nat.le_of_ble_eq_true rfl)⟩, (hts (.static yX10_lettersIn) mw_6_26), trivial⟩ (vS hK hP hD hN) rfl rfl hl.1 rfl (lv_room (Nat.le_of_ble_eq_true rfl)) dX4_fillIn_44 ⟨(Nat.le_of_ble_eq_true rfl), (Nat.le_of_ble_eq_true rfl)⟩) hS (fun q _ h => hF q h) hF (fun r10 u t H locs ht hvm hw hB _ _ hS => ?_)
    obtain rfl : r10 = q9.1 := hw
    replace hP : va_P (dC, dI) vwCl (wA a k q9.2) H := by rw [← ht]; exact hB.1
    replace hD := hD0 (q9.2)
    clear hB hF
    refine lv_goto (tgt := 51) hx hb dX4_fillIn_47 (by decide) ?_
    exact b_X4_fillIn_51_92_62 hC h _ _ _ hP hD hS (lv_sub hl [2, 4, 5, 1, 0] rfl)

theorem s_X4_fillIn_92_62 {l : Launch} {dC : Nat → ClassId} {dI : Nat → Nat → Nat} {a : Nat → Nat} {k : Nat → ClassId} {sz : Nat} {p0 : Int32} {p1 : Int32} {p2 : Int32} {σ : ST} {q : ST} (h : f_X4_fillIn 92 62 p0 p1 p2 σ = some q) : Met l yX4_fillIn (.code yX4_fillIn cX4_fillIn 8 none :: pw) ({ frames := 4, cells := 0, slots := 0, locals := 98 } : Room) (va_Pc [.ref (a 92), .int p0, .int p1, .int p2] (vPre dC dI (wA a k σ) (tA k) sz)) (qAv dC dI a k (va_A (wA a k σ) sz) q) 0 0 (va_A (wA a k σ) sz) := metA (fun A => qAv dC dI a k A q) (plainFor_of_name (by decide)) (Nat.le_of_ble_eq_true rfl) (fun _ _ _ _ _ _ _ _ hC => b_X4_fillIn_e_92_62 hC h)

set_option maxRecDepth 100000 in
set_option maxHeartbeats 4000000 in
theorem b_X4_fillIn_51_92_74 {p : Program} {l : Launch} {e : Env} {s : State} {m : MethodId} {args : Array Value} {below : List Frame} {meth : Method} {c : Code} {dC : Nat → ClassId} {dI : Nat → Nat → Nat} {a : Nat → Nat} {k : Nat → ClassId} {A : Nat → Prop} {q : ST} (hC : CxA p s m args meth c dC dI k A cX4_fillIn RX4 none 8)   {x2 : Int32} {x3 : Int32} {x4 : Int32} {x5 : Int64} {y0 : Int32} {σ : ST} (h : f_X4_fillIn_51 92 74 x2 x3 x4 x5 y0 σ = some q) : GoA p l e ({ frames := 4, cells := 0, slots := 0, locals := 98 } : Room) s m args below meth c (MQ below (qAv dC dI a k A q) args s 0 0 A) dC dI a k A 8 51 σ [(0, .ref (a 92)), (2, .int x2), (3, .int x3), (4, .int x4), (5, .long x5)] [.int y0] := by
  have hC0 := hC
  obtain ⟨hx, hb, hr, hml, hown, hts, hlocks, hA, hN, hK⟩ := hC0
  intro H locs ls hP hD hS hl
  have hD0 : ∀ σ1 : ST, va_D A (wA a k σ1) := fun σ1 => wA_D hD
  unfold f_X4_fillIn_51 at h
  refine lv_istore (lv' := [(7, .int y0), (0, .ref (a 92)), (2, .int x2), (3, .int x3), (4, .int x4), (5, .long x5)]) hx hb dX4_fillIn_51 hl (by decide) rfl (fun ls hl => ?_)
  refine lv_aload_n hx hb dX4_fillIn_53 rfl (lv_at hl 1 rfl) ?_
  refine va_get (D := (dC, dI)) (ci := 4) (C := RX4) (T := TX4) (N := 12) hx hb hts inlX4 hown hK hP 92 gA_92 rfl 3 (by decide) (hts (.fieldLink RX4 49 "ShapeReader$Reading" "tree" "LShapeReader$Tree;") mw_11_1) (fun _ h9 => h9) rfl dX4_fillIn_54 ?_
  obtain ⟨hg1, h⟩ := ig h
  rw [show σ.2.2.2 92 = 74 from hg1]
  refine lv_aload_n hx hb dX4_fillIn_57 rfl (lv_at hl 1 rfl) ?_
  refine lv_iload hx hb dX4_fillIn_58 (lv_at hl 4 rfl) ?_
  refine lv_iload_n hx hb dX4_fillIn_60 rfl (lv_at hl 3 rfl) ?_
  refine lv_iload_n hx hb dX4_fillIn_61 rfl (lv_at hl 2 rfl) ?_
  refine lv_iload hx hb dX4_fillIn_62 (lv_at hl 0 rfl) ?_
  refine lv_lload hx hb dX4_fillIn_64 (lv_at hl 5 rfl) ?_
  obtain ⟨q2, hc, h⟩ := ib h
  have hF := va_frees hD hS hA
  refine va_calli (va_runV (As := [.int x4, .int x3, .int x2, .int y0, .long x5]) (rest := [.ref (a 74)]) ⟨hx, hb, hml, hown, hts⟩ (s_X4_addNode_92_74 hc) (cwV 5 hts (gV mw_13_6 mw_13_7 mw_13_8 mw_0_8 mw_49_8) rfl rfl rfl (by decide +kernel) ⟨(Nat.le_of_ble_eq_true rfl), (Nat.le_of_ble_eq_true rfl)⟩) (vV (ci := 4) (q0 := 92) hK hP hD hN rfl gA_92) rfl rfl hl.1 rfl (lv_room (Nat.le_of_ble_eq_true rfl)) dX4_fillIn_66 ⟨(Nat.le_of_ble_eq_true rfl), (Nat.le_of_ble_eq_true rfl)⟩) hS (fun q _ h => hF q h) hF (fun r3 u t H locs ht hvm hw hB _ _ hS => ?_)
  obtain rfl : r3 = q2.1 := hw
  replace hP : va_P (dC, dI) vwCl (wA a k q2.2) H := by rw [← ht]; exact hB.1
  replace hD := hD0 (q2.2)
  clear hB hF
  obtain ⟨q4, hc, h⟩ := ib h
  have hF := va_frees hD hS hA
  refine va_callv (va_runV (As := [.int q2.1]) (rest := []) ⟨hx, hb, hml, hown, hts⟩ (s_X7_setFilled_74 hc) (cwV 1 hts (gV mw_13_25 mw_13_26 mw_13_27 mw_0_11 mw_51_28) rfl rfl rfl (by decide +kernel) ⟨(Nat.le_of_ble_eq_true rfl), (Nat.le_of_ble_eq_true rfl)⟩) (vV (ci := 7) (q0 := 74) hK hP hD hN rfl gA_74) rfl rfl hl.1 rfl (lv_room (Nat.le_of_ble_eq_true rfl)) dX4_fillIn_69 ⟨(Nat.le_of_ble_eq_true rfl), (Nat.le_of_ble_eq_true rfl)⟩) hS (fun q _ h => hF q h) hF (fun u t H locs ht hvm hw hB _ _ hS => ?_)
  replace hP : va_P (dC, dI) vwCl (wA a k q4) H := by rw [← ht]; exact hB.1
  replace hD := hD0 (q4)
  clear hB hF
  obtain rfl := Option.some.inj h
  exact W.vret hx hb hr (fun t ht hW => ⟨⟨(), rfl, trivial, ⟨by rw [ht]; exact hP, va_K.moved hW.alike hK, hD⟩⟩, hS.F ht⟩) hS.2.2 dX4_fillIn_72

set_option maxRecDepth 100000 in
set_option maxHeartbeats 4000000 in
theorem b_X4_fillIn_e_92_74 {p : Program} {l : Launch} {e : Env} {s : State} {m : MethodId} {args : Array Value} {below : List Frame} {meth : Method} {c : Code} {dC : Nat → ClassId} {dI : Nat → Nat → Nat} {a : Nat → Nat} {k : Nat → ClassId} {A : Nat → Prop} {q : ST} (hC : CxA p s m args meth c dC dI k A cX4_fillIn RX4 none 8)   {p0 : Int32} {p1 : Int32} {p2 : Int32} {σ : ST} (h : f_X4_fillIn 92 74 p0 p1 p2 σ = some q) : GoA p l e ({ frames := 4, cells := 0, slots := 0, locals := 98 } : Room) s m args below meth c (MQ below (qAv dC dI a k A q) args s 0 0 A) dC dI a k A 8 0 σ (lv_args 0 [.ref (a 92), .int p0, .int p1, .int p2]) [] := by
  have hC0 := hC
  obtain ⟨hx, hb, hr, hml, hown, hts, hlocks, hA, hN, hK⟩ := hC0
  intro H locs ls hP hD hS hl
  have hD0 : ∀ σ1 : ST, va_D A (wA a k σ1) := fun σ1 => wA_D hD
  replace hl : lv_has ls 8 [(0, .ref (a 92)), (1, .int p0), (2, .int p1), (3, .int p2)] := hl
  unfold f_X4_fillIn at h
  refine lv_aload_n hx hb dX4_fillIn_0 rfl (lv_at hl 0 rfl) ?_
  refine va_get (D := (dC, dI)) (ci := 4) (C := RX4) (T := TX4) (N := 12) hx hb hts inlX4 hown hK hP 92 gA_92 rfl 0 (by decide) (hts (.fieldLink RX4 37 "ShapeReader$Reading" "shapes" "LShapeReader$Shapes;") mw_10_28) (fun _ h9 => h9) rfl dX4_fillIn_1 ?_
  refine lv_aload_n hx hb dX4_fillIn_4 rfl (lv_at hl 0 rfl) ?_
  refine va_get (D := (dC, dI)) (ci := 4) (C := RX4) (T := TX4) (N := 12) hx hb hts inlX4 hown hK hP 92 gA_92 rfl 0 (by decide) (hts (.fieldLink RX4 37 "ShapeReader$Reading" "shapes" "LShapeReader$Shapes;") mw_10_28) (fun _ h9 => h9) rfl dX4_fillIn_5 ?_
  refine lv_iload_n hx hb dX4_fillIn_8 rfl (lv_at hl 1 rfl) ?_
  refine lv_iload_n hx hb dX4_fillIn_9 rfl (lv_at hl 2 rfl) ?_
  obtain ⟨q1, hc, h⟩ := ib h
  have hF := va_frees hD hS hA
  refine va_calli (va_runV (As := [.int p0, .int p1]) (rest := [.ref (a 4)]) ⟨hx, hb, hml, hown, hts⟩ (s_X5_typeOf_4 hc) (cwV 2 hts (gV mw_13_12 mw_2_7 mw_2_8 mw_0_9 mw_50_3) rfl rfl rfl (by decide +kernel) ⟨(Nat.le_of_ble_eq_true rfl), (Nat.le_of_ble_eq_true rfl)⟩) (vV (ci := 5) (q0 := 4) hK hP hD hN rfl gA_4) rfl rfl hl.1 rfl (lv_room (Nat.le_of_ble_eq_true rfl)) dX4_fillIn_10 ⟨(Nat.le_of_ble_eq_true rfl), (Nat.le_of_ble_eq_true rfl)⟩) hS (fun q _ h => hF q h) hF (fun r2 u t H locs ht hvm hw hB _ _ hS => ?_)
  obtain rfl : r2 = q1.1 := hw
  replace hP : va_P (dC, dI) vwCl (wA a k q1.2) H := by rw [← ht]; exact hB.1
  replace hD := hD0 (q1.2)
  clear hB hF
  obtain ⟨q3, hc, h⟩ := ib h
  have hF := va_frees hD hS hA
  refine va_calli (va_runV (As := [.int q1.1]) (rest := []) ⟨hx, hb, hml, hown, hts⟩ (s_X5_firstChoice_4 hc) (cwV 1 hts (gV mw_13_23 mw_6_15 mw_6_16 mw_0_9 mw_50_11) rfl rfl rfl (by decide +kernel) ⟨(Nat.le_of_ble_eq_true rfl), (Nat.le_of_ble_eq_true rfl)⟩) (vV (ci := 5) (q0 := 4) hK hP hD hN rfl gA_4) rfl rfl hl.1 rfl (lv_room (Nat.le_of_ble_eq_true rfl)) dX4_fillIn_13 ⟨(Nat.le_of_ble_eq_true rfl), (Nat.le_of_ble_eq_true rfl)⟩) hS (fun q _ h => hF q h) hF (fun r4 u t H locs ht hvm hw hB _ _ hS => ?_)
  obtain rfl : r4 = q3.1 := hw
  replace hP : va_P (dC, dI) vwCl (wA a k q3.2) H := by rw [← ht]; exact hB.1
  replace hD := hD0 (q3.2)
  clear hB hF
  refine lv_istore (lv' := [(4, .int q3.1), (0, .ref (a 92)), (1, .int p0), (2, .int p1), (3, .int p2)]) hx hb dX4_fillIn_16 hl (by decide) rfl (fun ls hl => ?_)
  refine lv_aload_n hx hb dX4_fillIn_18 rfl (lv_at hl 1 rfl) ?_
  refine va_get (D := (dC, dI)) (ci := 4) (C := RX4) (T := TX4) (N := 12) hx hb hts inlX4 hown hK hP 92 gA_92 rfl 0 (by decide) (hts (.fieldLink RX4 37 "ShapeReader$Reading" "shapes" "LShapeReader$Shapes;") mw_10_28) (fun _ h9 => h9) rfl dX4_fillIn_19 ?_
  refine lv_iload_n hx hb dX4_fillIn_22 rfl (lv_at hl 2 rfl) ?_
  refine lv_iload_n hx hb dX4_fillIn_23 rfl (lv_at hl 3 rfl) ?_
  obtain ⟨q5, hc, h⟩ := ib h
  have hF := va_frees hD hS hA
  refine va_calll (va_runV (As := [.int p0, .int p1]) (rest := []) ⟨hx, hb, hml, hown, hts⟩ (s_X5_elseWorth_4 hc) (cwV 2 hts (gV mw_13_24 mw_6_18 mw_6_19 mw_0_9 mw_50_5) rfl rfl rfl (by decide +kernel) ⟨(Nat.le_of_ble_eq_true rfl), (Nat.le_of_ble_eq_true rfl)⟩) (vV (ci := 5) (q0 := 4) hK hP hD hN rfl gA_4) rfl rfl hl.1 rfl (lv_room (Nat.le_of_ble_eq_true rfl)) dX4_fillIn_24 ⟨(Nat.le_of_ble_eq_true rfl), (Nat.le_of_ble_eq_true rfl)⟩) hS (fun q _ h => hF q h) hF (fun r6 u t H locs ht hvm hw hB _ _ hS => ?_)
  obtain rfl : r6 = q5.1 := hw
  replace hP : va_P (dC, dI) vwCl (wA a k q5.2) H := by rw [← ht]; exact hB.1
  replace hD := hD0 (q5.2)
  clear hB hF
  refine lv_lstore (lv' := [(5, .long q5.1), (4, .int q3.1), (0, .ref (a 92)), (1, .int p0), (2, .int p1), (3, .int p2)]) hx hb dX4_fillIn_27 hl (by decide) rfl (fun ls hl => ?_)
  refine lv_aload_n hx hb dX4_fillIn_29 rfl (lv_at hl 2 rfl) ?_
  refine va_get (D := (dC, dI)) (ci := 4) (C := RX4) (T := TX4) (N := 12) hx hb hts inlX4 hown hK hP 92 gA_92 rfl 0 (by decide) (hts (.fieldLink RX4 37 "ShapeReader$Reading" "shapes" "LShapeReader$Shapes;") mw_10_28) (fun _ h9 => h9) rfl dX4_fillIn_30 ?_
  refine lv_iload hx hb dX4_fillIn_33 (lv_at hl 1 rfl) ?_
  obtain ⟨q7, hc, h⟩ := ib h
  have hF := va_frees hD hS hA
  refine va_calli (va_runV (As := [.int q3.1]) (rest := []) ⟨hx, hb, hml, hown, hts⟩ (s_X5_sortOf_4 hc) (cwV 1 hts (gV mw_11_25 mw_2_13 mw_2_14 mw_0_9 mw_50_6) rfl rfl rfl (by decide +kernel) ⟨(Nat.le_of_ble_eq_true rfl), (Nat.le_of_ble_eq_true rfl)⟩) (vV (ci := 5) (q0 := 4) hK hP hD hN rfl gA_4) rfl rfl hl.1 rfl (lv_room (Nat.le_of_ble_eq_true rfl)) dX4_fillIn_35 ⟨(Nat.le_of_ble_eq_true rfl), (Nat.le_of_ble_eq_true rfl)⟩) hS (fun q _ h => hF q h) hF (fun r8 u t H locs ht hvm hw hB _ _ hS => ?_)
  obtain rfl : r8 = q7.1 := hw
  replace hP : va_P (dC, dI) vwCl (wA a k q7.2) H := by rw [← ht]; exact hB.1
  replace hD := hD0 (q7.2)
  clear hB hF
  refine lv_iconst (v := 5) hx hb dX4_fillIn_38 (by decide) ?_
  refine lv_icmp_ne (tgt := 50) hx hb dX4_fillIn_39 (by decide) (fun hc => ?_) (fun hc => ?_)
  · replace h := iq hc h
    refine lv_iconst (v := 0) hx hb dX4_fillIn_50 (by decide) ?_
    exact b_X4_fillIn_51_92_74 hC h _ _ _ hP hD hS (lv_sub hl [2, 4, 5, 1, 0] rfl)
  · replace h := ip hc h
    refine lv_lload hx hb dX4_fillIn_42 (lv_at hl 0 rfl) ?_
    obtain ⟨q9, hc, h⟩ := ib h
    have hF := va_frees hD hS hA
    refine va_calli (va_runSN (As := [.long q5.1]) (rest := []) ⟨hx, hb, hml, hown, hts⟩ (s_X10_lettersIn hc) ⟨va_cnB 1 hts (gI mw_53_21) rfl rfl rfl (hN _ (List.mem_of_getElem? (i := 7) rfl)) (hts (.initialized RX10) mw_0_14) (by decide +kernel) ⟨(Nat.le_of_ble_eq_true rfl), (Nat.le_of_ble_eq_true rfl)⟩, (hts (.static yX10_lettersIn) mw_6_26), trivial⟩ (vS hK hP hD hN) rfl rfl hl.1 rfl (lv_room (Nat.le_of_ble_eq_true rfl)) dX4_fillIn_44 ⟨(Nat.le_of_ble_eq_true rfl), (Nat.le_of_ble_eq_true rfl)⟩) hS (fun q _ h => hF q h) hF (fun r10 u t H locs ht hvm hw hB _ _ hS => ?_)
    obtain rfl : r10 = q9.1 := hw
    replace hP : va_P (dC, dI) vwCl (wA a k q9.2) H := by rw [← ht]; exact hB.1
    replace hD := hD0 (q9.2)
    clear hB hF
    refine lv_goto (tgt := 51) hx hb dX4_fillIn_47 (by decide) ?_
    exact b_X4_fillIn_51_92_74 hC h _ _ _ hP hD hS (lv_sub hl [2, 4, 5, 1, 0] rfl)

theorem s_X4_fillIn_92_74 {l : Launch} {dC : Nat → ClassId} {dI : Nat → Nat → Nat} {a : Nat → Nat} {k : Nat → ClassId} {sz : Nat} {p0 : Int32} {p1 : Int32} {p2 : Int32} {σ : ST} {q : ST} (h : f_X4_fillIn 92 74 p0 p1 p2 σ = some q) : Met l yX4_fillIn (.code yX4_fillIn cX4_fillIn 8 none :: pw) ({ frames := 4, cells := 0, slots := 0, locals := 98 } : Room) (va_Pc [.ref (a 92), .int p0, .int p1, .int p2] (vPre dC dI (wA a k σ) (tA k) sz)) (qAv dC dI a k (va_A (wA a k σ) sz) q) 0 0 (va_A (wA a k σ) sz) := metA (fun A => qAv dC dI a k A q) (plainFor_of_name (by decide)) (Nat.le_of_ble_eq_true rfl) (fun _ _ _ _ _ _ _ _ hC => b_X4_fillIn_e_92_74 hC h)

def f_X4_findSources_56 (k3 : Int32 → Int32 → Int32 → Int32 → ST → Option (ST)) (b : Nat) (t : Nat) (x1 : Int32) (x2 : Int32) (x3 : Int32) (x4 : Int32) (σ : ST) : Option (ST) := k3 x1 x2 x3 (x4 + 1) σ
def f_X4_findSources_3 (b : Nat) (t : Nat) : Nat → Int32 → Int32 → Int32 → Int32 → ST → Option (ST)
  | 0, _, _, _, _, _ => none
  | n + 1, x1, x2, x3, x4, σ => (f_X5_fieldsOf 4 x2 σ).bind fun q1 => if q1.1 ≤ x4 then (some q1.2) else (if x3 < 0 then (f_X4_findSources_56 (f_X4_findSources_3 b t n) b t x1 x2 x3 x4 q1.2) else (if 31 ≤ x3 then (f_X4_findSources_56 (f_X4_findSources_3 b t n) b t x1 x2 x3 x4 q1.2) else (if 8 ≤ x4 then (f_X4_findSources_56 (f_X4_findSources_3 b t n) b t x1 x2 x3 x4 q1.2) else ((f_X5_sourceOf 4 x1 x2 x4 q1.2).bind fun q3 => if 0 ≤ ((x3 * 8) + x4).toInt ∧ ((x3 * 8) + x4).toInt < 256 then (f_X4_findSources_56 (f_X4_findSources_3 b t n) b t x1 x2 x3 x4 (stI q3.2 (b + 2) ((x3 * 8) + x4).toNatClampNeg q3.1)) else none))))
def f_X4_findSources (b : Nat) (t : Nat) (p0 : Int32) (p1 : Int32) (p2 : Int32) (σ : ST) : Option (ST) := f_X4_findSources_3 b t FU p0 p1 p2 0 σ

set_option maxRecDepth 100000 in
set_option maxHeartbeats 4000000 in
theorem b_X4_findSources_56_89_50 {p : Program} {l : Launch} {e : Env} {s : State} {m : MethodId} {args : Array Value} {below : List Frame} {meth : Method} {c : Code} {dC : Nat → ClassId} {dI : Nat → Nat → Nat} {a : Nat → Nat} {k : Nat → ClassId} {A : Nat → Prop} {q : ST} (hC : CxA p s m args meth c dC dI k A cX4_findSources RX4 none 5)  {k3 : Int32 → Int32 → Int32 → Int32 → ST → Option (ST)} (hk3 : ∀ (x1 : Int32) (x2 : Int32) (x3 : Int32) (x4 : Int32) (σ : ST), k3 x1 x2 x3 x4 σ = some q → GoA p l e ({ frames := 3, cells := 0, slots := 0, locals := 73 } : Room) s m args below meth c (MQ below (qAv dC dI a k A q) args s 0 0 A) dC dI a k A 5 3 σ [(0, .ref (a 89)), (1, .int x1), (2, .int x2), (3, .int x3), (4, .int x4)] []) {x1 : Int32} {x2 : Int32} {x3 : Int32} {x4 : Int32} {σ : ST} (h : f_X4_findSources_56 k3 89 50 x1 x2 x3 x4 σ = some q) : GoA p l e ({ frames := 3, cells := 0, slots := 0, locals := 73 } : Room) s m args below meth c (MQ below (qAv dC dI a k A q) args s 0 0 A) dC dI a k A 5 56 σ [(0, .ref (a 89)), (1, .int x1), (2, .int x2), (3, .int x3), (4, .int x4)] [] := by
  have hC0 := hC
  obtain ⟨hx, hb, hr, hml, hown, hts, hlocks, hA, hN, hK⟩ := hC0
  intro H locs ls hP hD hS hl
  have hD0 : ∀ σ1 : ST, va_D A (wA a k σ1) := fun σ1 => wA_D hD
  unfold f_X4_findSources_56 at h
  refine lv_iinc (v := (x4 + 1)) (lv' := [(4, .int (x4 + 1)), (0, .ref (a 89)), (1, .int x1), (2, .int x2), (3, .int x3)]) hx hb dX4_findSources_56 hl (k := 4) rfl rfl (by decide) rfl (fun ls hl => ?_)
  refine lv_goto (tgt := 3) hx hb dX4_findSources_59 (by decide) ?_
  exact hk3 _ _ _ _ _ h _ _ _ hP hD hS (lv_sub hl [1, 2, 3, 4, 0] rfl)

set_option maxRecDepth 100000 in
set_option maxHeartbeats 4000000 in
theorem b_X4_findSources_3_89_50 {p : Program} {l : Launch} {e : Env} {s : State} {m : MethodId} {args : Array Value} {below : List Frame} {meth : Method} {c : Code} {dC : Nat → ClassId} {dI : Nat → Nat → Nat} {a : Nat → Nat} {k : Nat → ClassId} {A : Nat → Prop} {q : ST} (hC : CxA p s m args meth c dC dI k A cX4_findSources RX4 none 5)   : ∀ (n : Nat) (x1 : Int32) (x2 : Int32) (x3 : Int32) (x4 : Int32) (σ : ST), f_X4_findSources_3 89 50 n x1 x2 x3 x4 σ = some q → GoA p l e ({ frames := 3, cells := 0, slots := 0, locals := 73 } : Room) s m args below meth c (MQ below (qAv dC dI a k A q) args s 0 0 A) dC dI a k A 5 3 σ [(0, .ref (a 89)), (1, .int x1), (2, .int x2), (3, .int x3), (4, .int x4)] [] := by
  intro n
  induction n with
  | zero =>
    intro x1 x2 x3 x4 σ h
    rw [f_X4_findSources_3] at h
    cases h
  | succ n ih =>
    intro x1 x2 x3 x4 σ h
    have hC0 := hC
    obtain ⟨hx, hb, hr, hml, hown, hts, hlocks, hA, hN, hK⟩ := hC0
    intro H locs ls hP hD hS hl
    have hD0 : ∀ σ1 : ST, va_D A (wA a k σ1) := fun σ1 => wA_D hD
    rw [f_X4_findSources_3] at h
    refine lv_iload hx hb dX4_findSources_3 (lv_at hl 4 rfl) ?_
    refine lv_aload_n hx hb dX4_findSources_5 rfl (lv_at hl 0 rfl) ?_
    refine va_get (D := (dC, dI)) (ci := 4) (C := RX4) (T := TX4) (N := 12) hx hb hts inlX4 hown hK hP 89 gA_89 rfl 0 (by decide) (hts (.fieldLink RX4 37 "ShapeReader$Reading" "shapes" "LShapeReader$Shapes;") mw_10_28) (fun _ h9 => h9) rfl dX4_findSources_6 ?_
    refine lv_iload_n hx hb dX4_findSources_9 rfl (lv_at hl 2 rfl) ?_
    obtain ⟨q1, hc, h⟩ := ib h
    have hF := va_frees hD hS hA
    refine va_calli (va_runV (As := [.int x2]) (rest := [.int x4]) ⟨hx, hb, hml, hown, hts⟩ (s_X5_fieldsOf_4 hc) (cwV 1 hts (gV mw_13_5 mw_1_28 mw_1_29 mw_0_9 mw_49_29) rfl rfl rfl (by decide +kernel) ⟨(Nat.le_of_ble_eq_true rfl), (Nat.le_of_ble_eq_true rfl)⟩) (vV (ci := 5) (q0 := 4) hK hP hD hN rfl gA_4) rfl rfl hl.1 rfl (lv_room (Nat.le_of_ble_eq_true rfl)) dX4_findSources_10 ⟨(Nat.le_of_ble_eq_true rfl), (Nat.le_of_ble_eq_true rfl)⟩) hS (fun q _ h => hF q h) hF (fun r2 u t H locs ht hvm hw hB _ _ hS => ?_)
    obtain rfl : r2 = q1.1 := hw
    replace hP : va_P (dC, dI) vwCl (wA a k q1.2) H := by rw [← ht]; exact hB.1
    replace hD := hD0 (q1.2)
    clear hB hF
    refine lv_icmp_ge (tgt := 62) hx hb dX4_findSources_13 (by decide) (fun hc => ?_) (fun hc => ?_)
    · replace h := ip hc h
      obtain rfl := Option.some.inj h
      exact W.vret hx hb hr (fun t ht hW => ⟨⟨(), rfl, trivial, ⟨by rw [ht]; exact hP, va_K.moved hW.alike hK, hD⟩⟩, hS.F ht⟩) hS.2.2 dX4_findSources_62
    · replace h := iq hc h
      refine lv_iload_n hx hb dX4_findSources_16 rfl (lv_at hl 3 rfl) ?_
      refine lv_if_lt (tgt := 56) hx hb dX4_findSources_17 (by decide) (fun hc => ?_) (fun hc => ?_)
      · replace h := ip hc h
        exact b_X4_findSources_56_89_50 hC ih h _ _ _ hP hD hS (lv_sub hl [0, 1, 2, 3, 4] rfl)
      · replace h := iq hc h
        refine lv_iload_n hx hb dX4_findSources_20 rfl (lv_at hl 3 rfl) ?_
        refine lv_bipush (v := 31) hx hb dX4_findSources_21 (by decide) ?_
        refine lv_icmp_ge (tgt := 56) hx hb dX4_findSources_23 (by decide) (fun hc => ?_) (fun hc => ?_)
        · replace h := ip hc h
          exact b_X4_findSources_56_89_50 hC ih h _ _ _ hP hD hS (lv_sub hl [0, 1, 2, 3, 4] rfl)
        · replace h := iq hc h
          refine lv_iload hx hb dX4_findSources_26 (lv_at hl 4 rfl) ?_
          refine lv_bipush (v := 8) hx hb dX4_findSources_28 (by decide) ?_
          refine lv_icmp_ge (tgt := 56) hx hb dX4_findSources_30 (by decide) (fun hc => ?_) (fun hc => ?_)
          · replace h := ip hc h
            exact b_X4_findSources_56_89_50 hC ih h _ _ _ hP hD hS (lv_sub hl [0, 1, 2, 3, 4] rfl)
          · replace h := iq hc h
            refine lv_aload_n hx hb dX4_findSources_33 rfl (lv_at hl 0 rfl) ?_
            refine va_get (D := (dC, dI)) (ci := 4) (C := RX4) (T := TX4) (N := 12) hx hb hts inlX4 hown hK hP 89 gA_89 rfl 11 (by decide) (hts (.fieldLink RX4 34 "ShapeReader$Reading" "sources" "[I") mw_10_27) (fun _ h9 => h9) rfl dX4_findSources_34 ?_
            refine lv_iload_n hx hb dX4_findSources_37 rfl (lv_at hl 3 rfl) ?_
            refine lv_bipush (v := 8) hx hb dX4_findSources_38 (by decide) ?_
            refine lv_imul hx hb dX4_findSources_40 ?_
            refine lv_iload hx hb dX4_findSources_41 (lv_at hl 4 rfl) ?_
            refine lv_iadd hx hb dX4_findSources_43 ?_
            refine lv_aload_n hx hb dX4_findSources_44 rfl (lv_at hl 0 rfl) ?_
            refine va_get (D := (dC, dI)) (ci := 4) (C := RX4) (T := TX4) (N := 12) hx hb hts inlX4 hown hK hP 89 gA_89 rfl 0 (by decide) (hts (.fieldLink RX4 37 "ShapeReader$Reading" "shapes" "LShapeReader$Shapes;") mw_10_28) (fun _ h9 => h9) rfl dX4_findSources_45 ?_
            refine lv_iload_n hx hb dX4_findSources_48 rfl (lv_at hl 1 rfl) ?_
            refine lv_iload_n hx hb dX4_findSources_49 rfl (lv_at hl 2 rfl) ?_
            refine lv_iload hx hb dX4_findSources_50 (lv_at hl 4 rfl) ?_
            obtain ⟨q3, hc, h⟩ := ib h
            have hF := va_frees hD hS hA
            refine va_calli (va_runV (As := [.int x1, .int x2, .int x4]) (rest := [.int ((x3 * 8) + x4), .ref (a 91)]) ⟨hx, hb, hml, hown, hts⟩ (s_X5_sourceOf_4 hc) (cwV 3 hts (gV mw_13_22 mw_2_1 mw_2_2 mw_0_9 mw_50_15) rfl rfl rfl (by decide +kernel) ⟨(Nat.le_of_ble_eq_true rfl), (Nat.le_of_ble_eq_true rfl)⟩) (vV (ci := 5) (q0 := 4) hK hP hD hN rfl gA_4) rfl rfl hl.1 rfl (lv_room (Nat.le_of_ble_eq_true rfl)) dX4_findSources_52 ⟨(Nat.le_of_ble_eq_true rfl), (Nat.le_of_ble_eq_true rfl)⟩) hS (fun q _ h => hF q h) hF (fun r4 u t H locs ht hvm hw hB _ _ hS => ?_)
            obtain rfl : r4 = q3.1 := hw
            replace hP : va_P (dC, dI) vwCl (wA a k q3.2) H := by rw [← ht]; exact hB.1
            replace hD := hD0 (q3.2)
            clear hB hF
            obtain ⟨hg5, h⟩ := ig h
            refine va_iast hx hb hK hP hD hS 91 77 gA_91 yA_91 (vp_in_iff.mpr hg5) dX4_findSources_55 (fun H locs hP hD hS => ?_)
            replace hP := uA_91 hP
            replace hD := hD0 ((stI q3.2 91 ((x3 * 8) + x4).toNatClampNeg q3.1))
            exact b_X4_findSources_56_89_50 hC ih h _ _ _ hP hD hS (lv_sub hl [0, 1, 2, 3, 4] rfl)

set_option maxRecDepth 100000 in
set_option maxHeartbeats 4000000 in
theorem b_X4_findSources_e_89_50 {p : Program} {l : Launch} {e : Env} {s : State} {m : MethodId} {args : Array Value} {below : List Frame} {meth : Method} {c : Code} {dC : Nat → ClassId} {dI : Nat → Nat → Nat} {a : Nat → Nat} {k : Nat → ClassId} {A : Nat → Prop} {q : ST} (hC : CxA p s m args meth c dC dI k A cX4_findSources RX4 none 5)   {p0 : Int32} {p1 : Int32} {p2 : Int32} {σ : ST} (h : f_X4_findSources 89 50 p0 p1 p2 σ = some q) : GoA p l e ({ frames := 3, cells := 0, slots := 0, locals := 73 } : Room) s m args below meth c (MQ below (qAv dC dI a k A q) args s 0 0 A) dC dI a k A 5 0 σ (lv_args 0 [.ref (a 89), .int p0, .int p1, .int p2]) [] := by
  have hC0 := hC
  obtain ⟨hx, hb, hr, hml, hown, hts, hlocks, hA, hN, hK⟩ := hC0
  intro H locs ls hP hD hS hl
  have hD0 : ∀ σ1 : ST, va_D A (wA a k σ1) := fun σ1 => wA_D hD
  replace hl : lv_has ls 5 [(0, .ref (a 89)), (1, .int p0), (2, .int p1), (3, .int p2)] := hl
  unfold f_X4_findSources at h
  refine lv_iconst (v := 0) hx hb dX4_findSources_0 (by decide) ?_
  refine lv_istore (lv' := [(4, .int 0), (0, .ref (a 89)), (1, .int p0), (2, .int p1), (3, .int p2)]) hx hb dX4_findSources_1 hl (by decide) rfl (fun ls hl => ?_)
  exact b_X4_findSources_3_89_50 hC FU _ _ _ _ _ h _ _ _ hP hD hS (lv_sub hl [1, 2, 3, 4, 0] rfl)

theorem s_X4_findSources_89_50 {l : Launch} {dC : Nat → ClassId} {dI : Nat → Nat → Nat} {a : Nat → Nat} {k : Nat → ClassId} {sz : Nat} {p0 : Int32} {p1 : Int32} {p2 : Int32} {σ : ST} {q : ST} (h : f_X4_findSources 89 50 p0 p1 p2 σ = some q) : Met l yX4_findSources (.code yX4_findSources cX4_findSources 5 none :: pw) ({ frames := 3, cells := 0, slots := 0, locals := 73 } : Room) (va_Pc [.ref (a 89), .int p0, .int p1, .int p2] (vPre dC dI (wA a k σ) (tA k) sz)) (qAv dC dI a k (va_A (wA a k σ) sz) q) 0 0 (va_A (wA a k σ) sz) := metA (fun A => qAv dC dI a k A q) (plainFor_of_name (by decide)) (Nat.le_of_ble_eq_true rfl) (fun _ _ _ _ _ _ _ _ hC => b_X4_findSources_e_89_50 hC h)

set_option maxRecDepth 100000 in
set_option maxHeartbeats 4000000 in
theorem b_X4_findSources_56_92_62 {p : Program} {l : Launch} {e : Env} {s : State} {m : MethodId} {args : Array Value} {below : List Frame} {meth : Method} {c : Code} {dC : Nat → ClassId} {dI : Nat → Nat → Nat} {a : Nat → Nat} {k : Nat → ClassId} {A : Nat → Prop} {q : ST} (hC : CxA p s m args meth c dC dI k A cX4_findSources RX4 none 5)  {k3 : Int32 → Int32 → Int32 → Int32 → ST → Option (ST)} (hk3 : ∀ (x1 : Int32) (x2 : Int32) (x3 : Int32) (x4 : Int32) (σ : ST), k3 x1 x2 x3 x4 σ = some q → GoA p l e ({ frames := 3, cells := 0, slots := 0, locals := 73 } : Room) s m args below meth c (MQ below (qAv dC dI a k A q) args s 0 0 A) dC dI a k A 5 3 σ [(0, .ref (a 92)), (1, .int x1), (2, .int x2), (3, .int x3), (4, .int x4)] []) {x1 : Int32} {x2 : Int32} {x3 : Int32} {x4 : Int32} {σ : ST} (h : f_X4_findSources_56 k3 92 62 x1 x2 x3 x4 σ = some q) : GoA p l e ({ frames := 3, cells := 0, slots := 0, locals := 73 } : Room) s m args below meth c (MQ below (qAv dC dI a k A q) args s 0 0 A) dC dI a k A 5 56 σ [(0, .ref (a 92)), (1, .int x1), (2, .int x2), (3, .int x3), (4, .int x4)] [] := by
  have hC0 := hC
  obtain ⟨hx, hb, hr, hml, hown, hts, hlocks, hA, hN, hK⟩ := hC0
  intro H locs ls hP hD hS hl
  have hD0 : ∀ σ1 : ST, va_D A (wA a k σ1) := fun σ1 => wA_D hD
  unfold f_X4_findSources_56 at h
  refine lv_iinc (v := (x4 + 1)) (lv' := [(4, .int (x4 + 1)), (0, .ref (a 92)), (1, .int x1), (2, .int x2), (3, .int x3)]) hx hb dX4_findSources_56 hl (k := 4) rfl rfl (by decide) rfl (fun ls hl => ?_)
  refine lv_goto (tgt := 3) hx hb dX4_findSources_59 (by decide) ?_
  exact hk3 _ _ _ _ _ h _ _ _ hP hD hS (lv_sub hl [1, 2, 3, 4, 0] rfl)

set_option maxRecDepth 100000 in
set_option maxHeartbeats 4000000 in
theorem b_X4_findSources_3_92_62 {p : Program} {l : Launch} {e : Env} {s : State} {m : MethodId} {args : Array Value} {below : List Frame} {meth : Method} {c : Code} {dC : Nat → ClassId} {dI : Nat → Nat → Nat} {a : Nat → Nat} {k : Nat → ClassId} {A : Nat → Prop} {q : ST} (hC : CxA p s m args meth c dC dI k A cX4_findSources RX4 none 5)   : ∀ (n : Nat) (x1 : Int32) (x2 : Int32) (x3 : Int32) (x4 : Int32) (σ : ST), f_X4_findSources_3 92 62 n x1 x2 x3 x4 σ = some q → GoA p l e ({ frames := 3, cells := 0, slots := 0, locals := 73 } : Room) s m args below meth c (MQ below (qAv dC dI a k A q) args s 0 0 A) dC dI a k A 5 3 σ [(0, .ref (a 92)), (1, .int x1), (2, .int x2), (3, .int x3), (4, .int x4)] [] := by
  intro n
  induction n with
  | zero =>
    intro x1 x2 x3 x4 σ h
    rw [f_X4_findSources_3] at h
    cases h
  | succ n ih =>
    intro x1 x2 x3 x4 σ h
    have hC0 := hC
    obtain ⟨hx, hb, hr, hml, hown, hts, hlocks, hA, hN, hK⟩ := hC0
    intro H locs ls hP hD hS hl
    have hD0 : ∀ σ1 : ST, va_D A (wA a k σ1) := fun σ1 => wA_D hD
    rw [f_X4_findSources_3] at h
    refine lv_iload hx hb dX4_findSources_3 (lv_at hl 4 rfl) ?_
    refine lv_aload_n hx hb dX4_findSources_5 rfl (lv_at hl 0 rfl) ?_
    refine va_get (D := (dC, dI)) (ci := 4) (C := RX4) (T := TX4) (N := 12) hx hb hts inlX4 hown hK hP 92 gA_92 rfl 0 (by decide) (hts (.fieldLink RX4 37 "ShapeReader$Reading" "shapes" "LShapeReader$Shapes;") mw_10_28) (fun _ h9 => h9) rfl dX4_findSources_6 ?_
    refine lv_iload_n hx hb dX4_findSources_9 rfl (lv_at hl 2 rfl) ?_
    obtain ⟨q1, hc, h⟩ := ib h
    have hF := va_frees hD hS hA
    refine va_calli (va_runV (As := [.int x2]) (rest := [.int x4]) ⟨hx, hb, hml, hown, hts⟩ (s_X5_fieldsOf_4 hc) (cwV 1 hts (gV mw_13_5 mw_1_28 mw_1_29 mw_0_9 mw_49_29) rfl rfl rfl (by decide +kernel) ⟨(Nat.le_of_ble_eq_true rfl), (Nat.le_of_ble_eq_true rfl)⟩) (vV (ci := 5) (q0 := 4) hK hP hD hN rfl gA_4) rfl rfl hl.1 rfl (lv_room (Nat.le_of_ble_eq_true rfl)) dX4_findSources_10 ⟨(Nat.le_of_ble_eq_true rfl), (Nat.le_of_ble_eq_true rfl)⟩) hS (fun q _ h => hF q h) hF (fun r2 u t H locs ht hvm hw hB _ _ hS => ?_)
    obtain rfl : r2 = q1.1 := hw
    replace hP : va_P (dC, dI) vwCl (wA a k q1.2) H := by rw [← ht]; exact hB.1
    replace hD := hD0 (q1.2)
    clear hB hF
    refine lv_icmp_ge (tgt := 62) hx hb dX4_findSources_13 (by decide) (fun hc => ?_) (fun hc => ?_)
    · replace h := ip hc h
      obtain rfl := Option.some.inj h
      exact W.vret hx hb hr (fun t ht hW => ⟨⟨(), rfl, trivial, ⟨by rw [ht]; exact hP, va_K.moved hW.alike hK, hD⟩⟩, hS.F ht⟩) hS.2.2 dX4_findSources_62
    · replace h := iq hc h
      refine lv_iload_n hx hb dX4_findSources_16 rfl (lv_at hl 3 rfl) ?_
      refine lv_if_lt (tgt := 56) hx hb dX4_findSources_17 (by decide) (fun hc => ?_) (fun hc => ?_)
      · replace h := ip hc h
        exact b_X4_findSources_56_92_62 hC ih h _ _ _ hP hD hS (lv_sub hl [0, 1, 2, 3, 4] rfl)
      · replace h := iq hc h
        refine lv_iload_n hx hb dX4_findSources_20 rfl (lv_at hl 3 rfl) ?_
        refine lv_bipush (v := 31) hx hb dX4_findSources_21 (by decide) ?_
        refine lv_icmp_ge (tgt := 56) hx hb dX4_findSources_23 (by decide) (fun hc => ?_) (fun hc => ?_)
        · replace h := ip hc h
          exact b_X4_findSources_56_92_62 hC ih h _ _ _ hP hD hS (lv_sub hl [0, 1, 2, 3, 4] rfl)
        · replace h := iq hc h
          refine lv_iload hx hb dX4_findSources_26 (lv_at hl 4 rfl) ?_
          refine lv_bipush (v := 8) hx hb dX4_findSources_28 (by decide) ?_
          refine lv_icmp_ge (tgt := 56) hx hb dX4_findSources_30 (by decide) (fun hc => ?_) (fun hc => ?_)
          · replace h := ip hc h
            exact b_X4_findSources_56_92_62 hC ih h _ _ _ hP hD hS (lv_sub hl [0, 1, 2, 3, 4] rfl)
          · replace h := iq hc h
            refine lv_aload_n hx hb dX4_findSources_33 rfl (lv_at hl 0 rfl) ?_
            refine va_get (D := (dC, dI)) (ci := 4) (C := RX4) (T := TX4) (N := 12) hx hb hts inlX4 hown hK hP 92 gA_92 rfl 11 (by decide) (hts (.fieldLink RX4 34 "ShapeReader$Reading" "sources" "[I") mw_10_27) (fun _ h9 => h9) rfl dX4_findSources_34 ?_
            refine lv_iload_n hx hb dX4_findSources_37 rfl (lv_at hl 3 rfl) ?_
            refine lv_bipush (v := 8) hx hb dX4_findSources_38 (by decide) ?_
            refine lv_imul hx hb dX4_findSources_40 ?_
            refine lv_iload hx hb dX4_findSources_41 (lv_at hl 4 rfl) ?_
            refine lv_iadd hx hb dX4_findSources_43 ?_
            refine lv_aload_n hx hb dX4_findSources_44 rfl (lv_at hl 0 rfl) ?_
            refine va_get (D := (dC, dI)) (ci := 4) (C := RX4) (T := TX4) (N := 12) hx hb hts inlX4 hown hK hP 92 gA_92 rfl 0 (by decide) (hts (.fieldLink RX4 37 "ShapeReader$Reading" "shapes" "LShapeReader$Shapes;") mw_10_28) (fun _ h9 => h9) rfl dX4_findSources_45 ?_
            refine lv_iload_n hx hb dX4_findSources_48 rfl (lv_at hl 1 rfl) ?_
            refine lv_iload_n hx hb dX4_findSources_49 rfl (lv_at hl 2 rfl) ?_
            refine lv_iload hx hb dX4_findSources_50 (lv_at hl 4 rfl) ?_
            obtain ⟨q3, hc, h⟩ := ib h
            have hF := va_frees hD hS hA
            refine va_calli (va_runV (As := [.int x1, .int x2, .int x4]) (rest := [.int ((x3 * 8) + x4), .ref (a 94)]) ⟨hx, hb, hml, hown, hts⟩ (s_X5_sourceOf_4 hc) (cwV 3 hts (gV mw_13_22 mw_2_1 mw_2_2 mw_0_9 mw_50_15) rfl rfl rfl (by decide +kernel) ⟨(Nat.le_of_ble_eq_true rfl), (Nat.le_of_ble_eq_true rfl)⟩) (vV (ci := 5) (q0 := 4) hK hP hD hN rfl gA_4) rfl rfl hl.1 rfl (lv_room (Nat.le_of_ble_eq_true rfl)) dX4_findSources_52 ⟨(Nat.le_of_ble_eq_true rfl), (Nat.le_of_ble_eq_true rfl)⟩) hS (fun q _ h => hF q h) hF (fun r4 u t H locs ht hvm hw hB _ _ hS => ?_)
            obtain rfl : r4 = q3.1 := hw
            replace hP : va_P (dC, dI) vwCl (wA a k q3.2) H := by rw [← ht]; exact hB.1
            replace hD := hD0 (q3.2)
            clear hB hF
            obtain ⟨hg5, h⟩ := ig h
            refine va_iast hx hb hK hP hD hS 94 79 gA_94 yA_94 (vp_in_iff.mpr hg5) dX4_findSources_55 (fun H locs hP hD hS => ?_)
            replace hP := uA_94 hP
            replace hD := hD0 ((stI q3.2 94 ((x3 * 8) + x4).toNatClampNeg q3.1))
            exact b_X4_findSources_56_92_62 hC ih h _ _ _ hP hD hS (lv_sub hl [0, 1, 2, 3, 4] rfl)

set_option maxRecDepth 100000 in
set_option maxHeartbeats 4000000 in
theorem b_X4_findSources_e_92_62 {p : Program} {l : Launch} {e : Env} {s : State} {m : MethodId} {args : Array Value} {below : List Frame} {meth : Method} {c : Code} {dC : Nat → ClassId} {dI : Nat → Nat → Nat} {a : Nat → Nat} {k : Nat → ClassId} {A : Nat → Prop} {q : ST} (hC : CxA p s m args meth c dC dI k A cX4_findSources RX4 none 5)   {p0 : Int32} {p1 : Int32} {p2 : Int32} {σ : ST} (h : f_X4_findSources 92 62 p0 p1 p2 σ = some q) : GoA p l e ({ frames := 3, cells := 0, slots := 0, locals := 73 } : Room) s m args below meth c (MQ below (qAv dC dI a k A q) args s 0 0 A) dC dI a k A 5 0 σ (lv_args 0 [.ref (a 92), .int p0, .int p1, .int p2]) [] := by
  have hC0 := hC
  obtain ⟨hx, hb, hr, hml, hown, hts, hlocks, hA, hN, hK⟩ := hC0
  intro H locs ls hP hD hS hl
  have hD0 : ∀ σ1 : ST, va_D A (wA a k σ1) := fun σ1 => wA_D hD
  replace hl : lv_has ls 5 [(0, .ref (a 92)), (1, .int p0), (2, .int p1), (3, .int p2)] := hl
  unfold f_X4_findSources at h
  refine lv_iconst (v := 0) hx hb dX4_findSources_0 (by decide) ?_
  refine lv_istore (lv' := [(4, .int 0), (0, .ref (a 92)), (1, .int p0), (2, .int p1), (3, .int p2)]) hx hb dX4_findSources_1 hl (by decide) rfl (fun ls hl => ?_)
  exact b_X4_findSources_3_92_62 hC FU _ _ _ _ _ h _ _ _ hP hD hS (lv_sub hl [1, 2, 3, 4, 0] rfl)

theorem s_X4_findSources_92_62 {l : Launch} {dC : Nat → ClassId} {dI : Nat → Nat → Nat} {a : Nat → Nat} {k : Nat → ClassId} {sz : Nat} {p0 : Int32} {p1 : Int32} {p2 : Int32} {σ : ST} {q : ST} (h : f_X4_findSources 92 62 p0 p1 p2 σ = some q) : Met l yX4_findSources (.code yX4_findSources cX4_findSources 5 none :: pw) ({ frames := 3, cells := 0, slots := 0, locals := 73 } : Room) (va_Pc [.ref (a 92), .int p0, .int p1, .int p2] (vPre dC dI (wA a k σ) (tA k) sz)) (qAv dC dI a k (va_A (wA a k σ) sz) q) 0 0 (va_A (wA a k σ) sz) := metA (fun A => qAv dC dI a k A q) (plainFor_of_name (by decide)) (Nat.le_of_ble_eq_true rfl) (fun _ _ _ _ _ _ _ _ hC => b_X4_findSources_e_92_62 hC h)

set_option maxRecDepth 100000 in
set_option maxHeartbeats 4000000 in
theorem b_X4_findSources_56_92_74 {p : Program} {l : Launch} {e : Env} {s : State} {m : MethodId} {args : Array Value} {below : List Frame} {meth : Method} {c : Code} {dC : Nat → ClassId} {dI : Nat → Nat → Nat} {a : Nat → Nat} {k : Nat → ClassId} {A : Nat → Prop} {q : ST} (hC : CxA p s m args meth c dC dI k A cX4_findSources RX4 none 5)  {k3 : Int32 → Int32 → Int32 → Int32 → ST → Option (ST)} (hk3 : ∀ (x1 : Int32) (x2 : Int32) (x3 : Int32) (x4 : Int32) (σ : ST), k3 x1 x2 x3 x4 σ = some q → GoA p l e ({ frames := 3, cells := 0, slots := 0, locals := 73 } : Room) s m args below meth c (MQ below (qAv dC dI a k A q) args s 0 0 A) dC dI a k A 5 3 σ [(0, .ref (a 92)), (1, .int x1), (2, .int x2), (3, .int x3), (4, .int x4)] []) {x1 : Int32} {x2 : Int32} {x3 : Int32} {x4 : Int32} {σ : ST} (h : f_X4_findSources_56 k3 92 74 x1 x2 x3 x4 σ = some q) : GoA p l e ({ frames := 3, cells := 0, slots := 0, locals := 73 } : Room) s m args below meth c (MQ below (qAv dC dI a k A q) args s 0 0 A) dC dI a k A 5 56 σ [(0, .ref (a 92)), (1, .int x1), (2, .int x2), (3, .int x3), (4, .int x4)] [] := by
  have hC0 := hC
  obtain ⟨hx, hb, hr, hml, hown, hts, hlocks, hA, hN, hK⟩ := hC0
  intro H locs ls hP hD hS hl
  have hD0 : ∀ σ1 : ST, va_D A (wA a k σ1) := fun σ1 => wA_D hD
  unfold f_X4_findSources_56 at h
  refine lv_iinc (v := (x4 + 1)) (lv' := [(4, .int (x4 + 1)), (0, .ref (a 92)), (1, .int x1), (2, .int x2), (3, .int x3)]) hx hb dX4_findSources_56 hl (k := 4) rfl rfl (by decide) rfl (fun ls hl => ?_)
  refine lv_goto (tgt := 3) hx hb dX4_findSources_59 (by decide) ?_
  exact hk3 _ _ _ _ _ h _ _ _ hP hD hS (lv_sub hl [1, 2, 3, 4, 0] rfl)

set_option maxRecDepth 100000 in
set_option maxHeartbeats 4000000 in
theorem b_X4_findSources_3_92_74 {p : Program} {l : Launch} {e : Env} {s : State} {m : MethodId} {args : Array Value} {below : List Frame} {meth : Method} {c : Code} {dC : Nat → ClassId} {dI : Nat → Nat → Nat} {a : Nat → Nat} {k : Nat → ClassId} {A : Nat → Prop} {q : ST} (hC : CxA p s m args meth c dC dI k A cX4_findSources RX4 none 5)   : ∀ (n : Nat) (x1 : Int32) (x2 : Int32) (x3 : Int32) (x4 : Int32) (σ : ST), f_X4_findSources_3 92 74 n x1 x2 x3 x4 σ = some q → GoA p l e ({ frames := 3, cells := 0, slots := 0, locals := 73 } : Room) s m args below meth c (MQ below (qAv dC dI a k A q) args s 0 0 A) dC dI a k A 5 3 σ [(0, .ref (a 92)), (1, .int x1), (2, .int x2), (3, .int x3), (4, .int x4)] [] := by
  intro n
  induction n with
  | zero =>
    intro x1 x2 x3 x4 σ h
    rw [f_X4_findSources_3] at h
    cases h
  | succ n ih =>
    intro x1 x2 x3 x4 σ h
    have hC0 := hC
    obtain ⟨hx, hb, hr, hml, hown, hts, hlocks, hA, hN, hK⟩ := hC0
    intro H locs ls hP hD hS hl
    have hD0 : ∀ σ1 : ST, va_D A (wA a k σ1) := fun σ1 => wA_D hD
    rw [f_X4_findSources_3] at h
    refine lv_iload hx hb dX4_findSources_3 (lv_at hl 4 rfl) ?_
    refine lv_aload_n hx hb dX4_findSources_5 rfl (lv_at hl 0 rfl) ?_
    refine va_get (D := (dC, dI)) (ci := 4) (C := RX4) (T := TX4) (N := 12) hx hb hts inlX4 hown hK hP 92 gA_92 rfl 0 (by decide) (hts (.fieldLink RX4 37 "ShapeReader$Reading" "shapes" "LShapeReader$Shapes;") mw_10_28) (fun _ h9 => h9) rfl dX4_findSources_6 ?_
    refine lv_iload_n hx hb dX4_findSources_9 rfl (lv_at hl 2 rfl) ?_
    obtain ⟨q1, hc, h⟩ := ib h
    have hF := va_frees hD hS hA
    refine va_calli (va_runV (As := [.int x2]) (rest := [.int x4]) ⟨hx, hb, hml, hown, hts⟩ (s_X5_fieldsOf_4 hc) (cwV 1 hts (gV mw_13_5 mw_1_28 mw_1_29 mw_0_9 mw_49_29) rfl rfl rfl (by decide +kernel) ⟨(Nat.le_of_ble_eq_true rfl), (Nat.le_of_ble_eq_true rfl)⟩) (vV (ci := 5) (q0 := 4) hK hP hD hN rfl gA_4) rfl rfl hl.1 rfl (lv_room (Nat.le_of_ble_eq_true rfl)) dX4_findSources_10 ⟨(Nat.le_of_ble_eq_true rfl), (Nat.le_of_ble_eq_true rfl)⟩) hS (fun q _ h => hF q h) hF (fun r2 u t H locs ht hvm hw hB _ _ hS => ?_)
    obtain rfl : r2 = q1.1 := hw
    replace hP : va_P (dC, dI) vwCl (wA a k q1.2) H := by rw [← ht]; exact hB.1
    replace hD := hD0 (q1.2)
    clear hB hF
    refine lv_icmp_ge (tgt := 62) hx hb dX4_findSources_13 (by decide) (fun hc => ?_) (fun hc => ?_)
    · replace h := ip hc h
      obtain rfl := Option.some.inj h
      exact W.vret hx hb hr (fun t ht hW => ⟨⟨(), rfl, trivial, ⟨by rw [ht]; exact hP, va_K.moved hW.alike hK, hD⟩⟩, hS.F ht⟩) hS.2.2 dX4_findSources_62
    · replace h := iq hc h
      refine lv_iload_n hx hb dX4_findSources_16 rfl (lv_at hl 3 rfl) ?_
      refine lv_if_lt (tgt := 56) hx hb dX4_findSources_17 (by decide) (fun hc => ?_) (fun hc => ?_)
      · replace h := ip hc h
        exact b_X4_findSources_56_92_74 hC ih h _ _ _ hP hD hS (lv_sub hl [0, 1, 2, 3, 4] rfl)
      · replace h := iq hc h
        refine lv_iload_n hx hb dX4_findSources_20 rfl (lv_at hl 3 rfl) ?_
        refine lv_bipush (v := 31) hx hb dX4_findSources_21 (by decide) ?_
        refine lv_icmp_ge (tgt := 56) hx hb dX4_findSources_23 (by decide) (fun hc => ?_) (fun hc => ?_)
        · replace h := ip hc h
          exact b_X4_findSources_56_92_74 hC ih h _ _ _ hP hD hS (lv_sub hl [0, 1, 2, 3, 4] rfl)
        · replace h := iq hc h
          refine lv_iload hx hb dX4_findSources_26 (lv_at hl 4 rfl) ?_
          refine lv_bipush (v := 8) hx hb dX4_findSources_28 (by decide) ?_
          refine lv_icmp_ge (tgt := 56) hx hb dX4_findSources_30 (by decide) (fun hc => ?_) (fun hc => ?_)
          · replace h := ip hc h
            exact b_X4_findSources_56_92_74 hC ih h _ _ _ hP hD hS (lv_sub hl [0, 1, 2, 3, 4] rfl)
          · replace h := iq hc h
            refine lv_aload_n hx hb dX4_findSources_33 rfl (lv_at hl 0 rfl) ?_
            refine va_get (D := (dC, dI)) (ci := 4) (C := RX4) (T := TX4) (N := 12) hx hb hts inlX4 hown hK hP 92 gA_92 rfl 11 (by decide) (hts (.fieldLink RX4 34 "ShapeReader$Reading" "sources" "[I") mw_10_27) (fun _ h9 => h9) rfl dX4_findSources_34 ?_
            refine lv_iload_n hx hb dX4_findSources_37 rfl (lv_at hl 3 rfl) ?_
            refine lv_bipush (v := 8) hx hb dX4_findSources_38 (by decide) ?_
            refine lv_imul hx hb dX4_findSources_40 ?_
            refine lv_iload hx hb dX4_findSources_41 (lv_at hl 4 rfl) ?_
            refine lv_iadd hx hb dX4_findSources_43 ?_
            refine lv_aload_n hx hb dX4_findSources_44 rfl (lv_at hl 0 rfl) ?_
            refine va_get (D := (dC, dI)) (ci := 4) (C := RX4) (T := TX4) (N := 12) hx hb hts inlX4 hown hK hP 92 gA_92 rfl 0 (by decide) (hts (.fieldLink RX4 37 "ShapeReader$Reading" "shapes" "LShapeReader$Shapes;") mw_10_28) (fun _ h9 => h9) rfl dX4_findSources_45 ?_
            refine lv_iload_n hx hb dX4_findSources_48 rfl (lv_at hl 1 rfl) ?_
            refine lv_iload_n hx hb dX4_findSources_49 rfl (lv_at hl 2 rfl) ?_
            refine lv_iload hx hb dX4_findSources_50 (lv_at hl 4 rfl) ?_
            obtain ⟨q3, hc, h⟩ := ib h
            have hF := va_frees hD hS hA
            refine va_calli (va_runV (As := [.int x1, .int x2, .int x4]) (rest := [.int ((x3 * 8) + x4), .ref (a 94)]) ⟨hx, hb, hml, hown, hts⟩ (s_X5_sourceOf_4 hc) (cwV 3 hts (gV mw_13_22 mw_2_1 mw_2_2 mw_0_9 mw_50_15) rfl rfl rfl (by decide +kernel) ⟨(Nat.le_of_ble_eq_true rfl), (Nat.le_of_ble_eq_true rfl)⟩) (vV (ci := 5) (q0 := 4) hK hP hD hN rfl gA_4) rfl rfl hl.1 rfl (lv_room (Nat.le_of_ble_eq_true rfl)) dX4_findSources_52 ⟨(Nat.le_of_ble_eq_true rfl), (Nat.le_of_ble_eq_true rfl)⟩) hS (fun q _ h => hF q h) hF (fun r4 u t H locs ht hvm hw hB _ _ hS => ?_)
            obtain rfl : r4 = q3.1 := hw
            replace hP : va_P (dC, dI) vwCl (wA a k q3.2) H := by rw [← ht]; exact hB.1
            replace hD := hD0 (q3.2)
            clear hB hF
            obtain ⟨hg5, h⟩ := ig h
            refine va_iast hx hb hK hP hD hS 94 79 gA_94 yA_94 (vp_in_iff.mpr hg5) dX4_findSources_55 (fun H locs hP hD hS => ?_)
            replace hP := uA_94 hP
            replace hD := hD0 ((stI q3.2 94 ((x3 * 8) + x4).toNatClampNeg q3.1))
            exact b_X4_findSources_56_92_74 hC ih h _ _ _ hP hD hS (lv_sub hl [0, 1, 2, 3, 4] rfl)

set_option maxRecDepth 100000 in
set_option maxHeartbeats 4000000 in
theorem b_X4_findSources_e_92_74 {p : Program} {l : Launch} {e : Env} {s : State} {m : MethodId} {args : Array Value} {below : List Frame} {meth : Method} {c : Code} {dC : Nat → ClassId} {dI : Nat → Nat → Nat} {a : Nat → Nat} {k : Nat → ClassId} {A : Nat → Prop} {q : ST} (hC : CxA p s m args meth c dC dI k A cX4_findSources RX4 none 5)   {p0 : Int32} {p1 : Int32} {p2 : Int32} {σ : ST} (h : f_X4_findSources 92 74 p0 p1 p2 σ = some q) : GoA p l e ({ frames := 3, cells := 0, slots := 0, locals := 73 } : Room) s m args below meth c (MQ below (qAv dC dI a k A q) args s 0 0 A) dC dI a k A 5 0 σ (lv_args 0 [.ref (a 92), .int p0, .int p1, .int p2]) [] := by
  have hC0 := hC
  obtain ⟨hx, hb, hr, hml, hown, hts, hlocks, hA, hN, hK⟩ := hC0
  intro H locs ls hP hD hS hl
  have hD0 : ∀ σ1 : ST, va_D A (wA a k σ1) := fun σ1 => wA_D hD
  replace hl : lv_has ls 5 [(0, .ref (a 92)), (1, .int p0), (2, .int p1), (3, .int p2)] := hl
  unfold f_X4_findSources at h
  refine lv_iconst (v := 0) hx hb dX4_findSources_0 (by decide) ?_
  refine lv_istore (lv' := [(4, .int 0), (0, .ref (a 92)), (1, .int p0), (2, .int p1), (3, .int p2)]) hx hb dX4_findSources_1 hl (by decide) rfl (fun ls hl => ?_)
  exact b_X4_findSources_3_92_74 hC FU _ _ _ _ _ h _ _ _ hP hD hS (lv_sub hl [1, 2, 3, 4, 0] rfl)

theorem s_X4_findSources_92_74 {l : Launch} {dC : Nat → ClassId} {dI : Nat → Nat → Nat} {a : Nat → Nat} {k : Nat → ClassId} {sz : Nat} {p0 : Int32} {p1 : Int32} {p2 : Int32} {σ : ST} {q : ST} (h : f_X4_findSources 92 74 p0 p1 p2 σ = some q) : Met l yX4_findSources (.code yX4_findSources cX4_findSources 5 none :: pw) ({ frames := 3, cells := 0, slots := 0, locals := 73 } : Room) (va_Pc [.ref (a 92), .int p0, .int p1, .int p2] (vPre dC dI (wA a k σ) (tA k) sz)) (qAv dC dI a k (va_A (wA a k σ) sz) q) 0 0 (va_A (wA a k σ) sz) := metA (fun A => qAv dC dI a k A q) (plainFor_of_name (by decide)) (Nat.le_of_ble_eq_true rfl) (fun _ _ _ _ _ _ _ _ hC => b_X4_findSources_e_92_74 hC h)

def f_X4_sourceAt (b : Nat) (t : Nat) (p0 : Int32) (p1 : Int32) (σ : ST) : Option (Int32 × ST) := if p0 < 0 then (some ((-1), σ)) else (if 31 ≤ p0 then (some ((-1), σ)) else (if p1 < 0 then (some ((-1), σ)) else (if 8 ≤ p1 then (some ((-1), σ)) else (if 0 ≤ ((p0 * 8) + p1).toInt ∧ ((p0 * 8) + p1).toInt < 256 then (some ((σ.1 (b + 2) ((p0 * 8) + p1).toNatClampNeg), σ)) else none))))

set_option maxRecDepth 100000 in
set_option maxHeartbeats 4000000 in
theorem b_X4_sourceAt_e_89_50 {p : Program} {l : Launch} {e : Env} {s : State} {m : MethodId} {args : Array Value} {below : List Frame} {meth : Method} {c : Code} {dC : Nat → ClassId} {dI : Nat → Nat → Nat} {a : Nat → Nat} {k : Nat → ClassId} {A : Nat → Prop} {q : Int32 × ST} (hC : CxA p s m args meth c dC dI k A cX4_sourceAt RX4 (some .int) 3)   {p0 : Int32} {p1 : Int32} {σ : ST} (h : f_X4_sourceAt 89 50 p0 p1 σ = some q) : GoA p l e ({ frames := 0, cells := 0, slots := 0, locals := 0 } : Room) s m args below meth c (MQ below (qAi dC dI a k A q) args s 0 0 A) dC dI a k A 3 0 σ (lv_args 0 [.ref (a 89), .int p0, .int p1]) [] := by
  have hC0 := hC
  obtain ⟨hx, hb, hr, hml, hown, hts, hlocks, hA, hN, hK⟩ := hC0
  intro H locs ls hP hD hS hl
  have hD0 : ∀ σ1 : ST, va_D A (wA a k σ1) := fun σ1 => wA_D hD
  replace hl : lv_has ls 3 [(0, .ref (a 89)), (1, .int p0), (2, .int p1)] := hl
  unfold f_X4_sourceAt at h
  refine lv_iload_n hx hb dX4_sourceAt_0 rfl (lv_at hl 1 rfl) ?_
  refine lv_if_lt (tgt := 34) hx hb dX4_sourceAt_1 (by decide) (fun hc => ?_) (fun hc => ?_)
  · replace h := ip hc h
    refine lv_iconst (v := (-1)) hx hb dX4_sourceAt_34 (by decide) ?_
    obtain rfl := Option.some.inj h
    exact W.iret hx hb hr (fun t ht hW => ⟨⟨_, (), rfl, rfl, ⟨by rw [ht]; exact hP, va_K.moved hW.alike hK, hD⟩⟩, hS.F ht⟩) hS.2.2 dX4_sourceAt_35
  · replace h := iq hc h
    refine lv_iload_n hx hb dX4_sourceAt_4 rfl (lv_at hl 1 rfl) ?_
    refine lv_bipush (v := 31) hx hb dX4_sourceAt_5 (by decide) ?_
    refine lv_icmp_ge (tgt := 34) hx hb dX4_sourceAt_7 (by decide) (fun hc => ?_) (fun hc => ?_)
    · replace h := ip hc h
      refine lv_iconst (v := (-1)) hx hb dX4_sourceAt_34 (by decide) ?_
      obtain rfl := Option.some.inj h
      exact W.iret hx hb hr (fun t ht hW => ⟨⟨_, (), rfl, rfl, ⟨by rw [ht]; exact hP, va_K.moved hW.alike hK, hD⟩⟩, hS.F ht⟩) hS.2.2 dX4_sourceAt_35
    · replace h := iq hc h
      refine lv_iload_n hx hb dX4_sourceAt_10 rfl (lv_at hl 2 rfl) ?_
      refine lv_if_lt (tgt := 34) hx hb dX4_sourceAt_11 (by decide) (fun hc => ?_) (fun hc => ?_)
      · replace h := ip hc h
        refine lv_iconst (v := (-1)) hx hb dX4_sourceAt_34 (by decide) ?_
        obtain rfl := Option.some.inj h
        exact W.iret hx hb hr (fun t ht hW => ⟨⟨_, (), rfl, rfl, ⟨by rw [ht]; exact hP, va_K.moved hW.alike hK, hD⟩⟩, hS.F ht⟩) hS.2.2 dX4_sourceAt_35
      · replace h := iq hc h
        refine lv_iload_n hx hb dX4_sourceAt_14 rfl (lv_at hl 2 rfl) ?_
        refine lv_bipush (v := 8) hx hb dX4_sourceAt_15 (by decide) ?_
        refine lv_icmp_ge (tgt := 34) hx hb dX4_sourceAt_17 (by decide) (fun hc => ?_) (fun hc => ?_)
        · replace h := ip hc h
          refine lv_iconst (v := (-1)) hx hb dX4_sourceAt_34 (by decide) ?_
          obtain rfl := Option.some.inj h
          exact W.iret hx hb hr (fun t ht hW => ⟨⟨_, (), rfl, rfl, ⟨by rw [ht]; exact hP, va_K.moved hW.alike hK, hD⟩⟩, hS.F ht⟩) hS.2.2 dX4_sourceAt_35
        · replace h := iq hc h
          refine lv_aload_n hx hb dX4_sourceAt_20 rfl (lv_at hl 0 rfl) ?_
          refine va_get (D := (dC, dI)) (ci := 4) (C := RX4) (T := TX4) (N := 12) hx hb hts inlX4 hown hK hP 89 gA_89 rfl 11 (by decide) (hts (.fieldLink RX4 34 "ShapeReader$Reading" "sources" "[I") mw_10_27) (fun _ h9 => h9) rfl dX4_sourceAt_21 ?_
          refine lv_iload_n hx hb dX4_sourceAt_24 rfl (lv_at hl 1 rfl) ?_
          refine lv_bipush (v := 8) hx hb dX4_sourceAt_25 (by decide) ?_
          refine lv_imul hx hb dX4_sourceAt_27 ?_
          refine lv_iload_n hx hb dX4_sourceAt_28 rfl (lv_at hl 2 rfl) ?_
          refine lv_iadd hx hb dX4_sourceAt_29 ?_
          obtain ⟨hg1, h⟩ := ig h
          refine va_iald hx hb hK hP 91 77 gA_91 yA_91 (vp_in_iff.mpr hg1) dX4_sourceAt_30 ?_
          refine lv_goto (tgt := 35) hx hb dX4_sourceAt_31 (by decide) ?_
          obtain rfl := Option.some.inj h
          exact W.iret hx hb hr (fun t ht hW => ⟨⟨_, (), rfl, rfl, ⟨by rw [ht]; exact hP, va_K.moved hW.alike hK, hD⟩⟩, hS.F ht⟩) hS.2.2 dX4_sourceAt_35

theorem s_X4_sourceAt_89_50 {l : Launch} {dC : Nat → ClassId} {dI : Nat → Nat → Nat} {a : Nat → Nat} {k : Nat → ClassId} {sz : Nat} {p0 : Int32} {p1 : Int32} {σ : ST} {q : Int32 × ST} (h : f_X4_sourceAt 89 50 p0 p1 σ = some q) : Met l yX4_sourceAt (.code yX4_sourceAt cX4_sourceAt 3 (some .int) :: pw) ({ frames := 0, cells := 0, slots := 0, locals := 0 } : Room) (va_Pc [.ref (a 89), .int p0, .int p1] (vPre dC dI (wA a k σ) (tA k) sz)) (qAi dC dI a k (va_A (wA a k σ) sz) q) 0 0 (va_A (wA a k σ) sz) := metA (fun A => qAi dC dI a k A q) (plainFor_of_name (by decide)) (Nat.le_of_ble_eq_true rfl) (fun _ _ _ _ _ _ _ _ hC => b_X4_sourceAt_e_89_50 hC h)

set_option maxRecDepth 100000 in
set_option maxHeartbeats 4000000 in
theorem b_X4_sourceAt_e_92_62 {p : Program} {l : Launch} {e : Env} {s : State} {m : MethodId} {args : Array Value} {below : List Frame} {meth : Method} {c : Code} {dC : Nat → ClassId} {dI : Nat → Nat → Nat} {a : Nat → Nat} {k : Nat → ClassId} {A : Nat → Prop} {q : Int32 × ST} (hC : CxA p s m args meth c dC dI k A cX4_sourceAt RX4 (some .int) 3)   {p0 : Int32} {p1 : Int32} {σ : ST} (h : f_X4_sourceAt 92 62 p0 p1 σ = some q) : GoA p l e ({ frames := 0, cells := 0, slots := 0, locals := 0 } : Room) s m args below meth c (MQ below (qAi dC dI a k A q) args s 0 0 A) dC dI a k A 3 0 σ (lv_args 0 [.ref (a 92), .int p0, .int p1]) [] := by
  have hC0 := hC
  obtain ⟨hx, hb, hr, hml, hown, hts, hlocks, hA, hN, hK⟩ := hC0
  intro H locs ls hP hD hS hl
  have hD0 : ∀ σ1 : ST, va_D A (wA a k σ1) := fun σ1 => wA_D hD
  replace hl : lv_has ls 3 [(0, .ref (a 92)), (1, .int p0), (2, .int p1)] := hl
  unfold f_X4_sourceAt at h
  refine lv_iload_n hx hb dX4_sourceAt_0 rfl (lv_at hl 1 rfl) ?_
  refine lv_if_lt (tgt := 34) hx hb dX4_sourceAt_1 (by decide) (fun hc => ?_) (fun hc => ?_)
  · replace h := ip hc h
    refine lv_iconst (v := (-1)) hx hb dX4_sourceAt_34 (by decide) ?_
    obtain rfl := Option.some.inj h
    exact W.iret hx hb hr (fun t ht hW => ⟨⟨_, (), rfl, rfl, ⟨by rw [ht]; exact hP, va_K.moved hW.alike hK, hD⟩⟩, hS.F ht⟩) hS.2.2 dX4_sourceAt_35
  · replace h := iq hc h
    refine lv_iload_n hx hb dX4_sourceAt_4 rfl (lv_at hl 1 rfl) ?_
    refine lv_bipush (v := 31) hx hb dX4_sourceAt_5 (by decide) ?_
    refine lv_icmp_ge (tgt := 34) hx hb dX4_sourceAt_7 (by decide) (fun hc => ?_) (fun hc => ?_)
    · replace h := ip hc h
      refine lv_iconst (v := (-1)) hx hb dX4_sourceAt_34 (by decide) ?_
      obtain rfl := Option.some.inj h
      exact W.iret hx hb hr (fun t ht hW => ⟨⟨_, (), rfl, rfl, ⟨by rw [ht]; exact hP, va_K.moved hW.alike hK, hD⟩⟩, hS.F ht⟩) hS.2.2 dX4_sourceAt_35
    · replace h := iq hc h
      refine lv_iload_n hx hb dX4_sourceAt_10 rfl (lv_at hl 2 rfl) ?_
      refine lv_if_lt (tgt := 34) hx hb dX4_sourceAt_11 (by decide) (fun hc => ?_) (fun hc => ?_)
      · replace h := ip hc h
        refine lv_iconst (v := (-1)) hx hb dX4_sourceAt_34 (by decide) ?_
        obtain rfl := Option.some.inj h
        exact W.iret hx hb hr (fun t ht hW => ⟨⟨_, (), rfl, rfl, ⟨by rw [ht]; exact hP, va_K.moved hW.alike hK, hD⟩⟩, hS.F ht⟩) hS.2.2 dX4_sourceAt_35
      · replace h := iq hc h
        refine lv_iload_n hx hb dX4_sourceAt_14 rfl (lv_at hl 2 rfl) ?_
        refine lv_bipush (v := 8) hx hb dX4_sourceAt_15 (by decide) ?_
        refine lv_icmp_ge (tgt := 34) hx hb dX4_sourceAt_17 (by decide) (fun hc => ?_) (fun hc => ?_)
        · replace h := ip hc h
          refine lv_iconst (v := (-1)) hx hb dX4_sourceAt_34 (by decide) ?_
          obtain rfl := Option.some.inj h
          exact W.iret hx hb hr (fun t ht hW => ⟨⟨_, (), rfl, rfl, ⟨by rw [ht]; exact hP, va_K.moved hW.alike hK, hD⟩⟩, hS.F ht⟩) hS.2.2 dX4_sourceAt_35
        · replace h := iq hc h
          refine lv_aload_n hx hb dX4_sourceAt_20 rfl (lv_at hl 0 rfl) ?_
          refine va_get (D := (dC, dI)) (ci := 4) (C := RX4) (T := TX4) (N := 12) hx hb hts inlX4 hown hK hP 92 gA_92 rfl 11 (by decide) (hts (.fieldLink RX4 34 "ShapeReader$Reading" "sources" "[I") mw_10_27) (fun _ h9 => h9) rfl dX4_sourceAt_21 ?_
          refine lv_iload_n hx hb dX4_sourceAt_24 rfl (lv_at hl 1 rfl) ?_
          refine lv_bipush (v := 8) hx hb dX4_sourceAt_25 (by decide) ?_
          refine lv_imul hx hb dX4_sourceAt_27 ?_
          refine lv_iload_n hx hb dX4_sourceAt_28 rfl (lv_at hl 2 rfl) ?_
          refine lv_iadd hx hb dX4_sourceAt_29 ?_
          obtain ⟨hg1, h⟩ := ig h
          refine va_iald hx hb hK hP 94 79 gA_94 yA_94 (vp_in_iff.mpr hg1) dX4_sourceAt_30 ?_
          refine lv_goto (tgt := 35) hx hb dX4_sourceAt_31 (by decide) ?_
          obtain rfl := Option.some.inj h
          exact W.iret hx hb hr (fun t ht hW => ⟨⟨_, (), rfl, rfl, ⟨by rw [ht]; exact hP, va_K.moved hW.alike hK, hD⟩⟩, hS.F ht⟩) hS.2.2 dX4_sourceAt_35

theorem s_X4_sourceAt_92_62 {l : Launch} {dC : Nat → ClassId} {dI : Nat → Nat → Nat} {a : Nat → Nat} {k : Nat → ClassId} {sz : Nat} {p0 : Int32} {p1 : Int32} {σ : ST} {q : Int32 × ST} (h : f_X4_sourceAt 92 62 p0 p1 σ = some q) : Met l yX4_sourceAt (.code yX4_sourceAt cX4_sourceAt 3 (some .int) :: pw) ({ frames := 0, cells := 0, slots := 0, locals := 0 } : Room) (va_Pc [.ref (a 92), .int p0, .int p1] (vPre dC dI (wA a k σ) (tA k) sz)) (qAi dC dI a k (va_A (wA a k σ) sz) q) 0 0 (va_A (wA a k σ) sz) := metA (fun A => qAi dC dI a k A q) (plainFor_of_name (by decide)) (Nat.le_of_ble_eq_true rfl) (fun _ _ _ _ _ _ _ _ hC => b_X4_sourceAt_e_92_62 hC h)

set_option maxRecDepth 100000 in
set_option maxHeartbeats 4000000 in
theorem b_X4_sourceAt_e_92_74 {p : Program} {l : Launch} {e : Env} {s : State} {m : MethodId} {args : Array Value} {below : List Frame} {meth : Method} {c : Code} {dC : Nat → ClassId} {dI : Nat → Nat → Nat} {a : Nat → Nat} {k : Nat → ClassId} {A : Nat → Prop} {q : Int32 × ST} (hC : CxA p s m args meth c dC dI k A cX4_sourceAt RX4 (some .int) 3)   {p0 : Int32} {p1 : Int32} {σ : ST} (h : f_X4_sourceAt 92 74 p0 p1 σ = some q) : GoA p l e ({ frames := 0, cells := 0, slots := 0, locals := 0 } : Room) s m args below meth c (MQ below (qAi dC dI a k A q) args s 0 0 A) dC dI a k A 3 0 σ (lv_args 0 [.ref (a 92), .int p0, .int p1]) [] := by
  have hC0 := hC
  obtain ⟨hx, hb, hr, hml, hown, hts, hlocks, hA, hN, hK⟩ := hC0
  intro H locs ls hP hD hS hl
  have hD0 : ∀ σ1 : ST, va_D A (wA a k σ1) := fun σ1 => wA_D hD
  replace hl : lv_has ls 3 [(0, .ref (a 92)), (1, .int p0), (2, .int p1)] := hl
  unfold f_X4_sourceAt at h
  refine lv_iload_n hx hb dX4_sourceAt_0 rfl (lv_at hl 1 rfl) ?_
  refine lv_if_lt (tgt := 34) hx hb dX4_sourceAt_1 (by decide) (fun hc => ?_) (fun hc => ?_)
  · replace h := ip hc h
    refine lv_iconst (v := (-1)) hx hb dX4_sourceAt_34 (by decide) ?_
    obtain rfl := Option.some.inj h
    exact W.iret hx hb hr (fun t ht hW => ⟨⟨_, (), rfl, rfl, ⟨by rw [ht]; exact hP, va_K.moved hW.alike hK, hD⟩⟩, hS.F ht⟩) hS.2.2 dX4_sourceAt_35
  · replace h := iq hc h
    refine lv_iload_n hx hb dX4_sourceAt_4 rfl (lv_at hl 1 rfl) ?_
    refine lv_bipush (v := 31) hx hb dX4_sourceAt_5 (by decide) ?_
    refine lv_icmp_ge (tgt := 34) hx hb dX4_sourceAt_7 (by decide) (fun hc => ?_) (fun hc => ?_)
    · replace h := ip hc h
      refine lv_iconst (v := (-1)) hx hb dX4_sourceAt_34 (by decide) ?_
      obtain rfl := Option.some.inj h
      exact W.iret hx hb hr (fun t ht hW => ⟨⟨_, (), rfl, rfl, ⟨by rw [ht]; exact hP, va_K.moved hW.alike hK, hD⟩⟩, hS.F ht⟩) hS.2.2 dX4_sourceAt_35
    · replace h := iq hc h
      refine lv_iload_n hx hb dX4_sourceAt_10 rfl (lv_at hl 2 rfl) ?_
      refine lv_if_lt (tgt := 34) hx hb dX4_sourceAt_11 (by decide) (fun hc => ?_) (fun hc => ?_)
      · replace h := ip hc h
        refine lv_iconst (v := (-1)) hx hb dX4_sourceAt_34 (by decide) ?_
        obtain rfl := Option.some.inj h
        exact W.iret hx hb hr (fun t ht hW => ⟨⟨_, (), rfl, rfl, ⟨by rw [ht]; exact hP, va_K.moved hW.alike hK, hD⟩⟩, hS.F ht⟩) hS.2.2 dX4_sourceAt_35
      · replace h := iq hc h
        refine lv_iload_n hx hb dX4_sourceAt_14 rfl (lv_at hl 2 rfl) ?_
        refine lv_bipush (v := 8) hx hb dX4_sourceAt_15 (by decide) ?_
        refine lv_icmp_ge (tgt := 34) hx hb dX4_sourceAt_17 (by decide) (fun hc => ?_) (fun hc => ?_)
        · replace h := ip hc h
          refine lv_iconst (v := (-1)) hx hb dX4_sourceAt_34 (by decide) ?_
          obtain rfl := Option.some.inj h
          exact W.iret hx hb hr (fun t ht hW => ⟨⟨_, (), rfl, rfl, ⟨by rw [ht]; exact hP, va_K.moved hW.alike hK, hD⟩⟩, hS.F ht⟩) hS.2.2 dX4_sourceAt_35
        · replace h := iq hc h
          refine lv_aload_n hx hb dX4_sourceAt_20 rfl (lv_at hl 0 rfl) ?_
          refine va_get (D := (dC, dI)) (ci := 4) (C := RX4) (T := TX4) (N := 12) hx hb hts inlX4 hown hK hP 92 gA_92 rfl 11 (by decide) (hts (.fieldLink RX4 34 "ShapeReader$Reading" "sources" "[I") mw_10_27) (fun _ h9 => h9) rfl dX4_sourceAt_21 ?_
          refine lv_iload_n hx hb dX4_sourceAt_24 rfl (lv_at hl 1 rfl) ?_
          refine lv_bipush (v := 8) hx hb dX4_sourceAt_25 (by decide) ?_
          refine lv_imul hx hb dX4_sourceAt_27 ?_
          refine lv_iload_n hx hb dX4_sourceAt_28 rfl (lv_at hl 2 rfl) ?_
          refine lv_iadd hx hb dX4_sourceAt_29 ?_
          obtain ⟨hg1, h⟩ := ig h
          refine va_iald hx hb hK hP 94 79 gA_94 yA_94 (vp_in_iff.mpr hg1) dX4_sourceAt_30 ?_
          refine lv_goto (tgt := 35) hx hb dX4_sourceAt_31 (by decide) ?_
          obtain rfl := Option.some.inj h
          exact W.iret hx hb hr (fun t ht hW => ⟨⟨_, (), rfl, rfl, ⟨by rw [ht]; exact hP, va_K.moved hW.alike hK, hD⟩⟩, hS.F ht⟩) hS.2.2 dX4_sourceAt_35

theorem s_X4_sourceAt_92_74 {l : Launch} {dC : Nat → ClassId} {dI : Nat → Nat → Nat} {a : Nat → Nat} {k : Nat → ClassId} {sz : Nat} {p0 : Int32} {p1 : Int32} {σ : ST} {q : Int32 × ST} (h : f_X4_sourceAt 92 74 p0 p1 σ = some q) : Met l yX4_sourceAt (.code yX4_sourceAt cX4_sourceAt 3 (some .int) :: pw) ({ frames := 0, cells := 0, slots := 0, locals := 0 } : Room) (va_Pc [.ref (a 92), .int p0, .int p1] (vPre dC dI (wA a k σ) (tA k) sz)) (qAi dC dI a k (va_A (wA a k σ) sz) q) 0 0 (va_A (wA a k σ) sz) := metA (fun A => qAi dC dI a k A q) (plainFor_of_name (by decide)) (Nat.le_of_ble_eq_true rfl) (fun _ _ _ _ _ _ _ _ hC => b_X4_sourceAt_e_92_74 hC h)

def f_X5_branchOf_23 (b : Nat) : Nat → Int32 → Int32 → Int32 → ST → Option (Int32 × ST)
  | 0, _, _, _, _ => none
  | n + 1, x2, x3, x4, σ => if x2 ≤ x4 then (some (x3, σ)) else (if 4 ≤ x4 then (some (x3, σ)) else ((f_X5_branchAfter b x3 σ).bind fun q1 => f_X5_branchOf_23 b n x2 q1.1 (x4 + 1) q1.2))
def f_X5_branchOf_19 (b : Nat) (x2 : Int32) (y0 : Int32) (σ : ST) : Option (Int32 × ST) := f_X5_branchOf_23 b FU x2 y0 0 σ
def f_X5_branchOf (b : Nat) (p0 : Int32) (p1 : Int32) (σ : ST) : Option (Int32 × ST) := (f_X5_sortOf b p0 σ).bind fun q1 => if q1.1 = 8 then ((f_X5_innerOf b p0 q1.2).bind fun q3 => f_X5_branchOf_19 b p1 q3.1 q3.2) else (f_X5_branchOf_19 b p1 (-1) q1.2)

set_option maxRecDepth 100000 in
set_option maxHeartbeats 4000000 in
theorem b_X5_branchOf_23_4 {p : Program} {l : Launch} {e : Env} {s : State} {m : MethodId} {args : Array Value} {below : List Frame} {meth : Method} {c : Code} {dC : Nat → ClassId} {dI : Nat → Nat → Nat} {a : Nat → Nat} {k : Nat → ClassId} {A : Nat → Prop} {q : Int32 × ST} (hC : CxA p s m args meth c dC dI k A cX5_branchOf RX5 (some .int) 5)   : ∀ (n : Nat) (x2 : Int32) (x3 : Int32) (x4 : Int32) (σ : ST), f_X5_branchOf_23 4 n x2 x3 x4 σ = some q → GoA p l e ({ frames := 2, cells := 0, slots := 0, locals := 42 } : Room) s m args below meth c (MQ below (qAi dC dI a k A q) args s 0 0 A) dC dI a k A 5 23 σ [(0, .ref (a 4)), (2, .int x2), (3, .int x3), (4, .int x4)] [] := by
  intro n
  induction n with
  | zero =>
    intro x2 x3 x4 σ h
    rw [f_X5_branchOf_23] at h
    cases h
  | succ n ih =>
    intro x2 x3 x4 σ h
    have hC0 := hC
    obtain ⟨hx, hb, hr, hml, hown, hts, hlocks, hA, hN, hK⟩ := hC0
    intro H locs ls hP hD hS hl
    have hD0 : ∀ σ1 : ST, va_D A (wA a k σ1) := fun σ1 => wA_D hD
    rw [f_X5_branchOf_23] at h
    refine lv_iload hx hb dX5_branchOf_23 (lv_at hl 3 rfl) ?_
    refine lv_iload_n hx hb dX5_branchOf_25 rfl (lv_at hl 1 rfl) ?_
    refine lv_icmp_ge (tgt := 47) hx hb dX5_branchOf_26 (by decide) (fun hc => ?_) (fun hc => ?_)
    · replace h := ip hc h
      refine lv_iload_n hx hb dX5_branchOf_47 rfl (lv_at hl 2 rfl) ?_
      obtain rfl := Option.some.inj h
      exact W.iret hx hb hr (fun t ht hW => ⟨⟨_, (), rfl, rfl, ⟨by rw [ht]; exact hP, va_K.moved hW.alike hK, hD⟩⟩, hS.F ht⟩) hS.2.2 dX5_branchOf_48
    · replace h := iq hc h
      refine lv_iload hx hb dX5_branchOf_29 (lv_at hl 3 rfl) ?_
      refine lv_iconst (v := 4) hx hb dX5_branchOf_31 (by decide) ?_
      refine lv_icmp_ge (tgt := 47) hx hb dX5_branchOf_32 (by decide) (fun hc => ?_) (fun hc => ?_)
      · replace h := ip hc h
        refine lv_iload_n hx hb dX5_branchOf_47 rfl (lv_at hl 2 rfl) ?_
        obtain rfl := Option.some.inj h
        exact W.iret hx hb hr (fun t ht hW => ⟨⟨_, (), rfl, rfl, ⟨by rw [ht]; exact hP, va_K.moved hW.alike hK, hD⟩⟩, hS.F ht⟩) hS.2.2 dX5_branchOf_48
      · replace h := iq hc h
        refine lv_aload_n hx hb dX5_branchOf_35 rfl (lv_at hl 0 rfl) ?_
        refine lv_iload_n hx hb dX5_branchOf_36 rfl (lv_at hl 2 rfl) ?_
        obtain ⟨q1, hc, h⟩ := ib h
        have hF := va_frees hD hS hA
        refine va_calli (va_runV (As := [.int x3]) (rest := []) ⟨hx, hb, hml, hown, hts⟩ (s_X5_branchAfter_4 hc) (cwV 1 hts (gV mw_15_14 mw_2_19 mw_2_20 mw_0_9 mw_50_8) rfl rfl rfl (by decide +kernel) ⟨(Nat.le_of_ble_eq_true rfl), (Nat.le_of_ble_eq_true rfl)⟩) (vV (ci := 5) (q0 := 4) hK hP hD hN rfl gA_4) rfl rfl hl.1 rfl (lv_room (Nat.le_of_ble_eq_true rfl)) dX5_branchOf_37 ⟨(Nat.le_of_ble_eq_true rfl), (Nat.le_of_ble_eq_true rfl)⟩) hS (fun q _ h => hF q h) hF (fun r2 u t H locs ht hvm hw hB _ _ hS => ?_)
        obtain rfl : r2 = q1.1 := hw
        replace hP : va_P (dC, dI) vwCl (wA a k q1.2) H := by rw [← ht]; exact hB.1
        replace hD := hD0 (q1.2)
        clear hB hF
        refine lv_istore_n (lv' := [(3, .int q1.1), (0, .ref (a 4)), (2, .int x2), (4, .int x4)]) hx hb dX5_branchOf_40 rfl hl (by decide) rfl (fun ls hl => ?_)
        refine lv_iinc (v := (x4 + 1)) (lv' := [(4, .int (x4 + 1)), (3, .int q1.1), (0, .ref (a 4)), (2, .int x2)]) hx hb dX5_branchOf_41 hl (k := 3) rfl rfl (by decide) rfl (fun ls hl => ?_)
        refine lv_goto (tgt := 23) hx hb dX5_branchOf_44 (by decide) ?_
        exact ih _ _ _ _ h _ _ _ hP hD hS (lv_sub hl [2, 3, 1, 0] rfl)

set_option maxRecDepth 100000 in
set_option maxHeartbeats 4000000 in
theorem b_X5_branchOf_19_4 {p : Program} {l : Launch} {e : Env} {s : State} {m : MethodId} {args : Array Value} {below : List Frame} {meth : Method} {c : Code} {dC : Nat → ClassId} {dI : Nat → Nat → Nat} {a : Nat → Nat} {k : Nat → ClassId} {A : Nat → Prop} {q : Int32 × ST} (hC : CxA p s m args meth c dC dI k A cX5_branchOf RX5 (some .int) 5)   {x2 : Int32} {y0 : Int32} {σ : ST} (h : f_X5_branchOf_19 4 x2 y0 σ = some q) : GoA p l e ({ frames := 2, cells := 0, slots := 0, locals := 42 } : Room) s m args below meth c (MQ below (qAi dC dI a k A q) args s 0 0 A) dC dI a k A 5 19 σ [(0, .ref (a 4)), (2, .int x2)] [.int y0] := by
  have hC0 := hC
  obtain ⟨hx, hb, hr, hml, hown, hts, hlocks, hA, hN, hK⟩ := hC0
  intro H locs ls hP hD hS hl
  have hD0 : ∀ σ1 : ST, va_D A (wA a k σ1) := fun σ1 => wA_D hD
  unfold f_X5_branchOf_19 at h
  refine lv_istore_n (lv' := [(3, .int y0), (0, .ref (a 4)), (2, .int x2)]) hx hb dX5_branchOf_19 rfl hl (by decide) rfl (fun ls hl => ?_)
  refine lv_iconst (v := 0) hx hb dX5_branchOf_20 (by decide) ?_
  refine lv_istore (lv' := [(4, .int 0), (3, .int y0), (0, .ref (a 4)), (2, .int x2)]) hx hb dX5_branchOf_21 hl (by decide) rfl (fun ls hl => ?_)
  exact b_X5_branchOf_23_4 hC FU _ _ _ _ h _ _ _ hP hD hS (lv_sub hl [2, 3, 1, 0] rfl)

set_option maxRecDepth 100000 in
set_option maxHeartbeats 4000000 in
theorem b_X5_branchOf_e_4 {p : Program} {l : Launch} {e : Env} {s : State} {m : MethodId} {args : Array Value} {below : List Frame} {meth : Method} {c : Code} {dC : Nat → ClassId} {dI : Nat → Nat → Nat} {a : Nat → Nat} {k : Nat → ClassId} {A : Nat → Prop} {q : Int32 × ST} (hC : CxA p s m args meth c dC dI k A cX5_branchOf RX5 (some .int) 5)   {p0 : Int32} {p1 : Int32} {σ : ST} (h : f_X5_branchOf 4 p0 p1 σ = some q) : GoA p l e ({ frames := 2, cells := 0, slots := 0, locals := 42 } : Room) s m args below meth c (MQ below (qAi dC dI a k A q) args s 0 0 A) dC dI a k A 5 0 σ (lv_args 0 [.ref (a 4), .int p0, .int p1]) [] := by
  have hC0 := hC
  obtain ⟨hx, hb, hr, hml, hown, hts, hlocks, hA, hN, hK⟩ := hC0
  intro H locs ls hP hD hS hl
  have hD0 : ∀ σ1 : ST, va_D A (wA a k σ1) := fun σ1 => wA_D hD
  replace hl : lv_has ls 5 [(0, .ref (a 4)), (1, .int p0), (2, .int p1)] := hl
  unfold f_X5_branchOf at h
  refine lv_aload_n hx hb dX5_branchOf_0 rfl (lv_at hl 0 rfl) ?_
  refine lv_iload_n hx hb dX5_branchOf_1 rfl (lv_at hl 1 rfl) ?_
  obtain ⟨q1, hc, h⟩ := ib h
  have hF := va_frees hD hS hA
  refine va_calli (va_runV (As := [.int p0]) (rest := []) ⟨hx, hb, hml, hown, hts⟩ (s_X5_sortOf_4 hc) (cwV 1 hts (gV mw_15_12 mw_2_13 mw_2_14 mw_0_9 mw_50_6) rfl rfl rfl (by decide +kernel) ⟨(Nat.le_of_ble_eq_true rfl), (Nat.le_of_ble_eq_true rfl)⟩) (vV (ci := 5) (q0 := 4) hK hP hD hN rfl gA_4) rfl rfl hl.1 rfl (lv_room (Nat.le_of_ble_eq_true rfl)) dX5_branchOf_2 ⟨(Nat.le_of_ble_eq_true rfl), (Nat.le_of_ble_eq_true rfl)⟩) hS (fun q _ h => hF q h) hF (fun r2 u t H locs ht hvm hw hB _ _ hS => ?_)
  obtain rfl : r2 = q1.1 := hw
  replace hP : va_P (dC, dI) vwCl (wA a k q1.2) H := by rw [← ht]; exact hB.1
  replace hD := hD0 (q1.2)
  clear hB hF
  refine lv_bipush (v := 8) hx hb dX5_branchOf_5 (by decide) ?_
  refine lv_icmp_ne (tgt := 18) hx hb dX5_branchOf_7 (by decide) (fun hc => ?_) (fun hc => ?_)
  · replace h := iq hc h
    refine lv_iconst (v := (-1)) hx hb dX5_branchOf_18 (by decide) ?_
    exact b_X5_branchOf_19_4 hC h _ _ _ hP hD hS (lv_sub hl [0, 2] rfl)
  · replace h := ip hc h
    refine lv_aload_n hx hb dX5_branchOf_10 rfl (lv_at hl 0 rfl) ?_
    refine lv_iload_n hx hb dX5_branchOf_11 rfl (lv_at hl 1 rfl) ?_
    obtain ⟨q3, hc, h⟩ := ib h
    have hF := va_frees hD hS hA
    refine va_calli (va_runV (As := [.int p0]) (rest := []) ⟨hx, hb, hml, hown, hts⟩ (s_X5_innerOf_4 hc) (cwV 1 hts (gV mw_15_13 mw_2_16 mw_2_17 mw_0_9 mw_50_7) rfl rfl rfl (by decide +kernel) ⟨(Nat.le_of_ble_eq_true rfl), (Nat.le_of_ble_eq_true rfl)⟩) (vV (ci := 5) (q0 := 4) hK hP hD hN rfl gA_4) rfl rfl hl.1 rfl (lv_room (Nat.le_of_ble_eq_true rfl)) dX5_branchOf_12 ⟨(Nat.le_of_ble_eq_true rfl), (Nat.le_of_ble_eq_true rfl)⟩) hS (fun q _ h => hF q h) hF (fun r4 u t H locs ht hvm hw hB _ _ hS => ?_)
    obtain rfl : r4 = q3.1 := hw
    replace hP : va_P (dC, dI) vwCl (wA a k q3.2) H := by rw [← ht]; exact hB.1
    replace hD := hD0 (q3.2)
    clear hB hF
    refine lv_goto (tgt := 19) hx hb dX5_branchOf_15 (by decide) ?_
    exact b_X5_branchOf_19_4 hC h _ _ _ hP hD hS (lv_sub hl [0, 2] rfl)

theorem s_X5_branchOf_4 {l : Launch} {dC : Nat → ClassId} {dI : Nat → Nat → Nat} {a : Nat → Nat} {k : Nat → ClassId} {sz : Nat} {p0 : Int32} {p1 : Int32} {σ : ST} {q : Int32 × ST} (h : f_X5_branchOf 4 p0 p1 σ = some q) : Met l yX5_branchOf (.code yX5_branchOf cX5_branchOf 5 (some .int) :: pw) ({ frames := 2, cells := 0, slots := 0, locals := 42 } : Room) (va_Pc [.ref (a 4), .int p0, .int p1] (vPre dC dI (wA a k σ) (tA k) sz)) (qAi dC dI a k (va_A (wA a k σ) sz) q) 0 0 (va_A (wA a k σ) sz) := metA (fun A => qAi dC dI a k A q) (plainFor_of_name (by decide)) (Nat.le_of_ble_eq_true rfl) (fun _ _ _ _ _ _ _ _ hC => b_X5_branchOf_e_4 hC h)

def f_X5_branchesOf_20 (b : Nat) : Nat → Int32 → Int32 → ST → Option (Int32 × ST)
  | 0, _, _, _ => none
  | n + 1, x2, x3, σ => if x3 = (-1) then (some (x2, σ)) else (if 4 ≤ x2 then (some (x2, σ)) else ((f_X5_branchAfter b x3 σ).bind fun q1 => f_X5_branchesOf_20 b n (x2 + 1) q1.1 q1.2))
def f_X5_branchesOf (b : Nat) (p0 : Int32) (σ : ST) : Option (Int32 × ST) := (f_X5_sortOf b p0 σ).bind fun q1 => if q1.1 = 8 then ((f_X5_innerOf b p0 q1.2).bind fun q3 => f_X5_branchesOf_20 b FU 0 q3.1 q3.2) else (some (0, q1.2))

set_option maxRecDepth 100000 in
set_option maxHeartbeats 4000000 in
theorem b_X5_branchesOf_20_4 {p : Program} {l : Launch} {e : Env} {s : State} {m : MethodId} {args : Array Value} {below : List Frame} {meth : Method} {c : Code} {dC : Nat → ClassId} {dI : Nat → Nat → Nat} {a : Nat → Nat} {k : Nat → ClassId} {A : Nat → Prop} {q : Int32 × ST} (hC : CxA p s m args meth c dC dI k A cX5_branchesOf RX5 (some .int) 4)   : ∀ (n : Nat) (x2 : Int32) (x3 : Int32) (σ : ST), f_X5_branchesOf_20 4 n x2 x3 σ = some q → GoA p l e ({ frames := 2, cells := 0, slots := 0, locals := 42 } : Room) s m args below meth c (MQ below (qAi dC dI a k A q) args s 0 0 A) dC dI a k A 4 20 σ [(0, .ref (a 4)), (2, .int x2), (3, .int x3)] [] := by
  intro n
  induction n with
  | zero =>
    intro x2 x3 σ h
    rw [f_X5_branchesOf_20] at h
    cases h
  | succ n ih =>
    intro x2 x3 σ h
    have hC0 := hC
    obtain ⟨hx, hb, hr, hml, hown, hts, hlocks, hA, hN, hK⟩ := hC0
    intro H locs ls hP hD hS hl
    have hD0 : ∀ σ1 : ST, va_D A (wA a k σ1) := fun σ1 => wA_D hD
    rw [f_X5_branchesOf_20] at h
    refine lv_iload_n hx hb dX5_branchesOf_20 rfl (lv_at hl 2 rfl) ?_
    refine lv_iconst (v := (-1)) hx hb dX5_branchesOf_21 (by decide) ?_
    refine lv_icmp_eq (tgt := 42) hx hb dX5_branchesOf_22 (by decide) (fun hc => ?_) (fun hc => ?_)
    · replace h := ip hc h
      refine lv_iload_n hx hb dX5_branchesOf_42 rfl (lv_at hl 1 rfl) ?_
      obtain rfl := Option.some.inj h
      exact W.iret hx hb hr (fun t ht hW => ⟨⟨_, (), rfl, rfl, ⟨by rw [ht]; exact hP, va_K.moved hW.alike hK, hD⟩⟩, hS.F ht⟩) hS.2.2 dX5_branchesOf_43
    · replace h := iq hc h
      refine lv_iload_n hx hb dX5_branchesOf_25 rfl (lv_at hl 1 rfl) ?_
      refine lv_iconst (v := 4) hx hb dX5_branchesOf_26 (by decide) ?_
      refine lv_icmp_ge (tgt := 42) hx hb dX5_branchesOf_27 (by decide) (fun hc => ?_) (fun hc => ?_)
      · replace h := ip hc h
        refine lv_iload_n hx hb dX5_branchesOf_42 rfl (lv_at hl 1 rfl) ?_
        obtain rfl := Option.some.inj h
        exact W.iret hx hb hr (fun t ht hW => ⟨⟨_, (), rfl, rfl, ⟨by rw [ht]; exact hP, va_K.moved hW.alike hK, hD⟩⟩, hS.F ht⟩) hS.2.2 dX5_branchesOf_43
      · replace h := iq hc h
        refine lv_iinc (v := (x2 + 1)) (lv' := [(2, .int (x2 + 1)), (0, .ref (a 4)), (3, .int x3)]) hx hb dX5_branchesOf_30 hl (k := 1) rfl rfl (by decide) rfl (fun ls hl => ?_)
        refine lv_aload_n hx hb dX5_branchesOf_33 rfl (lv_at hl 1 rfl) ?_
        refine lv_iload_n hx hb dX5_branchesOf_34 rfl (lv_at hl 2 rfl) ?_
        obtain ⟨q1, hc, h⟩ := ib h
        have hF := va_frees hD hS hA
        refine va_calli (va_runV (As := [.int x3]) (rest := []) ⟨hx, hb, hml, hown, hts⟩ (s_X5_branchAfter_4 hc) (cwV 1 hts (gV mw_15_14 mw_2_19 mw_2_20 mw_0_9 mw_50_8) rfl rfl rfl (by decide +kernel) ⟨(Nat.le_of_ble_eq_true rfl), (Nat.le_of_ble_eq_true rfl)⟩) (vV (ci := 5) (q0 := 4) hK hP hD hN rfl gA_4) rfl rfl hl.1 rfl (lv_room (Nat.le_of_ble_eq_true rfl)) dX5_branchesOf_35 ⟨(Nat.le_of_ble_eq_true rfl), (Nat.le_of_ble_eq_true rfl)⟩) hS (fun q _ h => hF q h) hF (fun r2 u t H locs ht hvm hw hB _ _ hS => ?_)
        obtain rfl : r2 = q1.1 := hw
        replace hP : va_P (dC, dI) vwCl (wA a k q1.2) H := by rw [← ht]; exact hB.1
        replace hD := hD0 (q1.2)
        clear hB hF
        refine lv_istore_n (lv' := [(3, .int q1.1), (2, .int (x2 + 1)), (0, .ref (a 4))]) hx hb dX5_branchesOf_38 rfl hl (by decide) rfl (fun ls hl => ?_)
        refine lv_goto (tgt := 20) hx hb dX5_branchesOf_39 (by decide) ?_
        exact ih _ _ _ h _ _ _ hP hD hS (lv_sub hl [2, 1, 0] rfl)

set_option maxRecDepth 100000 in
set_option maxHeartbeats 4000000 in
theorem b_X5_branchesOf_e_4 {p : Program} {l : Launch} {e : Env} {s : State} {m : MethodId} {args : Array Value} {below : List Frame} {meth : Method} {c : Code} {dC : Nat → ClassId} {dI : Nat → Nat → Nat} {a : Nat → Nat} {k : Nat → ClassId} {A : Nat → Prop} {q : Int32 × ST} (hC : CxA p s m args meth c dC dI k A cX5_branchesOf RX5 (some .int) 4)   {p0 : Int32} {σ : ST} (h : f_X5_branchesOf 4 p0 σ = some q) : GoA p l e ({ frames := 2, cells := 0, slots := 0, locals := 42 } : Room) s m args below meth c (MQ below (qAi dC dI a k A q) args s 0 0 A) dC dI a k A 4 0 σ (lv_args 0 [.ref (a 4), .int p0]) [] := by
  have hC0 := hC
  obtain ⟨hx, hb, hr, hml, hown, hts, hlocks, hA, hN, hK⟩ := hC0
  intro H locs ls hP hD hS hl
  have hD0 : ∀ σ1 : ST, va_D A (wA a k σ1) := fun σ1 => wA_D hD
  replace hl : lv_has ls 4 [(0, .ref (a 4)), (1, .int p0)] := hl
  unfold f_X5_branchesOf at h
  refine lv_aload_n hx hb dX5_branchesOf_0 rfl (lv_at hl 0 rfl) ?_
  refine lv_iload_n hx hb dX5_branchesOf_1 rfl (lv_at hl 1 rfl) ?_
  obtain ⟨q1, hc, h⟩ := ib h
  have hF := va_frees hD hS hA
  refine va_calli (va_runV (As := [.int p0]) (rest := []) ⟨hx, hb, hml, hown, hts⟩ (s_X5_sortOf_4 hc) (cwV 1 hts (gV mw_15_12 mw_2_13 mw_2_14 mw_0_9 mw_50_6) rfl rfl rfl (by decide +kernel) ⟨(Nat.le_of_ble_eq_true rfl), (Nat.le_of_ble_eq_true rfl)⟩) (vV (ci := 5) (q0 := 4) hK hP hD hN rfl gA_4) rfl rfl hl.1 rfl (lv_room (Nat.le_of_ble_eq_true rfl)) dX5_branchesOf_2 ⟨(Nat.le_of_ble_eq_true rfl), (Nat.le_of_ble_eq_true rfl)⟩) hS (fun q _ h => hF q h) hF (fun r2 u t H locs ht hvm hw hB _ _ hS => ?_)
  obtain rfl : r2 = q1.1 := hw
  replace hP : va_P (dC, dI) vwCl (wA a k q1.2) H := by rw [← ht]; exact hB.1
  replace hD := hD0 (q1.2)
  clear hB hF
  refine lv_bipush (v := 8) hx hb dX5_branchesOf_5 (by decide) ?_
  refine lv_icmp_eq (tgt := 12) hx hb dX5_branchesOf_7 (by decide) (fun hc => ?_) (fun hc => ?_)
  · replace h := ip hc h
    refine lv_iconst (v := 0) hx hb dX5_branchesOf_12 (by decide) ?_
    refine lv_istore_n (lv' := [(2, .int 0), (0, .ref (a 4)), (1, .int p0)]) hx hb dX5_branchesOf_13 rfl hl (by decide) rfl (fun ls hl => ?_)
    refine lv_aload_n hx hb dX5_branchesOf_14 rfl (lv_at hl 1 rfl) ?_
    refine lv_iload_n hx hb dX5_branchesOf_15 rfl (lv_at hl 2 rfl) ?_
    obtain ⟨q3, hc, h⟩ := ib h
    have hF := va_frees hD hS hA
    refine va_calli (va_runV (As := [.int p0]) (rest := []) ⟨hx, hb, hml, hown, hts⟩ (s_X5_innerOf_4 hc) (cwV 1 hts (gV mw_15_13 mw_2_16 mw_2_17 mw_0_9 mw_50_7) rfl rfl rfl (by decide +kernel) ⟨(Nat.le_of_ble_eq_true rfl), (Nat.le_of_ble_eq_true rfl)⟩) (vV (ci := 5) (q0 := 4) hK hP hD hN rfl gA_4) rfl rfl hl.1 rfl (lv_room (Nat.le_of_ble_eq_true rfl)) dX5_branchesOf_16 ⟨(Nat.le_of_ble_eq_true rfl), (Nat.le_of_ble_eq_true rfl)⟩) hS (fun q _ h => hF q h) hF (fun r4 u t H locs ht hvm hw hB _ _ hS => ?_)
    obtain rfl : r4 = q3.1 := hw
    replace hP : va_P (dC, dI) vwCl (wA a k q3.2) H := by rw [← ht]; exact hB.1
    replace hD := hD0 (q3.2)
    clear hB hF
    refine lv_istore_n (lv' := [(3, .int q3.1), (2, .int 0), (0, .ref (a 4)), (1, .int p0)]) hx hb dX5_branchesOf_19 rfl hl (by decide) rfl (fun ls hl => ?_)
    exact b_X5_branchesOf_20_4 hC FU _ _ _ h _ _ _ hP hD hS (lv_sub hl [2, 1, 0] rfl)
  · replace h := iq hc h
    refine lv_iconst (v := 0) hx hb dX5_branchesOf_10 (by decide) ?_
    obtain rfl := Option.some.inj h
    exact W.iret hx hb hr (fun t ht hW => ⟨⟨_, (), rfl, rfl, ⟨by rw [ht]; exact hP, va_K.moved hW.alike hK, hD⟩⟩, hS.F ht⟩) hS.2.2 dX5_branchesOf_11

theorem s_X5_branchesOf_4 {l : Launch} {dC : Nat → ClassId} {dI : Nat → Nat → Nat} {a : Nat → Nat} {k : Nat → ClassId} {sz : Nat} {p0 : Int32} {σ : ST} {q : Int32 × ST} (h : f_X5_branchesOf 4 p0 σ = some q) : Met l yX5_branchesOf (.code yX5_branchesOf cX5_branchesOf 4 (some .int) :: pw) ({ frames := 2, cells := 0, slots := 0, locals := 42 } : Room) (va_Pc [.ref (a 4), .int p0] (vPre dC dI (wA a k σ) (tA k) sz)) (qAi dC dI a k (va_A (wA a k σ) sz) q) 0 0 (va_A (wA a k σ) sz) := metA (fun A => qAi dC dI a k A q) (plainFor_of_name (by decide)) (Nat.le_of_ble_eq_true rfl) (fun _ _ _ _ _ _ _ _ hC => b_X5_branchesOf_e_4 hC h)
