theorem dX3_parseBranches_0 : decode cX3_parseBranches 0 = .ok (.sipush 256, 3) := by decide +kernel
theorem dX3_parseBranches_3 : decode cX3_parseBranches 3 = .ok (.istore_n 3, 1) := by decide +kernel
theorem dX3_parseBranches_4 : decode cX3_parseBranches 4 = .ok (.iconst (-1), 1) := by decide +kernel
theorem dX3_parseBranches_5 : decode cX3_parseBranches 5 = .ok (.istore 4, 2) := by decide +kernel
theorem dX3_parseBranches_7 : decode cX3_parseBranches 7 = .ok (.iconst 0, 1) := by decide +kernel
theorem dX3_parseBranches_8 : decode cX3_parseBranches 8 = .ok (.istore 5, 2) := by decide +kernel
theorem dX3_parseBranches_10 : decode cX3_parseBranches 10 = .ok (.iload 5, 2) := by decide +kernel
theorem dX3_parseBranches_12 : decode cX3_parseBranches 12 = .ok (.iconst 4, 1) := by decide +kernel
theorem dX3_parseBranches_13 : decode cX3_parseBranches 13 = .ok (.if_icmp .gt 116, 3) := by decide +kernel
theorem dX3_parseBranches_16 : decode cX3_parseBranches 16 = .ok (.aload_n 0, 1) := by decide +kernel
theorem dX3_parseBranches_17 : decode cX3_parseBranches 17 = .ok (.iload_n 2, 1) := by decide +kernel
theorem dX3_parseBranches_18 : decode cX3_parseBranches 18 = .ok (.iconst 1, 1) := by decide +kernel
theorem dX3_parseBranches_19 : decode cX3_parseBranches 19 = .ok (.iadd, 1) := by decide +kernel
theorem dX3_parseBranches_20 : decode cX3_parseBranches 20 = .ok (.iload_n 3, 1) := by decide +kernel
theorem dX3_parseBranches_21 : decode cX3_parseBranches 21 = .ok (.invokevirtual 87, 3) := by decide +kernel
theorem dX3_parseBranches_24 : decode cX3_parseBranches 24 = .ok (.istore 6, 2) := by decide +kernel
theorem dX3_parseBranches_26 : decode cX3_parseBranches 26 = .ok (.iload 6, 2) := by decide +kernel
theorem dX3_parseBranches_28 : decode cX3_parseBranches 28 = .ok (.iconst (-1), 1) := by decide +kernel
theorem dX3_parseBranches_29 : decode cX3_parseBranches 29 = .ok (.if_icmp .ne 5, 3) := by decide +kernel
theorem dX3_parseBranches_32 : decode cX3_parseBranches 32 = .ok (.iconst 0, 1) := by decide +kernel
theorem dX3_parseBranches_33 : decode cX3_parseBranches 33 = .ok (.ireturn, 1) := by decide +kernel
theorem dX3_parseBranches_34 : decode cX3_parseBranches 34 = .ok (.iload 4, 2) := by decide +kernel
theorem dX3_parseBranches_36 : decode cX3_parseBranches 36 = .ok (.iconst (-1), 1) := by decide +kernel
theorem dX3_parseBranches_37 : decode cX3_parseBranches 37 = .ok (.if_icmp .ne 16, 3) := by decide +kernel
theorem dX3_parseBranches_40 : decode cX3_parseBranches 40 = .ok (.aload_n 0, 1) := by decide +kernel
theorem dX3_parseBranches_41 : decode cX3_parseBranches 41 = .ok (.getfield 15, 3) := by decide +kernel
theorem dX3_parseBranches_44 : decode cX3_parseBranches 44 = .ok (.iload_n 1, 1) := by decide +kernel
theorem dX3_parseBranches_45 : decode cX3_parseBranches 45 = .ok (.iload 6, 2) := by decide +kernel
theorem dX3_parseBranches_47 : decode cX3_parseBranches 47 = .ok (.invokevirtual 123, 3) := by decide +kernel
theorem dX3_parseBranches_50 : decode cX3_parseBranches 50 = .ok (.goto 14, 3) := by decide +kernel
theorem dX3_parseBranches_53 : decode cX3_parseBranches 53 = .ok (.aload_n 0, 1) := by decide +kernel
theorem dX3_parseBranches_54 : decode cX3_parseBranches 54 = .ok (.getfield 15, 3) := by decide +kernel
theorem dX3_parseBranches_57 : decode cX3_parseBranches 57 = .ok (.iload 4, 2) := by decide +kernel
theorem dX3_parseBranches_59 : decode cX3_parseBranches 59 = .ok (.iload 6, 2) := by decide +kernel
theorem dX3_parseBranches_61 : decode cX3_parseBranches 61 = .ok (.invokevirtual 127, 3) := by decide +kernel
theorem dX3_parseBranches_64 : decode cX3_parseBranches 64 = .ok (.iload 6, 2) := by decide +kernel
theorem dX3_parseBranches_66 : decode cX3_parseBranches 66 = .ok (.istore 4, 2) := by decide +kernel
theorem dX3_parseBranches_68 : decode cX3_parseBranches 68 = .ok (.iload_n 3, 1) := by decide +kernel
theorem dX3_parseBranches_69 : decode cX3_parseBranches 69 = .ok (.iconst 1, 1) := by decide +kernel
theorem dX3_parseBranches_70 : decode cX3_parseBranches 70 = .ok (.aload_n 0, 1) := by decide +kernel
theorem dX3_parseBranches_71 : decode cX3_parseBranches 71 = .ok (.getfield 15, 3) := by decide +kernel
theorem dX3_parseBranches_74 : decode cX3_parseBranches 74 = .ok (.iload 6, 2) := by decide +kernel
theorem dX3_parseBranches_76 : decode cX3_parseBranches 76 = .ok (.invokevirtual 130, 3) := by decide +kernel
theorem dX3_parseBranches_79 : decode cX3_parseBranches 79 = .ok (.ishl, 1) := by decide +kernel
theorem dX3_parseBranches_80 : decode cX3_parseBranches 80 = .ok (.ior, 1) := by decide +kernel
theorem dX3_parseBranches_81 : decode cX3_parseBranches 81 = .ok (.istore_n 3, 1) := by decide +kernel
theorem dX3_parseBranches_82 : decode cX3_parseBranches 82 = .ok (.aload_n 0, 1) := by decide +kernel
theorem dX3_parseBranches_83 : decode cX3_parseBranches 83 = .ok (.getfield 9, 3) := by decide +kernel
theorem dX3_parseBranches_86 : decode cX3_parseBranches 86 = .ok (.bipush 6, 2) := by decide +kernel
theorem dX3_parseBranches_88 : decode cX3_parseBranches 88 = .ok (.invokevirtual 30, 3) := by decide +kernel
theorem dX3_parseBranches_91 : decode cX3_parseBranches 91 = .ok (.ifCond .ne 25, 3) := by decide +kernel
theorem dX3_parseBranches_94 : decode cX3_parseBranches 94 = .ok (.iload 5, 2) := by decide +kernel
theorem dX3_parseBranches_96 : decode cX3_parseBranches 96 = .ok (.ifCond .gt 14, 3) := by decide +kernel
theorem dX3_parseBranches_99 : decode cX3_parseBranches 99 = .ok (.aload_n 0, 1) := by decide +kernel
theorem dX3_parseBranches_100 : decode cX3_parseBranches 100 = .ok (.getfield 9, 3) := by decide +kernel
theorem dX3_parseBranches_103 : decode cX3_parseBranches 103 = .ok (.iconst 1, 1) := by decide +kernel
theorem dX3_parseBranches_104 : decode cX3_parseBranches 104 = .ok (.invokevirtual 41, 3) := by decide +kernel
theorem dX3_parseBranches_107 : decode cX3_parseBranches 107 = .ok (.ifCond .eq 7, 3) := by decide +kernel
theorem dX3_parseBranches_110 : decode cX3_parseBranches 110 = .ok (.iconst 1, 1) := by decide +kernel
theorem dX3_parseBranches_111 : decode cX3_parseBranches 111 = .ok (.goto 4, 3) := by decide +kernel
theorem dX3_parseBranches_114 : decode cX3_parseBranches 114 = .ok (.iconst 0, 1) := by decide +kernel
theorem dX3_parseBranches_115 : decode cX3_parseBranches 115 = .ok (.ireturn, 1) := by decide +kernel
theorem dX3_parseBranches_116 : decode cX3_parseBranches 116 = .ok (.aload_n 0, 1) := by decide +kernel
theorem dX3_parseBranches_117 : decode cX3_parseBranches 117 = .ok (.getfield 9, 3) := by decide +kernel
theorem dX3_parseBranches_120 : decode cX3_parseBranches 120 = .ok (.invokevirtual 63, 3) := by decide +kernel
theorem dX3_parseBranches_123 : decode cX3_parseBranches 123 = .ok (.iinc 5 1, 3) := by decide +kernel
theorem dX3_parseBranches_126 : decode cX3_parseBranches 126 = .ok (.goto (-116), 3) := by decide +kernel
theorem dX3_parseBranches_129 : decode cX3_parseBranches 129 = .ok (.iconst 0, 1) := by decide +kernel
theorem dX3_parseBranches_130 : decode cX3_parseBranches 130 = .ok (.ireturn, 1) := by decide +kernel
theorem dX3_parseField_0 : decode cX3_parseField 0 = .ok (.aload_n 0, 1) := by decide +kernel
theorem dX3_parseField_1 : decode cX3_parseField 1 = .ok (.getfield 9, 3) := by decide +kernel
theorem dX3_parseField_4 : decode cX3_parseField 4 = .ok (.getfield 37, 3) := by decide +kernel
theorem dX3_parseField_7 : decode cX3_parseField 7 = .ok (.iconst 3, 1) := by decide +kernel
theorem dX3_parseField_8 : decode cX3_parseField 8 = .ok (.if_icmp .eq 12, 3) := by decide +kernel
theorem dX3_parseField_11 : decode cX3_parseField 11 = .ok (.aload_n 0, 1) := by decide +kernel
theorem dX3_parseField_12 : decode cX3_parseField 12 = .ok (.getfield 9, 3) := by decide +kernel
theorem dX3_parseField_15 : decode cX3_parseField 15 = .ok (.iconst 1, 1) := by decide +kernel
theorem dX3_parseField_16 : decode cX3_parseField 16 = .ok (.invokevirtual 41, 3) := by decide +kernel
theorem dX3_parseField_19 : decode cX3_parseField 19 = .ok (.ireturn, 1) := by decide +kernel
theorem dX3_parseField_20 : decode cX3_parseField 20 = .ok (.aload_n 0, 1) := by decide +kernel
theorem dX3_parseField_21 : decode cX3_parseField 21 = .ok (.getfield 9, 3) := by decide +kernel
theorem dX3_parseField_24 : decode cX3_parseField 24 = .ok (.getfield 66, 3) := by decide +kernel
theorem dX3_parseField_27 : decode cX3_parseField 27 = .ok (.lstore_n 3, 1) := by decide +kernel
theorem dX3_parseField_28 : decode cX3_parseField 28 = .ok (.aload_n 0, 1) := by decide +kernel
theorem dX3_parseField_29 : decode cX3_parseField 29 = .ok (.getfield 15, 3) := by decide +kernel
theorem dX3_parseField_32 : decode cX3_parseField 32 = .ok (.iload_n 1, 1) := by decide +kernel
theorem dX3_parseField_33 : decode cX3_parseField 33 = .ok (.lload_n 3, 1) := by decide +kernel
theorem dX3_parseField_34 : decode cX3_parseField 34 = .ok (.invokevirtual 81, 3) := by decide +kernel
theorem dX3_parseField_37 : decode cX3_parseField 37 = .ok (.iconst (-1), 1) := by decide +kernel
theorem dX3_parseField_38 : decode cX3_parseField 38 = .ok (.if_icmp .eq 12, 3) := by decide +kernel
theorem dX3_parseField_41 : decode cX3_parseField 41 = .ok (.aload_n 0, 1) := by decide +kernel
theorem dX3_parseField_42 : decode cX3_parseField 42 = .ok (.getfield 9, 3) := by decide +kernel
theorem dX3_parseField_45 : decode cX3_parseField 45 = .ok (.iconst 3, 1) := by decide +kernel
theorem dX3_parseField_46 : decode cX3_parseField 46 = .ok (.invokevirtual 41, 3) := by decide +kernel
theorem dX3_parseField_49 : decode cX3_parseField 49 = .ok (.ireturn, 1) := by decide +kernel
theorem dX3_parseField_50 : decode cX3_parseField 50 = .ok (.iload_n 2, 1) := by decide +kernel
theorem dX3_parseField_51 : decode cX3_parseField 51 = .ok (.bipush 8, 2) := by decide +kernel
theorem dX3_parseField_53 : decode cX3_parseField 53 = .ok (.if_icmp .lt 12, 3) := by decide +kernel
theorem dX3_parseField_56 : decode cX3_parseField 56 = .ok (.aload_n 0, 1) := by decide +kernel
theorem dX3_parseField_57 : decode cX3_parseField 57 = .ok (.getfield 9, 3) := by decide +kernel
theorem dX3_parseField_60 : decode cX3_parseField 60 = .ok (.iconst 4, 1) := by decide +kernel
theorem dX3_parseField_61 : decode cX3_parseField 61 = .ok (.invokevirtual 41, 3) := by decide +kernel
theorem dX3_parseField_64 : decode cX3_parseField 64 = .ok (.ireturn, 1) := by decide +kernel
theorem dX3_parseField_65 : decode cX3_parseField 65 = .ok (.aload_n 0, 1) := by decide +kernel
theorem dX3_parseField_66 : decode cX3_parseField 66 = .ok (.getfield 15, 3) := by decide +kernel
theorem dX3_parseField_69 : decode cX3_parseField 69 = .ok (.iload_n 1, 1) := by decide +kernel
theorem dX3_parseField_70 : decode cX3_parseField 70 = .ok (.lload_n 3, 1) := by decide +kernel
theorem dX3_parseField_71 : decode cX3_parseField 71 = .ok (.invokevirtual 84, 3) := by decide +kernel
theorem dX3_parseField_74 : decode cX3_parseField 74 = .ok (.aload_n 0, 1) := by decide +kernel
theorem dX3_parseField_75 : decode cX3_parseField 75 = .ok (.getfield 9, 3) := by decide +kernel
theorem dX3_parseField_78 : decode cX3_parseField 78 = .ok (.invokevirtual 63, 3) := by decide +kernel
theorem dX3_parseField_81 : decode cX3_parseField 81 = .ok (.aload_n 0, 1) := by decide +kernel
theorem dX3_parseField_82 : decode cX3_parseField 82 = .ok (.iconst 0, 1) := by decide +kernel
theorem dX3_parseField_83 : decode cX3_parseField 83 = .ok (.iconst 0, 1) := by decide +kernel
theorem dX3_parseField_84 : decode cX3_parseField 84 = .ok (.invokevirtual 87, 3) := by decide +kernel
theorem dX3_parseField_87 : decode cX3_parseField 87 = .ok (.istore 5, 2) := by decide +kernel
theorem dX3_parseField_89 : decode cX3_parseField 89 = .ok (.iload 5, 2) := by decide +kernel
theorem dX3_parseField_91 : decode cX3_parseField 91 = .ok (.iconst (-1), 1) := by decide +kernel
theorem dX3_parseField_92 : decode cX3_parseField 92 = .ok (.if_icmp .ne 5, 3) := by decide +kernel
theorem dX3_parseField_95 : decode cX3_parseField 95 = .ok (.iconst 0, 1) := by decide +kernel
theorem dX3_parseField_96 : decode cX3_parseField 96 = .ok (.ireturn, 1) := by decide +kernel
theorem dX3_parseField_97 : decode cX3_parseField 97 = .ok (.aload_n 0, 1) := by decide +kernel
theorem dX3_parseField_98 : decode cX3_parseField 98 = .ok (.getfield 15, 3) := by decide +kernel
theorem dX3_parseField_101 : decode cX3_parseField 101 = .ok (.iload_n 1, 1) := by decide +kernel
theorem dX3_parseField_102 : decode cX3_parseField 102 = .ok (.iload_n 2, 1) := by decide +kernel
theorem dX3_parseField_103 : decode cX3_parseField 103 = .ok (.iload 5, 2) := by decide +kernel
theorem dX3_parseField_105 : decode cX3_parseField 105 = .ok (.invokevirtual 91, 3) := by decide +kernel
theorem dX3_parseField_108 : decode cX3_parseField 108 = .ok (.aload_n 0, 1) := by decide +kernel
theorem dX3_parseField_109 : decode cX3_parseField 109 = .ok (.iload_n 1, 1) := by decide +kernel
theorem dX3_parseField_110 : decode cX3_parseField 110 = .ok (.iload_n 2, 1) := by decide +kernel
theorem dX3_parseField_111 : decode cX3_parseField 111 = .ok (.invokevirtual 95, 3) := by decide +kernel
theorem dX3_parseField_114 : decode cX3_parseField 114 = .ok (.ifCond .eq 16, 3) := by decide +kernel
theorem dX3_parseField_117 : decode cX3_parseField 117 = .ok (.aload_n 0, 1) := by decide +kernel
theorem dX3_parseField_118 : decode cX3_parseField 118 = .ok (.iload_n 1, 1) := by decide +kernel
theorem dX3_parseField_119 : decode cX3_parseField 119 = .ok (.iload_n 2, 1) := by decide +kernel
theorem dX3_parseField_120 : decode cX3_parseField 120 = .ok (.invokevirtual 98, 3) := by decide +kernel
theorem dX3_parseField_123 : decode cX3_parseField 123 = .ok (.ifCond .eq 7, 3) := by decide +kernel
theorem dX3_parseField_126 : decode cX3_parseField 126 = .ok (.iconst 1, 1) := by decide +kernel
theorem dX3_parseField_127 : decode cX3_parseField 127 = .ok (.goto 4, 3) := by decide +kernel
theorem dX3_parseField_130 : decode cX3_parseField 130 = .ok (.iconst 0, 1) := by decide +kernel
theorem dX3_parseField_131 : decode cX3_parseField 131 = .ok (.ireturn, 1) := by decide +kernel
theorem dX3_parseRecord_0 : decode cX3_parseRecord 0 = .ok (.aload_n 0, 1) := by decide +kernel
theorem dX3_parseRecord_1 : decode cX3_parseRecord 1 = .ok (.getfield 15, 3) := by decide +kernel
theorem dX3_parseRecord_4 : decode cX3_parseRecord 4 = .ok (.iload_n 1, 1) := by decide +kernel
theorem dX3_parseRecord_5 : decode cX3_parseRecord 5 = .ok (.invokevirtual 24, 3) := by decide +kernel
theorem dX3_parseRecord_8 : decode cX3_parseRecord 8 = .ok (.bipush 6, 2) := by decide +kernel
theorem dX3_parseRecord_10 : decode cX3_parseRecord 10 = .ok (.if_icmp .lt 12, 3) := by decide +kernel
theorem dX3_parseRecord_13 : decode cX3_parseRecord 13 = .ok (.aload_n 0, 1) := by decide +kernel
theorem dX3_parseRecord_14 : decode cX3_parseRecord 14 = .ok (.getfield 9, 3) := by decide +kernel
theorem dX3_parseRecord_17 : decode cX3_parseRecord 17 = .ok (.iconst 4, 1) := by decide +kernel
theorem dX3_parseRecord_18 : decode cX3_parseRecord 18 = .ok (.invokevirtual 41, 3) := by decide +kernel
theorem dX3_parseRecord_21 : decode cX3_parseRecord 21 = .ok (.ireturn, 1) := by decide +kernel
theorem dX3_parseRecord_22 : decode cX3_parseRecord 22 = .ok (.aload_n 0, 1) := by decide +kernel
theorem dX3_parseRecord_23 : decode cX3_parseRecord 23 = .ok (.getfield 9, 3) := by decide +kernel
theorem dX3_parseRecord_26 : decode cX3_parseRecord 26 = .ok (.invokevirtual 63, 3) := by decide +kernel
theorem dX3_parseRecord_29 : decode cX3_parseRecord 29 = .ok (.aload_n 0, 1) := by decide +kernel
theorem dX3_parseRecord_30 : decode cX3_parseRecord 30 = .ok (.getfield 9, 3) := by decide +kernel
theorem dX3_parseRecord_33 : decode cX3_parseRecord 33 = .ok (.getfield 37, 3) := by decide +kernel
theorem dX3_parseRecord_36 : decode cX3_parseRecord 36 = .ok (.iconst 3, 1) := by decide +kernel
theorem dX3_parseRecord_37 : decode cX3_parseRecord 37 = .ok (.if_icmp .eq 12, 3) := by decide +kernel
theorem dX3_parseRecord_40 : decode cX3_parseRecord 40 = .ok (.aload_n 0, 1) := by decide +kernel
theorem dX3_parseRecord_41 : decode cX3_parseRecord 41 = .ok (.getfield 9, 3) := by decide +kernel
theorem dX3_parseRecord_44 : decode cX3_parseRecord 44 = .ok (.iconst 1, 1) := by decide +kernel
theorem dX3_parseRecord_45 : decode cX3_parseRecord 45 = .ok (.invokevirtual 41, 3) := by decide +kernel
theorem dX3_parseRecord_48 : decode cX3_parseRecord 48 = .ok (.ireturn, 1) := by decide +kernel
theorem dX3_parseRecord_49 : decode cX3_parseRecord 49 = .ok (.aload_n 0, 1) := by decide +kernel
theorem dX3_parseRecord_50 : decode cX3_parseRecord 50 = .ok (.getfield 15, 3) := by decide +kernel
theorem dX3_parseRecord_53 : decode cX3_parseRecord 53 = .ok (.iload_n 1, 1) := by decide +kernel
theorem dX3_parseRecord_54 : decode cX3_parseRecord 54 = .ok (.aload_n 0, 1) := by decide +kernel
theorem dX3_parseRecord_55 : decode cX3_parseRecord 55 = .ok (.getfield 9, 3) := by decide +kernel
theorem dX3_parseRecord_58 : decode cX3_parseRecord 58 = .ok (.getfield 66, 3) := by decide +kernel
theorem dX3_parseRecord_61 : decode cX3_parseRecord 61 = .ok (.invokevirtual 70, 3) := by decide +kernel
theorem dX3_parseRecord_64 : decode cX3_parseRecord 64 = .ok (.iconst (-1), 1) := by decide +kernel
theorem dX3_parseRecord_65 : decode cX3_parseRecord 65 = .ok (.if_icmp .eq 12, 3) := by decide +kernel
theorem dX3_parseRecord_68 : decode cX3_parseRecord 68 = .ok (.aload_n 0, 1) := by decide +kernel
theorem dX3_parseRecord_69 : decode cX3_parseRecord 69 = .ok (.getfield 9, 3) := by decide +kernel
theorem dX3_parseRecord_72 : decode cX3_parseRecord 72 = .ok (.iconst 3, 1) := by decide +kernel
theorem dX3_parseRecord_73 : decode cX3_parseRecord 73 = .ok (.invokevirtual 41, 3) := by decide +kernel
theorem dX3_parseRecord_76 : decode cX3_parseRecord 76 = .ok (.ireturn, 1) := by decide +kernel
theorem dX3_parseRecord_77 : decode cX3_parseRecord 77 = .ok (.iload_n 1, 1) := by decide +kernel
theorem dX3_parseRecord_78 : decode cX3_parseRecord 78 = .ok (.bipush 6, 2) := by decide +kernel
theorem dX3_parseRecord_80 : decode cX3_parseRecord 80 = .ok (.imul, 1) := by decide +kernel
theorem dX3_parseRecord_81 : decode cX3_parseRecord 81 = .ok (.aload_n 0, 1) := by decide +kernel
theorem dX3_parseRecord_82 : decode cX3_parseRecord 82 = .ok (.getfield 15, 3) := by decide +kernel
theorem dX3_parseRecord_85 : decode cX3_parseRecord 85 = .ok (.iload_n 1, 1) := by decide +kernel
theorem dX3_parseRecord_86 : decode cX3_parseRecord 86 = .ok (.invokevirtual 24, 3) := by decide +kernel
theorem dX3_parseRecord_89 : decode cX3_parseRecord 89 = .ok (.iadd, 1) := by decide +kernel
theorem dX3_parseRecord_90 : decode cX3_parseRecord 90 = .ok (.istore_n 2, 1) := by decide +kernel
theorem dX3_parseRecord_91 : decode cX3_parseRecord 91 = .ok (.aload_n 0, 1) := by decide +kernel
theorem dX3_parseRecord_92 : decode cX3_parseRecord 92 = .ok (.getfield 15, 3) := by decide +kernel
theorem dX3_parseRecord_95 : decode cX3_parseRecord 95 = .ok (.iload_n 1, 1) := by decide +kernel
theorem dX3_parseRecord_96 : decode cX3_parseRecord 96 = .ok (.aload_n 0, 1) := by decide +kernel
theorem dX3_parseRecord_97 : decode cX3_parseRecord 97 = .ok (.getfield 9, 3) := by decide +kernel
theorem dX3_parseRecord_100 : decode cX3_parseRecord 100 = .ok (.getfield 66, 3) := by decide +kernel
theorem dX3_parseRecord_103 : decode cX3_parseRecord 103 = .ok (.invokevirtual 74, 3) := by decide +kernel
theorem dX3_parseRecord_106 : decode cX3_parseRecord 106 = .ok (.iconst 0, 1) := by decide +kernel
theorem dX3_parseRecord_107 : decode cX3_parseRecord 107 = .ok (.istore_n 3, 1) := by decide +kernel
theorem dX3_parseRecord_108 : decode cX3_parseRecord 108 = .ok (.iload_n 3, 1) := by decide +kernel
theorem dX3_parseRecord_109 : decode cX3_parseRecord 109 = .ok (.bipush 8, 2) := by decide +kernel
theorem dX3_parseRecord_111 : decode cX3_parseRecord 111 = .ok (.if_icmp .gt 69, 3) := by decide +kernel
theorem dX3_parseRecord_114 : decode cX3_parseRecord 114 = .ok (.aload_n 0, 1) := by decide +kernel
theorem dX3_parseRecord_115 : decode cX3_parseRecord 115 = .ok (.getfield 9, 3) := by decide +kernel
theorem dX3_parseRecord_118 : decode cX3_parseRecord 118 = .ok (.invokevirtual 63, 3) := by decide +kernel
theorem dX3_parseRecord_121 : decode cX3_parseRecord 121 = .ok (.aload_n 0, 1) := by decide +kernel
theorem dX3_parseRecord_122 : decode cX3_parseRecord 122 = .ok (.iload_n 2, 1) := by decide +kernel
theorem dX3_parseRecord_123 : decode cX3_parseRecord 123 = .ok (.iload_n 3, 1) := by decide +kernel
theorem dX3_parseRecord_124 : decode cX3_parseRecord 124 = .ok (.invokevirtual 78, 3) := by decide +kernel
theorem dX3_parseRecord_127 : decode cX3_parseRecord 127 = .ok (.ifCond .ne 5, 3) := by decide +kernel
theorem dX3_parseRecord_130 : decode cX3_parseRecord 130 = .ok (.iconst 0, 1) := by decide +kernel
theorem dX3_parseRecord_131 : decode cX3_parseRecord 131 = .ok (.ireturn, 1) := by decide +kernel
theorem dX3_parseRecord_132 : decode cX3_parseRecord 132 = .ok (.aload_n 0, 1) := by decide +kernel
theorem dX3_parseRecord_133 : decode cX3_parseRecord 133 = .ok (.getfield 9, 3) := by decide +kernel
theorem dX3_parseRecord_136 : decode cX3_parseRecord 136 = .ok (.getfield 37, 3) := by decide +kernel
theorem dX3_parseRecord_139 : decode cX3_parseRecord 139 = .ok (.bipush 59, 2) := by decide +kernel
theorem dX3_parseRecord_141 : decode cX3_parseRecord 141 = .ok (.if_icmp .ne 12, 3) := by decide +kernel
theorem dX3_parseRecord_144 : decode cX3_parseRecord 144 = .ok (.aload_n 0, 1) := by decide +kernel
theorem dX3_parseRecord_145 : decode cX3_parseRecord 145 = .ok (.getfield 9, 3) := by decide +kernel
theorem dX3_parseRecord_148 : decode cX3_parseRecord 148 = .ok (.invokevirtual 63, 3) := by decide +kernel
theorem dX3_parseRecord_151 : decode cX3_parseRecord 151 = .ok (.iconst 1, 1) := by decide +kernel
theorem dX3_parseRecord_152 : decode cX3_parseRecord 152 = .ok (.ireturn, 1) := by decide +kernel
theorem dX3_parseRecord_153 : decode cX3_parseRecord 153 = .ok (.aload_n 0, 1) := by decide +kernel
theorem dX3_parseRecord_154 : decode cX3_parseRecord 154 = .ok (.getfield 9, 3) := by decide +kernel
theorem dX3_parseRecord_157 : decode cX3_parseRecord 157 = .ok (.getfield 37, 3) := by decide +kernel
theorem dX3_parseRecord_160 : decode cX3_parseRecord 160 = .ok (.bipush 44, 2) := by decide +kernel
theorem dX3_parseRecord_162 : decode cX3_parseRecord 162 = .ok (.if_icmp .eq 12, 3) := by decide +kernel
theorem dX3_parseRecord_165 : decode cX3_parseRecord 165 = .ok (.aload_n 0, 1) := by decide +kernel
theorem dX3_parseRecord_166 : decode cX3_parseRecord 166 = .ok (.getfield 9, 3) := by decide +kernel
theorem dX3_parseRecord_169 : decode cX3_parseRecord 169 = .ok (.iconst 1, 1) := by decide +kernel
theorem dX3_parseRecord_170 : decode cX3_parseRecord 170 = .ok (.invokevirtual 41, 3) := by decide +kernel
theorem dX3_parseRecord_173 : decode cX3_parseRecord 173 = .ok (.ireturn, 1) := by decide +kernel
theorem dX3_parseRecord_174 : decode cX3_parseRecord 174 = .ok (.iinc 3 1, 3) := by decide +kernel
theorem dX3_parseRecord_177 : decode cX3_parseRecord 177 = .ok (.goto (-69), 3) := by decide +kernel
theorem dX3_parseRecord_180 : decode cX3_parseRecord 180 = .ok (.iconst 0, 1) := by decide +kernel
theorem dX3_parseRecord_181 : decode cX3_parseRecord 181 = .ok (.ireturn, 1) := by decide +kernel
theorem dX3_parseType_0 : decode cX3_parseType 0 = .ok (.aload_n 0, 1) := by decide +kernel
theorem dX3_parseType_1 : decode cX3_parseType 1 = .ok (.getfield 9, 3) := by decide +kernel
theorem dX3_parseType_4 : decode cX3_parseType 4 = .ok (.invokevirtual 101, 3) := by decide +kernel
theorem dX3_parseType_7 : decode cX3_parseType 7 = .ok (.istore_n 3, 1) := by decide +kernel
theorem dX3_parseType_8 : decode cX3_parseType 8 = .ok (.iload_n 3, 1) := by decide +kernel
theorem dX3_parseType_9 : decode cX3_parseType 9 = .ok (.iconst (-1), 1) := by decide +kernel
theorem dX3_parseType_10 : decode cX3_parseType 10 = .ok (.if_icmp .ne 14, 3) := by decide +kernel
theorem dX3_parseType_13 : decode cX3_parseType 13 = .ok (.aload_n 0, 1) := by decide +kernel
theorem dX3_parseType_14 : decode cX3_parseType 14 = .ok (.getfield 9, 3) := by decide +kernel
theorem dX3_parseType_17 : decode cX3_parseType 17 = .ok (.iconst 1, 1) := by decide +kernel
theorem dX3_parseType_18 : decode cX3_parseType 18 = .ok (.invokevirtual 41, 3) := by decide +kernel
theorem dX3_parseType_21 : decode cX3_parseType 21 = .ok (.pop, 1) := by decide +kernel
theorem dX3_parseType_22 : decode cX3_parseType 22 = .ok (.iconst (-1), 1) := by decide +kernel
theorem dX3_parseType_23 : decode cX3_parseType 23 = .ok (.ireturn, 1) := by decide +kernel
theorem dX3_parseType_24 : decode cX3_parseType 24 = .ok (.iload_n 1, 1) := by decide +kernel
theorem dX3_parseType_25 : decode cX3_parseType 25 = .ok (.iconst 3, 1) := by decide +kernel
theorem dX3_parseType_26 : decode cX3_parseType 26 = .ok (.if_icmp .gt 11, 3) := by decide +kernel
theorem dX3_parseType_29 : decode cX3_parseType 29 = .ok (.iload_n 2, 1) := by decide +kernel
theorem dX3_parseType_30 : decode cX3_parseType 30 = .ok (.invokestatic 105, 3) := by decide +kernel
theorem dX3_parseType_33 : decode cX3_parseType 33 = .ok (.iconst 4, 1) := by decide +kernel
theorem dX3_parseType_34 : decode cX3_parseType 34 = .ok (.if_icmp .le 7, 3) := by decide +kernel
theorem dX3_parseType_37 : decode cX3_parseType 37 = .ok (.iconst (-1), 1) := by decide +kernel
theorem dX3_parseType_38 : decode cX3_parseType 38 = .ok (.goto 11, 3) := by decide +kernel
theorem dX3_parseType_41 : decode cX3_parseType 41 = .ok (.aload_n 0, 1) := by decide +kernel
theorem dX3_parseType_42 : decode cX3_parseType 42 = .ok (.getfield 15, 3) := by decide +kernel
theorem dX3_parseType_45 : decode cX3_parseType 45 = .ok (.iload_n 3, 1) := by decide +kernel
theorem dX3_parseType_46 : decode cX3_parseType 46 = .ok (.invokevirtual 110, 3) := by decide +kernel
theorem dX3_parseType_49 : decode cX3_parseType 49 = .ok (.istore 4, 2) := by decide +kernel
theorem dX3_parseType_51 : decode cX3_parseType 51 = .ok (.iload 4, 2) := by decide +kernel
theorem dX3_parseType_53 : decode cX3_parseType 53 = .ok (.iconst (-1), 1) := by decide +kernel
theorem dX3_parseType_54 : decode cX3_parseType 54 = .ok (.if_icmp .ne 14, 3) := by decide +kernel
theorem dX3_parseType_57 : decode cX3_parseType 57 = .ok (.aload_n 0, 1) := by decide +kernel
theorem dX3_parseType_58 : decode cX3_parseType 58 = .ok (.getfield 9, 3) := by decide +kernel
theorem dX3_parseType_61 : decode cX3_parseType 61 = .ok (.iconst 4, 1) := by decide +kernel
theorem dX3_parseType_62 : decode cX3_parseType 62 = .ok (.invokevirtual 41, 3) := by decide +kernel
theorem dX3_parseType_65 : decode cX3_parseType 65 = .ok (.pop, 1) := by decide +kernel
theorem dX3_parseType_66 : decode cX3_parseType 66 = .ok (.iconst (-1), 1) := by decide +kernel
theorem dX3_parseType_67 : decode cX3_parseType 67 = .ok (.ireturn, 1) := by decide +kernel
theorem dX3_parseType_68 : decode cX3_parseType 68 = .ok (.iload_n 2, 1) := by decide +kernel
theorem dX3_parseType_69 : decode cX3_parseType 69 = .ok (.iload_n 3, 1) := by decide +kernel
theorem dX3_parseType_70 : decode cX3_parseType 70 = .ok (.ishr, 1) := by decide +kernel
theorem dX3_parseType_71 : decode cX3_parseType 71 = .ok (.iconst 1, 1) := by decide +kernel
theorem dX3_parseType_72 : decode cX3_parseType 72 = .ok (.iand, 1) := by decide +kernel
theorem dX3_parseType_73 : decode cX3_parseType 73 = .ok (.ifCond .eq 14, 3) := by decide +kernel
theorem dX3_parseType_76 : decode cX3_parseType 76 = .ok (.aload_n 0, 1) := by decide +kernel
theorem dX3_parseType_77 : decode cX3_parseType 77 = .ok (.getfield 9, 3) := by decide +kernel
theorem dX3_parseType_80 : decode cX3_parseType 80 = .ok (.iconst 5, 1) := by decide +kernel
theorem dX3_parseType_81 : decode cX3_parseType 81 = .ok (.invokevirtual 41, 3) := by decide +kernel
theorem dX3_parseType_84 : decode cX3_parseType 84 = .ok (.pop, 1) := by decide +kernel
theorem dX3_parseType_85 : decode cX3_parseType 85 = .ok (.iconst (-1), 1) := by decide +kernel
theorem dX3_parseType_86 : decode cX3_parseType 86 = .ok (.ireturn, 1) := by decide +kernel
theorem dX3_parseType_87 : decode cX3_parseType 87 = .ok (.iload_n 3, 1) := by decide +kernel
theorem dX3_parseType_88 : decode cX3_parseType 88 = .ok (.bipush 7, 2) := by decide +kernel
theorem dX3_parseType_90 : decode cX3_parseType 90 = .ok (.if_icmp .ne 26, 3) := by decide +kernel
theorem dX3_parseType_93 : decode cX3_parseType 93 = .ok (.aload_n 0, 1) := by decide +kernel
theorem dX3_parseType_94 : decode cX3_parseType 94 = .ok (.getfield 15, 3) := by decide +kernel
theorem dX3_parseType_97 : decode cX3_parseType 97 = .ok (.iload 4, 2) := by decide +kernel
theorem dX3_parseType_99 : decode cX3_parseType 99 = .ok (.aload_n 0, 1) := by decide +kernel
theorem dX3_parseType_100 : decode cX3_parseType 100 = .ok (.getfield 9, 3) := by decide +kernel
theorem dX3_parseType_103 : decode cX3_parseType 103 = .ok (.getfield 66, 3) := by decide +kernel
theorem dX3_parseType_106 : decode cX3_parseType 106 = .ok (.aload_n 0, 1) := by decide +kernel
theorem dX3_parseType_107 : decode cX3_parseType 107 = .ok (.getfield 9, 3) := by decide +kernel
theorem dX3_parseType_110 : decode cX3_parseType 110 = .ok (.getfield 113, 3) := by decide +kernel
theorem dX3_parseType_113 : decode cX3_parseType 113 = .ok (.invokevirtual 116, 3) := by decide +kernel
theorem dX3_parseType_116 : decode cX3_parseType 116 = .ok (.aload_n 0, 1) := by decide +kernel
theorem dX3_parseType_117 : decode cX3_parseType 117 = .ok (.getfield 9, 3) := by decide +kernel
theorem dX3_parseType_120 : decode cX3_parseType 120 = .ok (.invokevirtual 63, 3) := by decide +kernel
theorem dX3_parseType_123 : decode cX3_parseType 123 = .ok (.iload_n 3, 1) := by decide +kernel
theorem dX3_parseType_124 : decode cX3_parseType 124 = .ok (.bipush 8, 2) := by decide +kernel
theorem dX3_parseType_126 : decode cX3_parseType 126 = .ok (.if_icmp .ne 20, 3) := by decide +kernel
theorem dX3_parseType_129 : decode cX3_parseType 129 = .ok (.aload_n 0, 1) := by decide +kernel
theorem dX3_parseType_130 : decode cX3_parseType 130 = .ok (.iload 4, 2) := by decide +kernel
theorem dX3_parseType_132 : decode cX3_parseType 132 = .ok (.iload_n 1, 1) := by decide +kernel
theorem dX3_parseType_133 : decode cX3_parseType 133 = .ok (.invokevirtual 120, 3) := by decide +kernel
theorem dX3_parseType_136 : decode cX3_parseType 136 = .ok (.ifCond .eq 8, 3) := by decide +kernel
theorem dX3_parseType_139 : decode cX3_parseType 139 = .ok (.iload 4, 2) := by decide +kernel
theorem dX3_parseType_141 : decode cX3_parseType 141 = .ok (.goto 4, 3) := by decide +kernel
theorem dX3_parseType_144 : decode cX3_parseType 144 = .ok (.iconst (-1), 1) := by decide +kernel
theorem dX3_parseType_145 : decode cX3_parseType 145 = .ok (.ireturn, 1) := by decide +kernel
theorem dX3_parseType_146 : decode cX3_parseType 146 = .ok (.iload_n 3, 1) := by decide +kernel
theorem dX3_parseType_147 : decode cX3_parseType 147 = .ok (.bipush 6, 2) := by decide +kernel
theorem dX3_parseType_149 : decode cX3_parseType 149 = .ok (.if_icmp .ne 37, 3) := by decide +kernel
theorem dX3_parseType_152 : decode cX3_parseType 152 = .ok (.aload_n 0, 1) := by decide +kernel
theorem dX3_parseType_153 : decode cX3_parseType 153 = .ok (.iload_n 1, 1) := by decide +kernel
theorem dX3_parseType_154 : decode cX3_parseType 154 = .ok (.iconst 1, 1) := by decide +kernel
theorem dX3_parseType_155 : decode cX3_parseType 155 = .ok (.iadd, 1) := by decide +kernel
theorem dX3_parseType_156 : decode cX3_parseType 156 = .ok (.iconst 0, 1) := by decide +kernel
theorem dX3_parseType_157 : decode cX3_parseType 157 = .ok (.invokevirtual 87, 3) := by decide +kernel
theorem dX3_parseType_160 : decode cX3_parseType 160 = .ok (.istore 5, 2) := by decide +kernel
theorem dX3_parseType_162 : decode cX3_parseType 162 = .ok (.aload_n 0, 1) := by decide +kernel
theorem dX3_parseType_163 : decode cX3_parseType 163 = .ok (.getfield 15, 3) := by decide +kernel
theorem dX3_parseType_166 : decode cX3_parseType 166 = .ok (.iload 4, 2) := by decide +kernel
theorem dX3_parseType_168 : decode cX3_parseType 168 = .ok (.iload 5, 2) := by decide +kernel
theorem dX3_parseType_170 : decode cX3_parseType 170 = .ok (.invokevirtual 123, 3) := by decide +kernel
theorem dX3_parseType_173 : decode cX3_parseType 173 = .ok (.iload 5, 2) := by decide +kernel
theorem dX3_parseType_175 : decode cX3_parseType 175 = .ok (.iconst (-1), 1) := by decide +kernel
theorem dX3_parseType_176 : decode cX3_parseType 176 = .ok (.if_icmp .ne 7, 3) := by decide +kernel
theorem dX3_parseType_179 : decode cX3_parseType 179 = .ok (.iconst (-1), 1) := by decide +kernel
theorem dX3_parseType_180 : decode cX3_parseType 180 = .ok (.goto 5, 3) := by decide +kernel
theorem dX3_parseType_183 : decode cX3_parseType 183 = .ok (.iload 4, 2) := by decide +kernel
theorem dX3_parseType_185 : decode cX3_parseType 185 = .ok (.ireturn, 1) := by decide +kernel
theorem dX3_parseType_186 : decode cX3_parseType 186 = .ok (.iload 4, 2) := by decide +kernel
theorem dX3_parseType_188 : decode cX3_parseType 188 = .ok (.ireturn, 1) := by decide +kernel
theorem dX5_addField_0 : decode cX5_addField 0 = .ok (.aload_n 0, 1) := by decide +kernel
theorem dX5_addField_1 : decode cX5_addField 1 = .ok (.iload_n 1, 1) := by decide +kernel
theorem dX5_addField_2 : decode cX5_addField 2 = .ok (.invokevirtual 123, 3) := by decide +kernel
theorem dX5_addField_5 : decode cX5_addField 5 = .ok (.istore 4, 2) := by decide +kernel
theorem dX5_addField_7 : decode cX5_addField 7 = .ok (.iload_n 1, 1) := by decide +kernel
theorem dX5_addField_8 : decode cX5_addField 8 = .ok (.iload 4, 2) := by decide +kernel
theorem dX5_addField_10 : decode cX5_addField 10 = .ok (.invokestatic 75, 3) := by decide +kernel
theorem dX5_addField_13 : decode cX5_addField 13 = .ok (.ifCond .eq 65, 3) := by decide +kernel
theorem dX5_addField_16 : decode cX5_addField 16 = .ok (.aload_n 0, 1) := by decide +kernel
theorem dX5_addField_17 : decode cX5_addField 17 = .ok (.getfield 38, 3) := by decide +kernel
theorem dX5_addField_20 : decode cX5_addField 20 = .ok (.iload_n 1, 1) := by decide +kernel
theorem dX5_addField_21 : decode cX5_addField 21 = .ok (.bipush 8, 2) := by decide +kernel
theorem dX5_addField_23 : decode cX5_addField 23 = .ok (.imul, 1) := by decide +kernel
theorem dX5_addField_24 : decode cX5_addField 24 = .ok (.iload 4, 2) := by decide +kernel
theorem dX5_addField_26 : decode cX5_addField 26 = .ok (.iadd, 1) := by decide +kernel
theorem dX5_addField_27 : decode cX5_addField 27 = .ok (.lload_n 2, 1) := by decide +kernel
theorem dX5_addField_28 : decode cX5_addField 28 = .ok (.lastore, 1) := by decide +kernel
theorem dX5_addField_29 : decode cX5_addField 29 = .ok (.aload_n 0, 1) := by decide +kernel
theorem dX5_addField_30 : decode cX5_addField 30 = .ok (.getfield 41, 3) := by decide +kernel
theorem dX5_addField_33 : decode cX5_addField 33 = .ok (.iload_n 1, 1) := by decide +kernel
theorem dX5_addField_34 : decode cX5_addField 34 = .ok (.bipush 8, 2) := by decide +kernel
theorem dX5_addField_36 : decode cX5_addField 36 = .ok (.imul, 1) := by decide +kernel
theorem dX5_addField_37 : decode cX5_addField 37 = .ok (.iload 4, 2) := by decide +kernel
theorem dX5_addField_39 : decode cX5_addField 39 = .ok (.iadd, 1) := by decide +kernel
theorem dX5_addField_40 : decode cX5_addField 40 = .ok (.lconst 0, 1) := by decide +kernel
theorem dX5_addField_41 : decode cX5_addField 41 = .ok (.lastore, 1) := by decide +kernel
theorem dX5_addField_42 : decode cX5_addField 42 = .ok (.aload_n 0, 1) := by decide +kernel
theorem dX5_addField_43 : decode cX5_addField 43 = .ok (.getfield 44, 3) := by decide +kernel
theorem dX5_addField_46 : decode cX5_addField 46 = .ok (.iload_n 1, 1) := by decide +kernel
theorem dX5_addField_47 : decode cX5_addField 47 = .ok (.bipush 8, 2) := by decide +kernel
theorem dX5_addField_49 : decode cX5_addField 49 = .ok (.imul, 1) := by decide +kernel
theorem dX5_addField_50 : decode cX5_addField 50 = .ok (.iload 4, 2) := by decide +kernel
theorem dX5_addField_52 : decode cX5_addField 52 = .ok (.iadd, 1) := by decide +kernel
theorem dX5_addField_53 : decode cX5_addField 53 = .ok (.iconst (-1), 1) := by decide +kernel
theorem dX5_addField_54 : decode cX5_addField 54 = .ok (.iastore, 1) := by decide +kernel
theorem dX5_addField_55 : decode cX5_addField 55 = .ok (.aload_n 0, 1) := by decide +kernel
theorem dX5_addField_56 : decode cX5_addField 56 = .ok (.getfield 47, 3) := by decide +kernel
theorem dX5_addField_59 : decode cX5_addField 59 = .ok (.iload_n 1, 1) := by decide +kernel
theorem dX5_addField_60 : decode cX5_addField 60 = .ok (.bipush 8, 2) := by decide +kernel
theorem dX5_addField_62 : decode cX5_addField 62 = .ok (.imul, 1) := by decide +kernel
theorem dX5_addField_63 : decode cX5_addField 63 = .ok (.iload 4, 2) := by decide +kernel
theorem dX5_addField_65 : decode cX5_addField 65 = .ok (.iadd, 1) := by decide +kernel
theorem dX5_addField_66 : decode cX5_addField 66 = .ok (.lconst 0, 1) := by decide +kernel
theorem dX5_addField_67 : decode cX5_addField 67 = .ok (.lastore, 1) := by decide +kernel
theorem dX5_addField_68 : decode cX5_addField 68 = .ok (.aload_n 0, 1) := by decide +kernel
theorem dX5_addField_69 : decode cX5_addField 69 = .ok (.getfield 25, 3) := by decide +kernel
theorem dX5_addField_72 : decode cX5_addField 72 = .ok (.iload_n 1, 1) := by decide +kernel
theorem dX5_addField_73 : decode cX5_addField 73 = .ok (.dup2, 1) := by decide +kernel
theorem dX5_addField_74 : decode cX5_addField 74 = .ok (.iaload, 1) := by decide +kernel
theorem dX5_addField_75 : decode cX5_addField 75 = .ok (.iconst 1, 1) := by decide +kernel
theorem dX5_addField_76 : decode cX5_addField 76 = .ok (.iadd, 1) := by decide +kernel
theorem dX5_addField_77 : decode cX5_addField 77 = .ok (.iastore, 1) := by decide +kernel
theorem dX5_addField_78 : decode cX5_addField 78 = .ok (.return_, 1) := by decide +kernel
theorem dX5_addRecord_0 : decode cX5_addRecord 0 = .ok (.iload_n 1, 1) := by decide +kernel
theorem dX5_addRecord_1 : decode cX5_addRecord 1 = .ok (.bipush 6, 2) := by decide +kernel
theorem dX5_addRecord_3 : decode cX5_addRecord 3 = .ok (.imul, 1) := by decide +kernel
theorem dX5_addRecord_4 : decode cX5_addRecord 4 = .ok (.aload_n 0, 1) := by decide +kernel
theorem dX5_addRecord_5 : decode cX5_addRecord 5 = .ok (.iload_n 1, 1) := by decide +kernel
theorem dX5_addRecord_6 : decode cX5_addRecord 6 = .ok (.invokevirtual 98, 3) := by decide +kernel
theorem dX5_addRecord_9 : decode cX5_addRecord 9 = .ok (.iadd, 1) := by decide +kernel
theorem dX5_addRecord_10 : decode cX5_addRecord 10 = .ok (.istore 4, 2) := by decide +kernel
theorem dX5_addRecord_12 : decode cX5_addRecord 12 = .ok (.iload_n 1, 1) := by decide +kernel
theorem dX5_addRecord_13 : decode cX5_addRecord 13 = .ok (.ifCond .lt 51, 3) := by decide +kernel
theorem dX5_addRecord_16 : decode cX5_addRecord 16 = .ok (.iload_n 1, 1) := by decide +kernel
theorem dX5_addRecord_17 : decode cX5_addRecord 17 = .ok (.bipush 6, 2) := by decide +kernel
theorem dX5_addRecord_19 : decode cX5_addRecord 19 = .ok (.if_icmp .ge 45, 3) := by decide +kernel
theorem dX5_addRecord_22 : decode cX5_addRecord 22 = .ok (.iload 4, 2) := by decide +kernel
theorem dX5_addRecord_24 : decode cX5_addRecord 24 = .ok (.invokestatic 71, 3) := by decide +kernel
theorem dX5_addRecord_27 : decode cX5_addRecord 27 = .ok (.ifCond .eq 37, 3) := by decide +kernel
theorem dX5_addRecord_30 : decode cX5_addRecord 30 = .ok (.aload_n 0, 1) := by decide +kernel
theorem dX5_addRecord_31 : decode cX5_addRecord 31 = .ok (.getfield 28, 3) := by decide +kernel
theorem dX5_addRecord_34 : decode cX5_addRecord 34 = .ok (.iload 4, 2) := by decide +kernel
theorem dX5_addRecord_36 : decode cX5_addRecord 36 = .ok (.lload_n 2, 1) := by decide +kernel
theorem dX5_addRecord_37 : decode cX5_addRecord 37 = .ok (.lastore, 1) := by decide +kernel
theorem dX5_addRecord_38 : decode cX5_addRecord 38 = .ok (.aload_n 0, 1) := by decide +kernel
theorem dX5_addRecord_39 : decode cX5_addRecord 39 = .ok (.getfield 25, 3) := by decide +kernel
theorem dX5_addRecord_42 : decode cX5_addRecord 42 = .ok (.iload 4, 2) := by decide +kernel
theorem dX5_addRecord_44 : decode cX5_addRecord 44 = .ok (.iconst 0, 1) := by decide +kernel
theorem dX5_addRecord_45 : decode cX5_addRecord 45 = .ok (.iastore, 1) := by decide +kernel
theorem dX5_addRecord_46 : decode cX5_addRecord 46 = .ok (.aload_n 0, 1) := by decide +kernel
theorem dX5_addRecord_47 : decode cX5_addRecord 47 = .ok (.getfield 32, 3) := by decide +kernel
theorem dX5_addRecord_50 : decode cX5_addRecord 50 = .ok (.iload 4, 2) := by decide +kernel
theorem dX5_addRecord_52 : decode cX5_addRecord 52 = .ok (.iconst 0, 1) := by decide +kernel
theorem dX5_addRecord_53 : decode cX5_addRecord 53 = .ok (.iastore, 1) := by decide +kernel
theorem dX5_addRecord_54 : decode cX5_addRecord 54 = .ok (.aload_n 0, 1) := by decide +kernel
theorem dX5_addRecord_55 : decode cX5_addRecord 55 = .ok (.getfield 18, 3) := by decide +kernel
theorem dX5_addRecord_58 : decode cX5_addRecord 58 = .ok (.iload_n 1, 1) := by decide +kernel
theorem dX5_addRecord_59 : decode cX5_addRecord 59 = .ok (.dup2, 1) := by decide +kernel
theorem dX5_addRecord_60 : decode cX5_addRecord 60 = .ok (.iaload, 1) := by decide +kernel
theorem dX5_addRecord_61 : decode cX5_addRecord 61 = .ok (.iconst 1, 1) := by decide +kernel
theorem dX5_addRecord_62 : decode cX5_addRecord 62 = .ok (.iadd, 1) := by decide +kernel
theorem dX5_addRecord_63 : decode cX5_addRecord 63 = .ok (.iastore, 1) := by decide +kernel
theorem dX5_addRecord_64 : decode cX5_addRecord 64 = .ok (.return_, 1) := by decide +kernel
theorem dX5_recordNamed_0 : decode cX5_recordNamed 0 = .ok (.iconst 0, 1) := by decide +kernel
theorem dX5_recordNamed_1 : decode cX5_recordNamed 1 = .ok (.istore 4, 2) := by decide +kernel
theorem dX5_recordNamed_3 : decode cX5_recordNamed 3 = .ok (.iload 4, 2) := by decide +kernel
theorem dX5_recordNamed_5 : decode cX5_recordNamed 5 = .ok (.aload_n 0, 1) := by decide +kernel
theorem dX5_recordNamed_6 : decode cX5_recordNamed 6 = .ok (.iload_n 1, 1) := by decide +kernel
theorem dX5_recordNamed_7 : decode cX5_recordNamed 7 = .ok (.invokevirtual 98, 3) := by decide +kernel
theorem dX5_recordNamed_10 : decode cX5_recordNamed 10 = .ok (.if_icmp .ge 33, 3) := by decide +kernel
theorem dX5_recordNamed_13 : decode cX5_recordNamed 13 = .ok (.aload_n 0, 1) := by decide +kernel
theorem dX5_recordNamed_14 : decode cX5_recordNamed 14 = .ok (.iload_n 1, 1) := by decide +kernel
theorem dX5_recordNamed_15 : decode cX5_recordNamed 15 = .ok (.bipush 6, 2) := by decide +kernel
theorem dX5_recordNamed_17 : decode cX5_recordNamed 17 = .ok (.imul, 1) := by decide +kernel
theorem dX5_recordNamed_18 : decode cX5_recordNamed 18 = .ok (.iload 4, 2) := by decide +kernel
theorem dX5_recordNamed_20 : decode cX5_recordNamed 20 = .ok (.iadd, 1) := by decide +kernel
theorem dX5_recordNamed_21 : decode cX5_recordNamed 21 = .ok (.invokevirtual 101, 3) := by decide +kernel
theorem dX5_recordNamed_24 : decode cX5_recordNamed 24 = .ok (.lload_n 2, 1) := by decide +kernel
theorem dX5_recordNamed_25 : decode cX5_recordNamed 25 = .ok (.lcmp, 1) := by decide +kernel
theorem dX5_recordNamed_26 : decode cX5_recordNamed 26 = .ok (.ifCond .ne 11, 3) := by decide +kernel
theorem dX5_recordNamed_29 : decode cX5_recordNamed 29 = .ok (.iload_n 1, 1) := by decide +kernel
theorem dX5_recordNamed_30 : decode cX5_recordNamed 30 = .ok (.bipush 6, 2) := by decide +kernel
theorem dX5_recordNamed_32 : decode cX5_recordNamed 32 = .ok (.imul, 1) := by decide +kernel
theorem dX5_recordNamed_33 : decode cX5_recordNamed 33 = .ok (.iload 4, 2) := by decide +kernel
theorem dX5_recordNamed_35 : decode cX5_recordNamed 35 = .ok (.iadd, 1) := by decide +kernel
theorem dX5_recordNamed_36 : decode cX5_recordNamed 36 = .ok (.ireturn, 1) := by decide +kernel
theorem dX5_recordNamed_37 : decode cX5_recordNamed 37 = .ok (.iinc 4 1, 3) := by decide +kernel
theorem dX5_recordNamed_40 : decode cX5_recordNamed 40 = .ok (.goto (-37), 3) := by decide +kernel
theorem dX5_recordNamed_43 : decode cX5_recordNamed 43 = .ok (.iconst (-1), 1) := by decide +kernel
theorem dX5_recordNamed_44 : decode cX5_recordNamed 44 = .ok (.ireturn, 1) := by decide +kernel
theorem dX5_setAsked_0 : decode cX5_setAsked 0 = .ok (.aload_n 0, 1) := by decide +kernel
theorem dX5_setAsked_1 : decode cX5_setAsked 1 = .ok (.iload_n 1, 1) := by decide +kernel
theorem dX5_setAsked_2 : decode cX5_setAsked 2 = .ok (.invokevirtual 79, 3) := by decide +kernel
theorem dX5_setAsked_5 : decode cX5_setAsked 5 = .ok (.ifCond .eq 18, 3) := by decide +kernel
theorem dX5_setAsked_8 : decode cX5_setAsked 8 = .ok (.aload_n 0, 1) := by decide +kernel
theorem dX5_setAsked_9 : decode cX5_setAsked 9 = .ok (.getfield 59, 3) := by decide +kernel
theorem dX5_setAsked_12 : decode cX5_setAsked 12 = .ok (.iload_n 1, 1) := by decide +kernel
theorem dX5_setAsked_13 : decode cX5_setAsked 13 = .ok (.lload_n 2, 1) := by decide +kernel
theorem dX5_setAsked_14 : decode cX5_setAsked 14 = .ok (.lastore, 1) := by decide +kernel
theorem dX5_setAsked_15 : decode cX5_setAsked 15 = .ok (.aload_n 0, 1) := by decide +kernel
theorem dX5_setAsked_16 : decode cX5_setAsked 16 = .ok (.getfield 62, 3) := by decide +kernel
theorem dX5_setAsked_19 : decode cX5_setAsked 19 = .ok (.iload_n 1, 1) := by decide +kernel
theorem dX5_setAsked_20 : decode cX5_setAsked 20 = .ok (.iload 4, 2) := by decide +kernel
theorem dX5_setAsked_22 : decode cX5_setAsked 22 = .ok (.iastore, 1) := by decide +kernel
theorem dX5_setAsked_23 : decode cX5_setAsked 23 = .ok (.return_, 1) := by decide +kernel
theorem dX5_setBranchAfter_0 : decode cX5_setBranchAfter 0 = .ok (.aload_n 0, 1) := by decide +kernel
theorem dX5_setBranchAfter_1 : decode cX5_setBranchAfter 1 = .ok (.iload_n 1, 1) := by decide +kernel
theorem dX5_setBranchAfter_2 : decode cX5_setBranchAfter 2 = .ok (.invokevirtual 79, 3) := by decide +kernel
theorem dX5_setBranchAfter_5 : decode cX5_setBranchAfter 5 = .ok (.ifCond .eq 10, 3) := by decide +kernel
theorem dX5_setBranchAfter_8 : decode cX5_setBranchAfter 8 = .ok (.aload_n 0, 1) := by decide +kernel
theorem dX5_setBranchAfter_9 : decode cX5_setBranchAfter 9 = .ok (.getfield 56, 3) := by decide +kernel
theorem dX5_setBranchAfter_12 : decode cX5_setBranchAfter 12 = .ok (.iload_n 1, 1) := by decide +kernel
theorem dX5_setBranchAfter_13 : decode cX5_setBranchAfter 13 = .ok (.iload_n 2, 1) := by decide +kernel
theorem dX5_setBranchAfter_14 : decode cX5_setBranchAfter 14 = .ok (.iastore, 1) := by decide +kernel
theorem dX5_setBranchAfter_15 : decode cX5_setBranchAfter 15 = .ok (.return_, 1) := by decide +kernel
theorem dX5_setType_0 : decode cX5_setType 0 = .ok (.iload_n 1, 1) := by decide +kernel
theorem dX5_setType_1 : decode cX5_setType 1 = .ok (.iload_n 2, 1) := by decide +kernel
theorem dX5_setType_2 : decode cX5_setType 2 = .ok (.invokestatic 75, 3) := by decide +kernel
theorem dX5_setType_5 : decode cX5_setType 5 = .ok (.ifCond .eq 15, 3) := by decide +kernel
theorem dX5_setType_8 : decode cX5_setType 8 = .ok (.aload_n 0, 1) := by decide +kernel
theorem dX5_setType_9 : decode cX5_setType 9 = .ok (.getfield 44, 3) := by decide +kernel
theorem dX5_setType_12 : decode cX5_setType 12 = .ok (.iload_n 1, 1) := by decide +kernel
theorem dX5_setType_13 : decode cX5_setType 13 = .ok (.bipush 8, 2) := by decide +kernel
theorem dX5_setType_15 : decode cX5_setType 15 = .ok (.imul, 1) := by decide +kernel
theorem dX5_setType_16 : decode cX5_setType 16 = .ok (.iload_n 2, 1) := by decide +kernel
theorem dX5_setType_17 : decode cX5_setType 17 = .ok (.iadd, 1) := by decide +kernel
theorem dX5_setType_18 : decode cX5_setType 18 = .ok (.iload_n 3, 1) := by decide +kernel
theorem dX5_setType_19 : decode cX5_setType 19 = .ok (.iastore, 1) := by decide +kernel
theorem dX5_setType_20 : decode cX5_setType 20 = .ok (.return_, 1) := by decide +kernel
theorem dX6_sortBegun_0 : decode cX6_sortBegun 0 = .ok (.aload_n 0, 1) := by decide +kernel
theorem dX6_sortBegun_1 : decode cX6_sortBegun 1 = .ok (.getfield 22, 3) := by decide +kernel
theorem dX6_sortBegun_4 : decode cX6_sortBegun 4 = .ok (.iconst 3, 1) := by decide +kernel
theorem dX6_sortBegun_5 : decode cX6_sortBegun 5 = .ok (.if_icmp .ne 6, 3) := by decide +kernel
theorem dX6_sortBegun_8 : decode cX6_sortBegun 8 = .ok (.bipush 7, 2) := by decide +kernel
theorem dX6_sortBegun_10 : decode cX6_sortBegun 10 = .ok (.ireturn, 1) := by decide +kernel
theorem dX6_sortBegun_11 : decode cX6_sortBegun 11 = .ok (.aload_n 0, 1) := by decide +kernel
theorem dX6_sortBegun_12 : decode cX6_sortBegun 12 = .ok (.getfield 22, 3) := by decide +kernel
theorem dX6_sortBegun_15 : decode cX6_sortBegun 15 = .ok (.iconst 2, 1) := by decide +kernel
theorem dX6_sortBegun_16 : decode cX6_sortBegun 16 = .ok (.if_icmp .eq 5, 3) := by decide +kernel
theorem dX6_sortBegun_19 : decode cX6_sortBegun 19 = .ok (.iconst (-1), 1) := by decide +kernel
theorem dX6_sortBegun_20 : decode cX6_sortBegun 20 = .ok (.ireturn, 1) := by decide +kernel
theorem dX6_sortBegun_21 : decode cX6_sortBegun 21 = .ok (.aload_n 0, 1) := by decide +kernel
theorem dX6_sortBegun_22 : decode cX6_sortBegun 22 = .ok (.getfield 28, 3) := by decide +kernel
theorem dX6_sortBegun_25 : decode cX6_sortBegun 25 = .ok (.iconst 4, 1) := by decide +kernel
theorem dX6_sortBegun_26 : decode cX6_sortBegun 26 = .ok (.if_icmp .ne 6, 3) := by decide +kernel
theorem dX6_sortBegun_29 : decode cX6_sortBegun 29 = .ok (.bipush 6, 2) := by decide +kernel
theorem dX6_sortBegun_31 : decode cX6_sortBegun 31 = .ok (.ireturn, 1) := by decide +kernel
theorem dX6_sortBegun_32 : decode cX6_sortBegun 32 = .ok (.aload_n 0, 1) := by decide +kernel
theorem dX6_sortBegun_33 : decode cX6_sortBegun 33 = .ok (.getfield 28, 3) := by decide +kernel
theorem dX6_sortBegun_36 : decode cX6_sortBegun 36 = .ok (.iconst 5, 1) := by decide +kernel
theorem dX6_sortBegun_37 : decode cX6_sortBegun 37 = .ok (.if_icmp .ne 6, 3) := by decide +kernel
theorem dX6_sortBegun_40 : decode cX6_sortBegun 40 = .ok (.bipush 8, 2) := by decide +kernel
theorem dX6_sortBegun_42 : decode cX6_sortBegun 42 = .ok (.ireturn, 1) := by decide +kernel
theorem dX6_sortBegun_43 : decode cX6_sortBegun 43 = .ok (.aload_n 0, 1) := by decide +kernel
theorem dX6_sortBegun_44 : decode cX6_sortBegun 44 = .ok (.getfield 28, 3) := by decide +kernel
theorem dX6_sortBegun_47 : decode cX6_sortBegun 47 = .ok (.bipush 7, 2) := by decide +kernel
theorem dX6_sortBegun_49 : decode cX6_sortBegun 49 = .ok (.if_icmp .lt 22, 3) := by decide +kernel
theorem dX6_sortBegun_52 : decode cX6_sortBegun 52 = .ok (.aload_n 0, 1) := by decide +kernel
theorem dX6_sortBegun_53 : decode cX6_sortBegun 53 = .ok (.getfield 28, 3) := by decide +kernel
theorem dX6_sortBegun_56 : decode cX6_sortBegun 56 = .ok (.bipush 12, 2) := by decide +kernel
theorem dX6_sortBegun_58 : decode cX6_sortBegun 58 = .ok (.if_icmp .gt 13, 3) := by decide +kernel
theorem dX6_sortBegun_61 : decode cX6_sortBegun 61 = .ok (.aload_n 0, 1) := by decide +kernel
theorem dX6_sortBegun_62 : decode cX6_sortBegun 62 = .ok (.getfield 28, 3) := by decide +kernel
theorem dX6_sortBegun_65 : decode cX6_sortBegun 65 = .ok (.bipush 7, 2) := by decide +kernel
theorem dX6_sortBegun_67 : decode cX6_sortBegun 67 = .ok (.isub, 1) := by decide +kernel
theorem dX6_sortBegun_68 : decode cX6_sortBegun 68 = .ok (.goto 4, 3) := by decide +kernel
theorem dX6_sortBegun_71 : decode cX6_sortBegun 71 = .ok (.iconst (-1), 1) := by decide +kernel
theorem dX6_sortBegun_72 : decode cX6_sortBegun 72 = .ok (.ireturn, 1) := by decide +kernel
def f_X3_parseFormerName (p0 : Int32) (p1 : Int32) (σ : ST) : Option (Int32 × ST) := (f_X6_isKeyword  2 σ).bind fun q1 => if q1.1 = 0 then (some (1, q1.2)) else ((f_X6_advance   q1.2).bind fun q3 => if (q3.1 2 4) = 3 then ((f_X5_fieldName 20 p0 p1 q3).bind fun q5 => if (lg_cmp (q3.2.1 2 7) q5.1) = 0 then ((f_X6_refuse  3 q5.2).bind fun q11 => if q11.1 = 0 ∨ q11.1 = 1 then some (q11.1, q11.2) else none) else ((f_X5_setFormerName 20 p0 p1 (q5.2.2.1 2 7) q5.2).bind fun q7 => (f_X6_advance   q7).bind fun q9 => some (1, q9))) else ((f_X6_refuse  1 q3).bind fun q13 => if q13.1 = 0 ∨ q13.1 = 1 then some (q13.1, q13.2) else none))

set_option maxRecDepth 100000 in
set_option maxHeartbeats 4000000 in
theorem b_X3_parseFormerName_e {p : Program} {l : Launch} {e : Env} {s : State} {m : MethodId} {args : Array Value} {below : List Frame} {meth : Method} {c : Code} {dC : Nat → ClassId} {dI : Nat → Nat → Nat} {a : Nat → Nat} {k : Nat → ClassId} {A : Nat → Prop} {q : Int32 × ST} (hC : CxA p s m args meth c dC dI k A cX3_parseFormerName RX3 (some .boolean) 3)   {p0 : Int32} {p1 : Int32} {σ : ST} (h : f_X3_parseFormerName  p0 p1 σ = some q) : GoA p l e ({ frames := 3, cells := 0, slots := 0, locals := 68 } : Room) s m args below meth c (MQ below (qAi dC dI a k A q) args s 0 0 A) dC dI a k A 3 0 σ (lv_args 0 [.ref (a 36), .int p0, .int p1]) [] := by
  have hC0 := hC
  obtain ⟨hx, hb, hr, hml, hown, hts, hlocks, hA, hN, hK⟩ := hC0
  intro H locs ls hP hD hS hl
  have hD0 : ∀ σ1 : ST, va_D A (wA a k σ1) := fun σ1 => wA_D hD
  replace hl : lv_has ls 3 [(0, .ref (a 36)), (1, .int p0), (2, .int p1)] := hl
  unfold f_X3_parseFormerName at h
  refine lv_aload_n hx hb dX3_parseFormerName_0 rfl (lv_at hl 0 rfl) ?_
  refine va_get (D := (dC, dI)) (ci := 3) (C := RX3) (T := TX3) (N := 2) hx hb hts inlX3 hown hK hP 36 gA_36 rfl 0 (by decide) (hts (.fieldLink RX3 9 "ShapeReader$PlanText" "tokens" "LShapeReader$Tokens;") mw_7_1) (fun _ h9 => h9) rfl dX3_parseFormerName_1 ?_
  refine lv_iconst (v := 2) hx hb dX3_parseFormerName_4 (by decide) ?_
  obtain ⟨q1, hc, h⟩ := ib h
  have hF := va_frees hD hS hA
  refine va_calli (va_runV (As := [.int 2]) (rest := []) ⟨hx, hb, hml, hown, hts⟩ (s_X6_isKeyword hc) (cwV 1 hts (gV mw_7_7 mw_7_8 mw_7_9 mw_0_10 mw_51_15) rfl rfl rfl (by decide +kernel) ⟨(Nat.le_of_ble_eq_true rfl), (Nat.le_of_ble_eq_true rfl)⟩) (vV (ci := 6) (q0 := 2) hK hP hD hN rfl gA_2) rfl rfl hl.1 rfl (lv_room (Nat.le_of_ble_eq_true rfl)) dX3_parseFormerName_5 ⟨(Nat.le_of_ble_eq_true rfl), (Nat.le_of_ble_eq_true rfl)⟩) hS (fun q _ h => hF q h) hF (fun r2 u t H locs ht hvm hw hB _ _ hS => ?_)
  obtain rfl : r2 = q1.1 := hw
  replace hP : va_P (dC, dI) vwCl (wA a k q1.2) H := by rw [← ht]; exact hB.1
  replace hD := hD0 (q1.2)
  clear hB hF
  refine lv_if_ne (tgt := 13) hx hb dX3_parseFormerName_8 (by decide) (fun hc => ?_) (fun hc => ?_)
  · replace h := iq hc h
    refine lv_aload_n hx hb dX3_parseFormerName_13 rfl (lv_at hl 0 rfl) ?_
    refine va_get (D := (dC, dI)) (ci := 3) (C := RX3) (T := TX3) (N := 2) hx hb hts inlX3 hown hK hP 36 gA_36 rfl 0 (by decide) (hts (.fieldLink RX3 9 "ShapeReader$PlanText" "tokens" "LShapeReader$Tokens;") mw_7_1) (fun _ h9 => h9) rfl dX3_parseFormerName_14 ?_
    obtain ⟨q3, hc, h⟩ := ib h
    have hF := va_frees hD hS hA
    refine va_callv (va_runV (As := []) (rest := []) ⟨hx, hb, hml, hown, hts⟩ (s_X6_advance hc) (cwV 0 hts (gV mw_8_5 mw_8_6 mw_8_7 mw_0_10 mw_51_8) rfl rfl rfl (by decide +kernel) ⟨(Nat.le_of_ble_eq_true rfl), (Nat.le_of_ble_eq_true rfl)⟩) (vV (ci := 6) (q0 := 2) hK hP hD hN rfl gA_2) rfl rfl hl.1 rfl (lv_room (Nat.le_of_ble_eq_true rfl)) dX3_parseFormerName_17 ⟨(Nat.le_of_ble_eq_true rfl), (Nat.le_of_ble_eq_true rfl)⟩) hS (fun q _ h => hF q h) hF (fun u t H locs ht hvm hw hB _ _ hS => ?_)
    replace hP : va_P (dC, dI) vwCl (wA a k q3) H := by rw [← ht]; exact hB.1
    replace hD := hD0 (q3)
    clear hB hF
    refine lv_aload_n hx hb dX3_parseFormerName_20 rfl (lv_at hl 0 rfl) ?_
    refine va_get (D := (dC, dI)) (ci := 3) (C := RX3) (T := TX3) (N := 2) hx hb hts inlX3 hown hK hP 36 gA_36 rfl 0 (by decide) (hts (.fieldLink RX3 9 "ShapeReader$PlanText" "tokens" "LShapeReader$Tokens;") mw_7_1) (fun _ h9 => h9) rfl dX3_parseFormerName_21 ?_
    refine va_get (D := (dC, dI)) (ci := 6) (C := RX6) (T := TX6) (N := 14) hx hb hts inlX6 hown hK hP 2 gA_2 rfl 4 (by decide) (hts (.fieldLink RX3 37 "ShapeReader$Tokens" "kind" "I") mw_7_13) (fun _ h9 => h9) rfl dX3_parseFormerName_24 ?_
    refine lv_iconst (v := 3) hx hb dX3_parseFormerName_27 (by decide) ?_
    refine lv_icmp_eq (tgt := 40) hx hb dX3_parseFormerName_28 (by decide) (fun hc => ?_) (fun hc => ?_)
    · replace h := ip hc h
      refine lv_aload_n hx hb dX3_parseFormerName_40 rfl (lv_at hl 0 rfl) ?_
      refine va_get (D := (dC, dI)) (ci := 3) (C := RX3) (T := TX3) (N := 2) hx hb hts inlX3 hown hK hP 36 gA_36 rfl 0 (by decide) (hts (.fieldLink RX3 9 "ShapeReader$PlanText" "tokens" "LShapeReader$Tokens;") mw_7_1) (fun _ h9 => h9) rfl dX3_parseFormerName_41 ?_
      refine va_get (D := (dC, dI)) (ci := 6) (C := RX6) (T := TX6) (N := 14) hx hb hts inlX6 hown hK hP 2 gA_2 rfl 7 (by decide) (hts (.fieldLink RX3 66 "ShapeReader$Tokens" "letters" "J") mw_8_8) (fun _ h9 => h9) rfl dX3_parseFormerName_44 ?_
      refine lv_aload_n hx hb dX3_parseFormerName_47 rfl (lv_at hl 0 rfl) ?_
      refine va_get (D := (dC, dI)) (ci := 3) (C := RX3) (T := TX3) (N := 2) hx hb hts inlX3 hown hK hP 36 gA_36 rfl 1 (by decide) (hts (.fieldLink RX3 15 "ShapeReader$PlanText" "draft" "LShapeReader$Shapes;") mw_7_2) (fun _ h9 => h9) rfl dX3_parseFormerName_48 ?_
      refine lv_iload_n hx hb dX3_parseFormerName_51 rfl (lv_at hl 1 rfl) ?_
      refine lv_iload_n hx hb dX3_parseFormerName_52 rfl (lv_at hl 2 rfl) ?_
      obtain ⟨q5, hc, h⟩ := ib h
      have hF := va_frees hD hS hA
      refine va_calll (va_runV (As := [.int p0, .int p1]) (rest := [.long (q3.2.1 2 7)]) ⟨hx, hb, hml, hown, hts⟩ (s_X5_fieldName_20 hc) (cwV 2 hts (gV mw_9_29 mw_10_0 mw_10_1 mw_0_9 mw_50_1) rfl rfl rfl (by decide +kernel) ⟨(Nat.le_of_ble_eq_true rfl), (Nat.le_of_ble_eq_true rfl)⟩) (vV (ci := 5) (q0 := 20) hK hP hD hN rfl gA_20) rfl rfl hl.1 rfl (lv_room (Nat.le_of_ble_eq_true rfl)) dX3_parseFormerName_53 ⟨(Nat.le_of_ble_eq_true rfl), (Nat.le_of_ble_eq_true rfl)⟩) hS (fun q _ h => hF q h) hF (fun r6 u t H locs ht hvm hw hB _ _ hS => ?_)
      obtain rfl : r6 = q5.1 := hw
      replace hP : va_P (dC, dI) vwCl (wA a k q5.2) H := by rw [← ht]; exact hB.1
      replace hD := hD0 (q5.2)
      clear hB hF
      refine W.lcmp hx hb dX3_parseFormerName_56 ?_
      refine lv_if_ne (tgt := 69) hx hb dX3_parseFormerName_57 (by decide) (fun hc => ?_) (fun hc => ?_)
      · replace h := iq hc h
        refine lv_aload_n hx hb dX3_parseFormerName_69 rfl (lv_at hl 0 rfl) ?_
        refine va_get (D := (dC, dI)) (ci := 3) (C := RX3) (T := TX3) (N := 2) hx hb hts inlX3 hown hK hP 36 gA_36 rfl 1 (by decide) (hts (.fieldLink RX3 15 "ShapeReader$PlanText" "draft" "LShapeReader$Shapes;") mw_7_2) (fun _ h9 => h9) rfl dX3_parseFormerName_70 ?_
        refine lv_iload_n hx hb dX3_parseFormerName_73 rfl (lv_at hl 1 rfl) ?_
        refine lv_iload_n hx hb dX3_parseFormerName_74 rfl (lv_at hl 2 rfl) ?_
        refine lv_aload_n hx hb dX3_parseFormerName_75 rfl (lv_at hl 0 rfl) ?_
        refine va_get (D := (dC, dI)) (ci := 3) (C := RX3) (T := TX3) (N := 2) hx hb hts inlX3 hown hK hP 36 gA_36 rfl 0 (by decide) (hts (.fieldLink RX3 9 "ShapeReader$PlanText" "tokens" "LShapeReader$Tokens;") mw_7_1) (fun _ h9 => h9) rfl dX3_parseFormerName_76 ?_
        refine va_get (D := (dC, dI)) (ci := 6) (C := RX6) (T := TX6) (N := 14) hx hb hts inlX6 hown hK hP 2 gA_2 rfl 7 (by decide) (hts (.fieldLink RX3 66 "ShapeReader$Tokens" "letters" "J") mw_8_8) (fun _ h9 => h9) rfl dX3_parseFormerName_79 ?_
        obtain ⟨q7, hc, h⟩ := ib h
        have hF := va_frees hD hS hA
        refine va_callv (va_runV (As := [.int p0, .int p1, .long (q5.2.2.1 2 7)]) (rest := []) ⟨hx, hb, hml, hown, hts⟩ (s_X5_setFormerName_20 hc) (cwV 3 hts (gV mw_10_2 mw_10_3 mw_10_4 mw_0_9 mw_50_21) rfl rfl rfl (by decide +kernel) ⟨(Nat.le_of_ble_eq_true rfl), (Nat.le_of_ble_eq_true rfl)⟩) (vV (ci := 5) (q0 := 20) hK hP hD hN rfl gA_20) rfl rfl hl.1 rfl (lv_room (Nat.le_of_ble_eq_true rfl)) dX3_parseFormerName_82 ⟨(Nat.le_of_ble_eq_true rfl), (Nat.le_of_ble_eq_true rfl)⟩) hS (fun q _ h => hF q h) hF (fun u t H locs ht hvm hw hB _ _ hS => ?_)
        replace hP : va_P (dC, dI) vwCl (wA a k q7) H := by rw [← ht]; exact hB.1
        replace hD := hD0 (q7)
        clear hB hF
        refine lv_aload_n hx hb dX3_parseFormerName_85 rfl (lv_at hl 0 rfl) ?_
        refine va_get (D := (dC, dI)) (ci := 3) (C := RX3) (T := TX3) (N := 2) hx hb hts inlX3 hown hK hP 36 gA_36 rfl 0 (by decide) (hts (.fieldLink RX3 9 "ShapeReader$PlanText" "tokens" "LShapeReader$Tokens;") mw_7_1) (fun _ h9 => h9) rfl dX3_parseFormerName_86 ?_
        obtain ⟨q9, hc, h⟩ := ib h
        have hF := va_frees hD hS hA
        refine va_callv (va_runV (As := []) (rest := []) ⟨hx, hb, hml, hown, hts⟩ (s_X6_advance hc) (cwV 0 hts (gV mw_8_5 mw_8_6 mw_8_7 mw_0_10 mw_51_8) rfl rfl rfl (by decide +kernel) ⟨(Nat.le_of_ble_eq_true rfl), (Nat.le_of_ble_eq_true rfl)⟩) (vV (ci := 6) (q0 := 2) hK hP hD hN rfl gA_2) rfl rfl hl.1 rfl (lv_room (Nat.le_of_ble_eq_true rfl)) dX3_parseFormerName_89 ⟨(Nat.le_of_ble_eq_true rfl), (Nat.le_of_ble_eq_true rfl)⟩) hS (fun q _ h => hF q h) hF (fun u t H locs ht hvm hw hB _ _ hS => ?_)
        replace hP : va_P (dC, dI) vwCl (wA a k q9) H := by rw [← ht]; exact hB.1
        replace hD := hD0 (q9)
        clear hB hF
        refine lv_iconst (v := 1) hx hb dX3_parseFormerName_92 (by decide) ?_
        obtain rfl := Option.some.inj h
        exact W.zret hx hb hr rfl (fun t ht hW => ⟨⟨_, (), rfl, rfl, ⟨by rw [ht]; exact hP, va_K.moved hW.alike hK, hD⟩⟩, hS.F ht⟩) hS.2.2 dX3_parseFormerName_93
      · replace h := ip hc h
        refine lv_aload_n hx hb dX3_parseFormerName_60 rfl (lv_at hl 0 rfl) ?_
        refine va_get (D := (dC, dI)) (ci := 3) (C := RX3) (T := TX3) (N := 2) hx hb hts inlX3 hown hK hP 36 gA_36 rfl 0 (by decide) (hts (.fieldLink RX3 9 "ShapeReader$PlanText" "tokens" "LShapeReader$Tokens;") mw_7_1) (fun _ h9 => h9) rfl dX3_parseFormerName_61 ?_
        refine lv_iconst (v := 3) hx hb dX3_parseFormerName_64 (by decide) ?_
        obtain ⟨q11, hc, h⟩ := ib h
        have hF := va_frees hD hS hA
        refine va_calli (va_runV (As := [.int 3]) (rest := []) ⟨hx, hb, hml, hown, hts⟩ (s_X6_refuse hc) (cwV 1 hts (gV mw_7_14 mw_7_15 mw_7_16 mw_0_10 mw_51_4) rfl rfl rfl (by decide +kernel) ⟨(Nat.le_of_ble_eq_true rfl), (Nat.le_of_ble_eq_true rfl)⟩) (vV (ci := 6) (q0 := 2) hK hP hD hN rfl gA_2) rfl rfl hl.1 rfl (lv_room (Nat.le_of_ble_eq_true rfl)) dX3_parseFormerName_65 ⟨(Nat.le_of_ble_eq_true rfl), (Nat.le_of_ble_eq_true rfl)⟩) hS (fun q _ h => hF q h) hF (fun r12 u t H locs ht hvm hw hB _ _ hS => ?_)
        obtain rfl : r12 = q11.1 := hw
        replace hP : va_P (dC, dI) vwCl (wA a k q11.2) H := by rw [← ht]; exact hB.1
        replace hD := hD0 (q11.2)
        clear hB hF
        obtain ⟨hg, h⟩ := ig h
        obtain rfl := Option.some.inj h
        exact W.zret hx hb hr (zn hg) (fun t ht hW => ⟨⟨_, (), rfl, rfl, ⟨by rw [ht]; exact hP, va_K.moved hW.alike hK, hD⟩⟩, hS.F ht⟩) hS.2.2 dX3_parseFormerName_68
    · replace h := iq hc h
      refine lv_aload_n hx hb dX3_parseFormerName_31 rfl (lv_at hl 0 rfl) ?_
      refine va_get (D := (dC, dI)) (ci := 3) (C := RX3) (T := TX3) (N := 2) hx hb hts inlX3 hown hK hP 36 gA_36 rfl 0 (by decide) (hts (.fieldLink RX3 9 "ShapeReader$PlanText" "tokens" "LShapeReader$Tokens;") mw_7_1) (fun _ h9 => h9) rfl dX3_parseFormerName_32 ?_
      refine lv_iconst (v := 1) hx hb dX3_parseFormerName_35 (by decide) ?_
      obtain ⟨q13, hc, h⟩ := ib h
      have hF := va_frees hD hS hA
      refine va_calli (va_runV (As := [.int 1]) (rest := []) ⟨hx, hb, hml, hown, hts⟩ (s_X6_refuse hc) (cwV 1 hts (gV mw_7_14 mw_7_15 mw_7_16 mw_0_10 mw_51_4) rfl rfl rfl (by decide +kernel) ⟨(Nat.le_of_ble_eq_true rfl), (Nat.le_of_ble_eq_true rfl)⟩) (vV (ci := 6) (q0 := 2) hK hP hD hN rfl gA_2) rfl rfl hl.1 rfl (lv_room (Nat.le_of_ble_eq_true rfl)) dX3_parseFormerName_36 ⟨(Nat.le_of_ble_eq_true rfl), (Nat.le_of_ble_eq_true rfl)⟩) hS (fun q _ h => hF q h) hF (fun r14 u t H locs ht hvm hw hB _ _ hS => ?_)
      obtain rfl : r14 = q13.1 := hw
      replace hP : va_P (dC, dI) vwCl (wA a k q13.2) H := by rw [← ht]; exact hB.1
      replace hD := hD0 (q13.2)
      clear hB hF
      obtain ⟨hg, h⟩ := ig h
      obtain rfl := Option.some.inj h
      exact W.zret hx hb hr (zn hg) (fun t ht hW => ⟨⟨_, (), rfl, rfl, ⟨by rw [ht]; exact hP, va_K.moved hW.alike hK, hD⟩⟩, hS.F ht⟩) hS.2.2 dX3_parseFormerName_39
  · replace h := ip hc h
    refine lv_iconst (v := 1) hx hb dX3_parseFormerName_11 (by decide) ?_
    obtain rfl := Option.some.inj h
    exact W.zret hx hb hr rfl (fun t ht hW => ⟨⟨_, (), rfl, rfl, ⟨by rw [ht]; exact hP, va_K.moved hW.alike hK, hD⟩⟩, hS.F ht⟩) hS.2.2 dX3_parseFormerName_12

theorem s_X3_parseFormerName {l : Launch} {dC : Nat → ClassId} {dI : Nat → Nat → Nat} {a : Nat → Nat} {k : Nat → ClassId} {sz : Nat} {p0 : Int32} {p1 : Int32} {σ : ST} {q : Int32 × ST} (h : f_X3_parseFormerName  p0 p1 σ = some q) : Met l yX3_parseFormerName (.code yX3_parseFormerName cX3_parseFormerName 3 (some .boolean) :: pw) ({ frames := 3, cells := 0, slots := 0, locals := 68 } : Room) (va_Pc [.ref (a 36), .int p0, .int p1] (vPre dC dI (wA a k σ) (tA k) sz)) (qAi dC dI a k (va_A (wA a k σ) sz) q) 0 0 (va_A (wA a k σ) sz) := metA (fun A => qAi dC dI a k A q) (plainFor_of_name (by decide)) (Nat.le_of_ble_eq_true rfl) (fun _ _ _ _ _ _ _ _ hC => b_X3_parseFormerName_e hC h)

def f_X5_setBranchAfter (b : Nat) (p0 : Int32) (p1 : Int32) (σ : ST) : Option (ST) := (f_X5_isType b p0 σ).bind fun q1 => if q1.1 = 0 then (some q1.2) else (if 0 ≤ p0.toInt ∧ p0.toInt < 262 then (some (stI q1.2 (b + 13) p0.toNatClampNeg p1)) else none)

set_option maxRecDepth 100000 in
set_option maxHeartbeats 4000000 in
theorem b_X5_setBranchAfter_e_20 {p : Program} {l : Launch} {e : Env} {s : State} {m : MethodId} {args : Array Value} {below : List Frame} {meth : Method} {c : Code} {dC : Nat → ClassId} {dI : Nat → Nat → Nat} {a : Nat → Nat} {k : Nat → ClassId} {A : Nat → Prop} {q : ST} (hC : CxA p s m args meth c dC dI k A cX5_setBranchAfter RX5 none 3)   {p0 : Int32} {p1 : Int32} {σ : ST} (h : f_X5_setBranchAfter 20 p0 p1 σ = some q) : GoA p l e ({ frames := 1, cells := 0, slots := 0, locals := 21 } : Room) s m args below meth c (MQ below (qAv dC dI a k A q) args s 0 0 A) dC dI a k A 3 0 σ (lv_args 0 [.ref (a 20), .int p0, .int p1]) [] := by
  have hC0 := hC
  obtain ⟨hx, hb, hr, hml, hown, hts, hlocks, hA, hN, hK⟩ := hC0
  intro H locs ls hP hD hS hl
  have hD0 : ∀ σ1 : ST, va_D A (wA a k σ1) := fun σ1 => wA_D hD
  replace hl : lv_has ls 3 [(0, .ref (a 20)), (1, .int p0), (2, .int p1)] := hl
  unfold f_X5_setBranchAfter at h
  refine lv_aload_n hx hb dX5_setBranchAfter_0 rfl (lv_at hl 0 rfl) ?_
  refine lv_iload_n hx hb dX5_setBranchAfter_1 rfl (lv_at hl 1 rfl) ?_
  obtain ⟨q1, hc, h⟩ := ib h
  have hF := va_frees hD hS hA
  refine va_calli (va_runV (As := [.int p0]) (rest := []) ⟨hx, hb, hml, hown, hts⟩ (s_X5_isType_20 hc) (cwV 1 hts (gV mw_15_9 mw_15_10 mw_15_11 mw_0_9 mw_49_26) rfl rfl rfl (by decide +kernel) ⟨(Nat.le_of_ble_eq_true rfl), (Nat.le_of_ble_eq_true rfl)⟩) (vV (ci := 5) (q0 := 20) hK hP hD hN rfl gA_20) rfl rfl hl.1 rfl (lv_room (Nat.le_of_ble_eq_true rfl)) dX5_setBranchAfter_2 ⟨(Nat.le_of_ble_eq_true rfl), (Nat.le_of_ble_eq_true rfl)⟩) hS (fun q _ h => hF q h) hF (fun r2 u t H locs ht hvm hw hB _ _ hS => ?_)
  obtain rfl : r2 = q1.1 := hw
  replace hP : va_P (dC, dI) vwCl (wA a k q1.2) H := by rw [← ht]; exact hB.1
  replace hD := hD0 (q1.2)
  clear hB hF
  refine lv_if_eq (tgt := 15) hx hb dX5_setBranchAfter_5 (by decide) (fun hc => ?_) (fun hc => ?_)
  · replace h := ip hc h
    obtain rfl := Option.some.inj h
    exact W.vret hx hb hr (fun t ht hW => ⟨⟨(), rfl, trivial, ⟨by rw [ht]; exact hP, va_K.moved hW.alike hK, hD⟩⟩, hS.F ht⟩) hS.2.2 dX5_setBranchAfter_15
  · replace h := iq hc h
    refine lv_aload_n hx hb dX5_setBranchAfter_8 rfl (lv_at hl 0 rfl) ?_
    refine va_get (D := (dC, dI)) (ci := 5) (C := RX5) (T := TX5) (N := 17) hx hb hts inlX5 hown hK hP 20 gA_20 rfl 14 (by decide) (hts (.fieldLink RX5 56 "ShapeReader$Shapes" "nextBranches" "[I") mw_15_1) (fun _ h9 => h9) rfl dX5_setBranchAfter_9 ?_
    refine lv_iload_n hx hb dX5_setBranchAfter_12 rfl (lv_at hl 1 rfl) ?_
    refine lv_iload_n hx hb dX5_setBranchAfter_13 rfl (lv_at hl 2 rfl) ?_
    obtain ⟨hg3, h⟩ := ig h
    refine va_iast hx hb hK hP hD hS 33 29 gA_33 yA_33 (vp_in_iff.mpr hg3) dX5_setBranchAfter_14 (fun H locs hP hD hS => ?_)
    replace hP := uA_33 hP
    replace hD := hD0 ((stI q1.2 33 p0.toNatClampNeg p1))
    obtain rfl := Option.some.inj h
    exact W.vret hx hb hr (fun t ht hW => ⟨⟨(), rfl, trivial, ⟨by rw [ht]; exact hP, va_K.moved hW.alike hK, hD⟩⟩, hS.F ht⟩) hS.2.2 dX5_setBranchAfter_15

theorem s_X5_setBranchAfter_20 {l : Launch} {dC : Nat → ClassId} {dI : Nat → Nat → Nat} {a : Nat → Nat} {k : Nat → ClassId} {sz : Nat} {p0 : Int32} {p1 : Int32} {σ : ST} {q : ST} (h : f_X5_setBranchAfter 20 p0 p1 σ = some q) : Met l yX5_setBranchAfter (.code yX5_setBranchAfter cX5_setBranchAfter 3 none :: pw) ({ frames := 1, cells := 0, slots := 0, locals := 21 } : Room) (va_Pc [.ref (a 20), .int p0, .int p1] (vPre dC dI (wA a k σ) (tA k) sz)) (qAv dC dI a k (va_A (wA a k σ) sz) q) 0 0 (va_A (wA a k σ) sz) := metA (fun A => qAv dC dI a k A q) (plainFor_of_name (by decide)) (Nat.le_of_ble_eq_true rfl) (fun _ _ _ _ _ _ _ _ hC => b_X5_setBranchAfter_e_20 hC h)

def f_X5_setAsked (b : Nat) (p0 : Int32) (p1 : Int64) (p2 : Int32) (σ : ST) : Option (ST) := (f_X5_isType b p0 σ).bind fun q1 => if q1.1 = 0 then (some q1.2) else (if 0 ≤ p0.toInt ∧ p0.toInt < 262 then (some (stI (stL q1.2 (b + 14) p0.toNatClampNeg p1) (b + 15) p0.toNatClampNeg p2)) else none)

set_option maxRecDepth 100000 in
set_option maxHeartbeats 4000000 in
theorem b_X5_setAsked_e_20 {p : Program} {l : Launch} {e : Env} {s : State} {m : MethodId} {args : Array Value} {below : List Frame} {meth : Method} {c : Code} {dC : Nat → ClassId} {dI : Nat → Nat → Nat} {a : Nat → Nat} {k : Nat → ClassId} {A : Nat → Prop} {q : ST} (hC : CxA p s m args meth c dC dI k A cX5_setAsked RX5 none 5)   {p0 : Int32} {p1 : Int64} {p2 : Int32} {σ : ST} (h : f_X5_setAsked 20 p0 p1 p2 σ = some q) : GoA p l e ({ frames := 1, cells := 0, slots := 0, locals := 21 } : Room) s m args below meth c (MQ below (qAv dC dI a k A q) args s 0 0 A) dC dI a k A 5 0 σ (lv_args 0 [.ref (a 20), .int p0, .long p1, .int p2]) [] := by
  have hC0 := hC
  obtain ⟨hx, hb, hr, hml, hown, hts, hlocks, hA, hN, hK⟩ := hC0
  intro H locs ls hP hD hS hl
  have hD0 : ∀ σ1 : ST, va_D A (wA a k σ1) := fun σ1 => wA_D hD
  replace hl : lv_has ls 5 [(0, .ref (a 20)), (1, .int p0), (2, .long p1), (4, .int p2)] := hl
  unfold f_X5_setAsked at h
  refine lv_aload_n hx hb dX5_setAsked_0 rfl (lv_at hl 0 rfl) ?_
  refine lv_iload_n hx hb dX5_setAsked_1 rfl (lv_at hl 1 rfl) ?_
  obtain ⟨q1, hc, h⟩ := ib h
  have hF := va_frees hD hS hA
  refine va_calli (va_runV (As := [.int p0]) (rest := []) ⟨hx, hb, hml, hown, hts⟩ (s_X5_isType_20 hc) (cwV 1 hts (gV mw_15_9 mw_15_10 mw_15_11 mw_0_9 mw_49_26) rfl rfl rfl (by decide +kernel) ⟨(Nat.le_of_ble_eq_true rfl), (Nat.le_of_ble_eq_true rfl)⟩) (vV (ci := 5) (q0 := 20) hK hP hD hN rfl gA_20) rfl rfl hl.1 rfl (lv_room (Nat.le_of_ble_eq_true rfl)) dX5_setAsked_2 ⟨(Nat.le_of_ble_eq_true rfl), (Nat.le_of_ble_eq_true rfl)⟩) hS (fun q _ h => hF q h) hF (fun r2 u t H locs ht hvm hw hB _ _ hS => ?_)
  obtain rfl : r2 = q1.1 := hw
  replace hP : va_P (dC, dI) vwCl (wA a k q1.2) H := by rw [← ht]; exact hB.1
  replace hD := hD0 (q1.2)
  clear hB hF
  refine lv_if_eq (tgt := 23) hx hb dX5_setAsked_5 (by decide) (fun hc => ?_) (fun hc => ?_)
  · replace h := ip hc h
    obtain rfl := Option.some.inj h
    exact W.vret hx hb hr (fun t ht hW => ⟨⟨(), rfl, trivial, ⟨by rw [ht]; exact hP, va_K.moved hW.alike hK, hD⟩⟩, hS.F ht⟩) hS.2.2 dX5_setAsked_23
  · replace h := iq hc h
    refine lv_aload_n hx hb dX5_setAsked_8 rfl (lv_at hl 0 rfl) ?_
    refine va_get (D := (dC, dI)) (ci := 5) (C := RX5) (T := TX5) (N := 17) hx hb hts inlX5 hown hK hP 20 gA_20 rfl 15 (by decide) (hts (.fieldLink RX5 59 "ShapeReader$Shapes" "askedNames" "[J") mw_15_2) (fun _ h9 => h9) rfl dX5_setAsked_9 ?_
    refine lv_iload_n hx hb dX5_setAsked_12 rfl (lv_at hl 1 rfl) ?_
    refine lv_lload_n hx hb dX5_setAsked_13 rfl (lv_at hl 2 rfl) ?_
    obtain ⟨hg3, h⟩ := ig h
    refine va_last hx hb hK hP hD hS 34 30 gA_34 yA_34 (vp_in_iff.mpr hg3) dX5_setAsked_14 (fun H locs hP hD hS => ?_)
    replace hP := uA_34 hP
    replace hD := hD0 ((stL q1.2 34 p0.toNatClampNeg p1))
    refine lv_aload_n hx hb dX5_setAsked_15 rfl (lv_at hl 0 rfl) ?_
    refine va_get (D := (dC, dI)) (ci := 5) (C := RX5) (T := TX5) (N := 17) hx hb hts inlX5 hown hK hP 20 gA_20 rfl 16 (by decide) (hts (.fieldLink RX5 62 "ShapeReader$Shapes" "askedPlaces" "[I") mw_15_3) (fun _ h9 => h9) rfl dX5_setAsked_16 ?_
    refine lv_iload_n hx hb dX5_setAsked_19 rfl (lv_at hl 1 rfl) ?_
    refine lv_iload hx hb dX5_setAsked_20 (lv_at hl 3 rfl) ?_
    refine va_iast hx hb hK hP hD hS 35 31 gA_35 yA_35 (vp_in_iff.mpr hg3) dX5_setAsked_22 (fun H locs hP hD hS => ?_)
    replace hP := uA_35 hP
    replace hD := hD0 ((stI (stL q1.2 34 p0.toNatClampNeg p1) 35 p0.toNatClampNeg p2))
    obtain rfl := Option.some.inj h
    exact W.vret hx hb hr (fun t ht hW => ⟨⟨(), rfl, trivial, ⟨by rw [ht]; exact hP, va_K.moved hW.alike hK, hD⟩⟩, hS.F ht⟩) hS.2.2 dX5_setAsked_23

theorem s_X5_setAsked_20 {l : Launch} {dC : Nat → ClassId} {dI : Nat → Nat → Nat} {a : Nat → Nat} {k : Nat → ClassId} {sz : Nat} {p0 : Int32} {p1 : Int64} {p2 : Int32} {σ : ST} {q : ST} (h : f_X5_setAsked 20 p0 p1 p2 σ = some q) : Met l yX5_setAsked (.code yX5_setAsked cX5_setAsked 5 none :: pw) ({ frames := 1, cells := 0, slots := 0, locals := 21 } : Room) (va_Pc [.ref (a 20), .int p0, .long p1, .int p2] (vPre dC dI (wA a k σ) (tA k) sz)) (qAv dC dI a k (va_A (wA a k σ) sz) q) 0 0 (va_A (wA a k σ) sz) := metA (fun A => qAv dC dI a k A q) (plainFor_of_name (by decide)) (Nat.le_of_ble_eq_true rfl) (fun _ _ _ _ _ _ _ _ hC => b_X5_setAsked_e_20 hC h)

def f_X6_sortBegun (σ : ST) : Option (Int32 × ST) := if (σ.1 2 4) = 3 then (some (7, σ)) else (if (σ.1 2 4) = 2 then (if (σ.1 2 6) = 4 then (some (6, σ)) else (if (σ.1 2 6) = 5 then (some (8, σ)) else (if (σ.1 2 6) < 7 then (some ((-1), σ)) else (if 12 < (σ.1 2 6) then (some ((-1), σ)) else (some (((σ.1 2 6) - 7), σ)))))) else (some ((-1), σ)))

set_option maxRecDepth 100000 in
set_option maxHeartbeats 4000000 in
theorem b_X6_sortBegun_e {p : Program} {l : Launch} {e : Env} {s : State} {m : MethodId} {args : Array Value} {below : List Frame} {meth : Method} {c : Code} {dC : Nat → ClassId} {dI : Nat → Nat → Nat} {a : Nat → Nat} {k : Nat → ClassId} {A : Nat → Prop} {q : Int32 × ST} (hC : CxA p s m args meth c dC dI k A cX6_sortBegun RX6 (some .int) 1)    {σ : ST} (h : f_X6_sortBegun   σ = some q) : GoA p l e ({ frames := 0, cells := 0, slots := 0, locals := 0 } : Room) s m args below meth c (MQ below (qAi dC dI a k A q) args s 0 0 A) dC dI a k A 1 0 σ (lv_args 0 [.ref (a 2)]) [] := by
  have hC0 := hC
  obtain ⟨hx, hb, hr, hml, hown, hts, hlocks, hA, hN, hK⟩ := hC0
  intro H locs ls hP hD hS hl
  have hD0 : ∀ σ1 : ST, va_D A (wA a k σ1) := fun σ1 => wA_D hD
  replace hl : lv_has ls 1 [(0, .ref (a 2))] := hl
  unfold f_X6_sortBegun at h
  refine lv_aload_n hx hb dX6_sortBegun_0 rfl (lv_at hl 0 rfl) ?_
  refine va_get (D := (dC, dI)) (ci := 6) (C := RX6) (T := TX6) (N := 14) hx hb hts inlX6 hown hK hP 2 gA_2 rfl 4 (by decide) (hts (.fieldLink RX6 22 "ShapeReader$Tokens" "kind" "I") mw_16_10) (fun _ h9 => h9) rfl dX6_sortBegun_1 ?_
  refine lv_iconst (v := 3) hx hb dX6_sortBegun_4 (by decide) ?_
  refine lv_icmp_ne (tgt := 11) hx hb dX6_sortBegun_5 (by decide) (fun hc => ?_) (fun hc => ?_)
  · replace h := iq hc h
    refine lv_aload_n hx hb dX6_sortBegun_11 rfl (lv_at hl 0 rfl) ?_
    refine va_get (D := (dC, dI)) (ci := 6) (C := RX6) (T := TX6) (N := 14) hx hb hts inlX6 hown hK hP 2 gA_2 rfl 4 (by decide) (hts (.fieldLink RX6 22 "ShapeReader$Tokens" "kind" "I") mw_16_10) (fun _ h9 => h9) rfl dX6_sortBegun_12 ?_
    refine lv_iconst (v := 2) hx hb dX6_sortBegun_15 (by decide) ?_
    refine lv_icmp_eq (tgt := 21) hx hb dX6_sortBegun_16 (by decide) (fun hc => ?_) (fun hc => ?_)
    · replace h := ip hc h
      refine lv_aload_n hx hb dX6_sortBegun_21 rfl (lv_at hl 0 rfl) ?_
      refine va_get (D := (dC, dI)) (ci := 6) (C := RX6) (T := TX6) (N := 14) hx hb hts inlX6 hown hK hP 2 gA_2 rfl 6 (by decide) (hts (.fieldLink RX6 28 "ShapeReader$Tokens" "keyword" "I") mw_16_12) (fun _ h9 => h9) rfl dX6_sortBegun_22 ?_
      refine lv_iconst (v := 4) hx hb dX6_sortBegun_25 (by decide) ?_
      refine lv_icmp_ne (tgt := 32) hx hb dX6_sortBegun_26 (by decide) (fun hc => ?_) (fun hc => ?_)
      · replace h := iq hc h
        refine lv_aload_n hx hb dX6_sortBegun_32 rfl (lv_at hl 0 rfl) ?_
        refine va_get (D := (dC, dI)) (ci := 6) (C := RX6) (T := TX6) (N := 14) hx hb hts inlX6 hown hK hP 2 gA_2 rfl 6 (by decide) (hts (.fieldLink RX6 28 "ShapeReader$Tokens" "keyword" "I") mw_16_12) (fun _ h9 => h9) rfl dX6_sortBegun_33 ?_
        refine lv_iconst (v := 5) hx hb dX6_sortBegun_36 (by decide) ?_
        refine lv_icmp_ne (tgt := 43) hx hb dX6_sortBegun_37 (by decide) (fun hc => ?_) (fun hc => ?_)
        · replace h := iq hc h
          refine lv_aload_n hx hb dX6_sortBegun_43 rfl (lv_at hl 0 rfl) ?_
          refine va_get (D := (dC, dI)) (ci := 6) (C := RX6) (T := TX6) (N := 14) hx hb hts inlX6 hown hK hP 2 gA_2 rfl 6 (by decide) (hts (.fieldLink RX6 28 "ShapeReader$Tokens" "keyword" "I") mw_16_12) (fun _ h9 => h9) rfl dX6_sortBegun_44 ?_
          refine lv_bipush (v := 7) hx hb dX6_sortBegun_47 (by decide) ?_
          refine lv_icmp_lt (tgt := 71) hx hb dX6_sortBegun_49 (by decide) (fun hc => ?_) (fun hc => ?_)
          · replace h := ip hc h
            refine lv_iconst (v := (-1)) hx hb dX6_sortBegun_71 (by decide) ?_
            obtain rfl := Option.some.inj h
            exact W.iret hx hb hr (fun t ht hW => ⟨⟨_, (), rfl, rfl, ⟨by rw [ht]; exact hP, va_K.moved hW.alike hK, hD⟩⟩, hS.F ht⟩) hS.2.2 dX6_sortBegun_72
          · replace h := iq hc h
            refine lv_aload_n hx hb dX6_sortBegun_52 rfl (lv_at hl 0 rfl) ?_
            refine va_get (D := (dC, dI)) (ci := 6) (C := RX6) (T := TX6) (N := 14) hx hb hts inlX6 hown hK hP 2 gA_2 rfl 6 (by decide) (hts (.fieldLink RX6 28 "ShapeReader$Tokens" "keyword" "I") mw_16_12) (fun _ h9 => h9) rfl dX6_sortBegun_53 ?_
            refine lv_bipush (v := 12) hx hb dX6_sortBegun_56 (by decide) ?_
            refine lv_icmp_gt (tgt := 71) hx hb dX6_sortBegun_58 (by decide) (fun hc => ?_) (fun hc => ?_)
            · replace h := ip hc h
              refine lv_iconst (v := (-1)) hx hb dX6_sortBegun_71 (by decide) ?_
              obtain rfl := Option.some.inj h
              exact W.iret hx hb hr (fun t ht hW => ⟨⟨_, (), rfl, rfl, ⟨by rw [ht]; exact hP, va_K.moved hW.alike hK, hD⟩⟩, hS.F ht⟩) hS.2.2 dX6_sortBegun_72
            · replace h := iq hc h
              refine lv_aload_n hx hb dX6_sortBegun_61 rfl (lv_at hl 0 rfl) ?_
              refine va_get (D := (dC, dI)) (ci := 6) (C := RX6) (T := TX6) (N := 14) hx hb hts inlX6 hown hK hP 2 gA_2 rfl 6 (by decide) (hts (.fieldLink RX6 28 "ShapeReader$Tokens" "keyword" "I") mw_16_12) (fun _ h9 => h9) rfl dX6_sortBegun_62 ?_
              refine lv_bipush (v := 7) hx hb dX6_sortBegun_65 (by decide) ?_
              refine lv_isub hx hb dX6_sortBegun_67 ?_
              refine lv_goto (tgt := 72) hx hb dX6_sortBegun_68 (by decide) ?_
              obtain rfl := Option.some.inj h
              exact W.iret hx hb hr (fun t ht hW => ⟨⟨_, (), rfl, rfl, ⟨by rw [ht]; exact hP, va_K.moved hW.alike hK, hD⟩⟩, hS.F ht⟩) hS.2.2 dX6_sortBegun_72
        · replace h := ip hc h
          refine lv_bipush (v := 8) hx hb dX6_sortBegun_40 (by decide) ?_
          obtain rfl := Option.some.inj h
          exact W.iret hx hb hr (fun t ht hW => ⟨⟨_, (), rfl, rfl, ⟨by rw [ht]; exact hP, va_K.moved hW.alike hK, hD⟩⟩, hS.F ht⟩) hS.2.2 dX6_sortBegun_42
      · replace h := ip hc h
        refine lv_bipush (v := 6) hx hb dX6_sortBegun_29 (by decide) ?_
        obtain rfl := Option.some.inj h
        exact W.iret hx hb hr (fun t ht hW => ⟨⟨_, (), rfl, rfl, ⟨by rw [ht]; exact hP, va_K.moved hW.alike hK, hD⟩⟩, hS.F ht⟩) hS.2.2 dX6_sortBegun_31
    · replace h := iq hc h
      refine lv_iconst (v := (-1)) hx hb dX6_sortBegun_19 (by decide) ?_
      obtain rfl := Option.some.inj h
      exact W.iret hx hb hr (fun t ht hW => ⟨⟨_, (), rfl, rfl, ⟨by rw [ht]; exact hP, va_K.moved hW.alike hK, hD⟩⟩, hS.F ht⟩) hS.2.2 dX6_sortBegun_20
  · replace h := ip hc h
    refine lv_bipush (v := 7) hx hb dX6_sortBegun_8 (by decide) ?_
    obtain rfl := Option.some.inj h
    exact W.iret hx hb hr (fun t ht hW => ⟨⟨_, (), rfl, rfl, ⟨by rw [ht]; exact hP, va_K.moved hW.alike hK, hD⟩⟩, hS.F ht⟩) hS.2.2 dX6_sortBegun_10

theorem s_X6_sortBegun {l : Launch} {dC : Nat → ClassId} {dI : Nat → Nat → Nat} {a : Nat → Nat} {k : Nat → ClassId} {sz : Nat}  {σ : ST} {q : Int32 × ST} (h : f_X6_sortBegun   σ = some q) : Met l yX6_sortBegun (.code yX6_sortBegun cX6_sortBegun 1 (some .int) :: pw) ({ frames := 0, cells := 0, slots := 0, locals := 0 } : Room) (va_Pc [.ref (a 2)] (vPre dC dI (wA a k σ) (tA k) sz)) (qAi dC dI a k (va_A (wA a k σ) sz) q) 0 0 (va_A (wA a k σ) sz) := metA (fun A => qAi dC dI a k A q) (plainFor_of_name (by decide)) (Nat.le_of_ble_eq_true rfl) (fun _ _ _ _ _ _ _ _ hC => b_X6_sortBegun_e hC h)

def f_X3_parseBranches_110 (r_X3_parseBranches : Int32 → Int32 → ST → Option (Int32 × ST)) (r_X3_parseType : Int32 → Int32 → ST → Option (Int32 × ST)) (σ : ST) : Option (Int32 × ST) := some (1, σ)
def f_X3_parseBranches_64 (r_X3_parseBranches : Int32 → Int32 → ST → Option (Int32 × ST)) (r_X3_parseType : Int32 → Int32 → ST → Option (Int32 × ST)) (k10 : Int32 → Int32 → Int32 → Int32 → Int32 → ST → Option (Int32 × ST)) (x1 : Int32) (x2 : Int32) (x3 : Int32) (x5 : Int32) (x6 : Int32) (σ : ST) : Option (Int32 × ST) := (f_X5_sortOf 20 x6 σ).bind fun q1 => (f_X6_isKeyword  6 q1.2).bind fun q3 => if q3.1 = 0 then (if 0 < x5 then (f_X3_parseBranches_110 r_X3_parseBranches r_X3_parseType  q3.2) else ((f_X6_refuse  1 q3.2).bind fun q7 => if q7.1 = 0 then (some (0, q7.2)) else (f_X3_parseBranches_110 r_X3_parseBranches r_X3_parseType  q7.2))) else ((f_X6_advance   q3.2).bind fun q5 => k10 x1 x2 (x3 ||| (1 <<< (q1.1 &&& 31))) x6 (x5 + 1) q5)
def f_X3_parseBranches_10 (r_X3_parseBranches : Int32 → Int32 → ST → Option (Int32 × ST)) (r_X3_parseType : Int32 → Int32 → ST → Option (Int32 × ST)) : Nat → Int32 → Int32 → Int32 → Int32 → Int32 → ST → Option (Int32 × ST)
  | 0, _, _, _, _, _, _ => none
  | n + 1, x1, x2, x3, x4, x5, σ => if 4 < x5 then (some (0, σ)) else ((r_X3_parseType  (x2 + 1) x3 σ).bind fun q1 => if q1.1 = (-1) then (some (0, q1.2)) else (if x4 = (-1) then ((f_X5_setInner 20 x1 q1.1 q1.2).bind fun q5 => f_X3_parseBranches_64 r_X3_parseBranches r_X3_parseType (f_X3_parseBranches_10 r_X3_parseBranches r_X3_parseType n) x1 x2 x3 x5 q1.1 q5) else ((f_X5_setBranchAfter 20 x4 q1.1 q1.2).bind fun q3 => f_X3_parseBranches_64 r_X3_parseBranches r_X3_parseType (f_X3_parseBranches_10 r_X3_parseBranches r_X3_parseType n) x1 x2 x3 x5 q1.1 q3)))
def f_X3_parseBranches (r_X3_parseBranches : Int32 → Int32 → ST → Option (Int32 × ST)) (r_X3_parseType : Int32 → Int32 → ST → Option (Int32 × ST)) (p0 : Int32) (p1 : Int32) (σ : ST) : Option (Int32 × ST) := f_X3_parseBranches_10 r_X3_parseBranches r_X3_parseType FU p0 p1 256 (-1) 0 σ

def f_X3_parseType_116 (r_X3_parseBranches : Int32 → Int32 → ST → Option (Int32 × ST)) (r_X3_parseType : Int32 → Int32 → ST → Option (Int32 × ST)) (x1 : Int32) (x3 : Int32) (x4 : Int32) (σ : ST) : Option (Int32 × ST) := (f_X6_advance   σ).bind fun q1 => if x3 = 8 then ((r_X3_parseBranches  x4 x1 q1).bind fun q7 => if q7.1 = 0 then (some ((-1), q7.2)) else (some (x4, q7.2))) else (if x3 = 6 then ((r_X3_parseType  (x1 + 1) 0 q1).bind fun q3 => (f_X5_setInner 20 x4 q3.1 q3.2).bind fun q5 => if q3.1 = (-1) then (some ((-1), q5)) else (some (x4, q5))) else (some (x4, q1)))
def f_X3_parseType_49 (r_X3_parseBranches : Int32 → Int32 → ST → Option (Int32 × ST)) (r_X3_parseType : Int32 → Int32 → ST → Option (Int32 × ST)) (x1 : Int32) (x2 : Int32) (x3 : Int32) (y0 : Int32) (σ : ST) : Option (Int32 × ST) := if y0 = (-1) then ((f_X6_refuse  4 σ).bind fun q5 => some ((-1), q5.2)) else (if ((x2 >>> (x3 &&& 31)) &&& 1) = 0 then (if x3 = 7 then ((f_X5_setAsked 20 y0 (σ.2.1 2 7) (σ.1 2 5) σ).bind fun q1 => f_X3_parseType_116 r_X3_parseBranches r_X3_parseType x1 x3 y0 q1) else (f_X3_parseType_116 r_X3_parseBranches r_X3_parseType x1 x3 y0 σ)) else ((f_X6_refuse  5 σ).bind fun q3 => some ((-1), q3.2)))
def f_X3_parseType_37 (r_X3_parseBranches : Int32 → Int32 → ST → Option (Int32 × ST)) (r_X3_parseType : Int32 → Int32 → ST → Option (Int32 × ST)) (x1 : Int32) (x2 : Int32) (x3 : Int32) (σ : ST) : Option (Int32 × ST) := f_X3_parseType_49 r_X3_parseBranches r_X3_parseType x1 x2 x3 (-1) σ
def f_X3_parseType (r_X3_parseBranches : Int32 → Int32 → ST → Option (Int32 × ST)) (r_X3_parseType : Int32 → Int32 → ST → Option (Int32 × ST)) (p0 : Int32) (p1 : Int32) (σ : ST) : Option (Int32 × ST) := (f_X6_sortBegun   σ).bind fun q1 => if q1.1 = (-1) then ((f_X6_refuse  1 q1.2).bind fun q7 => some ((-1), q7.2)) else (if 3 < p0 then (f_X3_parseType_37 r_X3_parseBranches r_X3_parseType p0 p1 q1.1 q1.2) else ((f_J6_bitCount_0f7a4  p1 q1.2).bind fun q3 => if q3.1 ≤ 4 then ((f_X5_addType 20 q1.1 q3.2).bind fun q5 => f_X3_parseType_49 r_X3_parseBranches r_X3_parseType p0 p1 q1.1 q5.1 q5.2) else (f_X3_parseType_37 r_X3_parseBranches r_X3_parseType p0 p1 q1.1 q3.2)))

def R_X3_parseBranches : Nat → (Int32 → Int32 → ST → Option (Int32 × ST)) × (Int32 → Int32 → ST → Option (Int32 × ST))
  | 0 => ((fun _ _ _ => none), (fun _ _ _ => none))
  | n + 1 => (f_X3_parseBranches ((R_X3_parseBranches n).1) ((R_X3_parseBranches n).2), f_X3_parseType ((R_X3_parseBranches n).1) ((R_X3_parseBranches n).2))
def f_T_X3_parseBranches (p0 : Int32) (p1 : Int32) (σ : ST) : Option (Int32 × ST) := (R_X3_parseBranches FR).1 p0 p1 σ
def f_T_X3_parseType (p0 : Int32) (p1 : Int32) (σ : ST) : Option (Int32 × ST) := (R_X3_parseBranches FR).2 p0 p1 σ

set_option maxRecDepth 100000 in
set_option maxHeartbeats 4000000 in
theorem b_X3_parseBranches_110 {p : Program} {l : Launch} {e : Env} {s : State} {m : MethodId} {args : Array Value} {below : List Frame} {meth : Method} {c : Code} {dC : Nat → ClassId} {dI : Nat → Nat → Nat} {a : Nat → Nat} {k : Nat → ClassId} {A : Nat → Prop} {q : Int32 × ST} (hC : CxA p s m args meth c dC dI k A cX3_parseBranches RX3 (some .boolean) 7) {nn : Nat} {r_X3_parseBranches : Int32 → Int32 → ST → Option (Int32 × ST)} (hr_X3_parseBranches : ∀ {sz : Nat} {p0 : Int32} {p1 : Int32} {σ : ST} {q : Int32 × ST}, r_X3_parseBranches  p0 p1 σ = some q → Met l yX3_parseBranches (.code yX3_parseBranches cX3_parseBranches 7 (some .boolean) :: pw) ({ frames := 3 + nn, cells := 0, slots := 0, locals := 68 + 26 * nn } : Room) (va_Pc [.ref (a 36), .int p0, .int p1] (vPre dC dI (wA a k σ) (tA k) sz)) (qAi dC dI a k (va_A (wA a k σ) sz) q) 0 0 (va_A (wA a k σ) sz)) {r_X3_parseType : Int32 → Int32 → ST → Option (Int32 × ST)} (hr_X3_parseType : ∀ {sz : Nat} {p0 : Int32} {p1 : Int32} {σ : ST} {q : Int32 × ST}, r_X3_parseType  p0 p1 σ = some q → Met l yX3_parseType (.code yX3_parseType cX3_parseType 6 (some .int) :: pw) ({ frames := 3 + nn, cells := 0, slots := 0, locals := 68 + 26 * nn } : Room) (va_Pc [.ref (a 36), .int p0, .int p1] (vPre dC dI (wA a k σ) (tA k) sz)) (qAi dC dI a k (va_A (wA a k σ) sz) q) 0 0 (va_A (wA a k σ) sz))   {σ : ST} (h : f_X3_parseBranches_110 r_X3_parseBranches r_X3_parseType  σ = some q) : GoA p l e ({ frames := 3 + (nn + 1), cells := 0, slots := 0, locals := 68 + 26 * (nn + 1) } : Room) s m args below meth c (MQ below (qAi dC dI a k A q) args s 0 0 A) dC dI a k A 7 110 σ [] [] := by
  have hC0 := hC
  obtain ⟨hx, hb, hr, hml, hown, hts, hlocks, hA, hN, hK⟩ := hC0
  intro H locs ls hP hD hS hl
  have hD0 : ∀ σ1 : ST, va_D A (wA a k σ1) := fun σ1 => wA_D hD
  unfold f_X3_parseBranches_110 at h
  refine lv_iconst (v := 1) hx hb dX3_parseBranches_110 (by decide) ?_
  refine lv_goto (tgt := 115) hx hb dX3_parseBranches_111 (by decide) ?_
  obtain rfl := Option.some.inj h
  exact W.zret hx hb hr rfl (fun t ht hW => ⟨⟨_, (), rfl, rfl, ⟨by rw [ht]; exact hP, va_K.moved hW.alike hK, hD⟩⟩, hS.F ht⟩) hS.2.2 dX3_parseBranches_115

set_option maxRecDepth 100000 in
set_option maxHeartbeats 4000000 in
theorem b_X3_parseBranches_64 {p : Program} {l : Launch} {e : Env} {s : State} {m : MethodId} {args : Array Value} {below : List Frame} {meth : Method} {c : Code} {dC : Nat → ClassId} {dI : Nat → Nat → Nat} {a : Nat → Nat} {k : Nat → ClassId} {A : Nat → Prop} {q : Int32 × ST} (hC : CxA p s m args meth c dC dI k A cX3_parseBranches RX3 (some .boolean) 7) {nn : Nat} {r_X3_parseBranches : Int32 → Int32 → ST → Option (Int32 × ST)} (hr_X3_parseBranches : ∀ {sz : Nat} {p0 : Int32} {p1 : Int32} {σ : ST} {q : Int32 × ST}, r_X3_parseBranches  p0 p1 σ = some q → Met l yX3_parseBranches (.code yX3_parseBranches cX3_parseBranches 7 (some .boolean) :: pw) ({ frames := 3 + nn, cells := 0, slots := 0, locals := 68 + 26 * nn } : Room) (va_Pc [.ref (a 36), .int p0, .int p1] (vPre dC dI (wA a k σ) (tA k) sz)) (qAi dC dI a k (va_A (wA a k σ) sz) q) 0 0 (va_A (wA a k σ) sz)) {r_X3_parseType : Int32 → Int32 → ST → Option (Int32 × ST)} (hr_X3_parseType : ∀ {sz : Nat} {p0 : Int32} {p1 : Int32} {σ : ST} {q : Int32 × ST}, r_X3_parseType  p0 p1 σ = some q → Met l yX3_parseType (.code yX3_parseType cX3_parseType 6 (some .int) :: pw) ({ frames := 3 + nn, cells := 0, slots := 0, locals := 68 + 26 * nn } : Room) (va_Pc [.ref (a 36), .int p0, .int p1] (vPre dC dI (wA a k σ) (tA k) sz)) (qAi dC dI a k (va_A (wA a k σ) sz) q) 0 0 (va_A (wA a k σ) sz)) {k10 : Int32 → Int32 → Int32 → Int32 → Int32 → ST → Option (Int32 × ST)} (hk10 : ∀ (x1 : Int32) (x2 : Int32) (x3 : Int32) (x4 : Int32) (x5 : Int32) (σ : ST), k10 x1 x2 x3 x4 x5 σ = some q → GoA p l e ({ frames := 3 + (nn + 1), cells := 0, slots := 0, locals := 68 + 26 * (nn + 1) } : Room) s m args below meth c (MQ below (qAi dC dI a k A q) args s 0 0 A) dC dI a k A 7 10 σ [(0, .ref (a 36)), (1, .int x1), (2, .int x2), (3, .int x3), (4, .int x4), (5, .int x5)] []) {x1 : Int32} {x2 : Int32} {x3 : Int32} {x5 : Int32} {x6 : Int32} {σ : ST} (h : f_X3_parseBranches_64 r_X3_parseBranches r_X3_parseType k10 x1 x2 x3 x5 x6 σ = some q) : GoA p l e ({ frames := 3 + (nn + 1), cells := 0, slots := 0, locals := 68 + 26 * (nn + 1) } : Room) s m args below meth c (MQ below (qAi dC dI a k A q) args s 0 0 A) dC dI a k A 7 64 σ [(0, .ref (a 36)), (1, .int x1), (2, .int x2), (3, .int x3), (5, .int x5), (6, .int x6)] [] := by
  have hC0 := hC
  obtain ⟨hx, hb, hr, hml, hown, hts, hlocks, hA, hN, hK⟩ := hC0
  intro H locs ls hP hD hS hl
  have hD0 : ∀ σ1 : ST, va_D A (wA a k σ1) := fun σ1 => wA_D hD
  unfold f_X3_parseBranches_64 at h
  refine lv_iload hx hb dX3_parseBranches_64 (lv_at hl 5 rfl) ?_
  refine lv_istore (lv' := [(4, .int x6), (0, .ref (a 36)), (1, .int x1), (2, .int x2), (3, .int x3), (5, .int x5), (6, .int x6)]) hx hb dX3_parseBranches_66 hl (by decide) rfl (fun ls hl => ?_)
  refine lv_iload_n hx hb dX3_parseBranches_68 rfl (lv_at hl 4 rfl) ?_
  refine lv_iconst (v := 1) hx hb dX3_parseBranches_69 (by decide) ?_
  refine lv_aload_n hx hb dX3_parseBranches_70 rfl (lv_at hl 1 rfl) ?_
  refine va_get (D := (dC, dI)) (ci := 3) (C := RX3) (T := TX3) (N := 2) hx hb hts inlX3 hown hK hP 36 gA_36 rfl 1 (by decide) (hts (.fieldLink RX3 15 "ShapeReader$PlanText" "draft" "LShapeReader$Shapes;") mw_7_2) (fun _ h9 => h9) rfl dX3_parseBranches_71 ?_
  refine lv_iload hx hb dX3_parseBranches_74 (lv_at hl 6 rfl) ?_
  obtain ⟨q1, hc, h⟩ := ib h
  have hF := va_frees hD hS hA
  refine va_calli (va_runV (As := [.int x6]) (rest := [.int 1, .int x3]) ⟨hx, hb, hml, hown, hts⟩ (s_X5_sortOf_20 hc) (cwV 1 hts (gV mw_9_28 mw_2_13 mw_2_14 mw_0_9 mw_50_6) rfl rfl rfl (by decide +kernel) ⟨by show 1 + 1 ≤ 3 + (nn + 1); omega, by show 8 + (2 + 11) + 21 ≤ 68 + 26 * (nn + 1); omega⟩) (vV (ci := 5) (q0 := 20) hK hP hD hN rfl gA_20) rfl rfl hl.1 rfl (lv_room (Nat.le_of_ble_eq_true rfl)) dX3_parseBranches_76 ⟨(Nat.le_of_ble_eq_true rfl), (Nat.le_of_ble_eq_true rfl)⟩) hS (fun q _ h => hF q h) hF (fun r2 u t H locs ht hvm hw hB _ _ hS => ?_)
  obtain rfl : r2 = q1.1 := hw
  replace hP : va_P (dC, dI) vwCl (wA a k q1.2) H := by rw [← ht]; exact hB.1
  replace hD := hD0 (q1.2)
  clear hB hF
  refine lv_ishl hx hb dX3_parseBranches_79 ?_
  refine lv_ior hx hb dX3_parseBranches_80 ?_
  refine lv_istore_n (lv' := [(3, .int (x3 ||| (1 <<< (q1.1 &&& 31)))), (4, .int x6), (0, .ref (a 36)), (1, .int x1), (2, .int x2), (5, .int x5), (6, .int x6)]) hx hb dX3_parseBranches_81 rfl hl (by decide) rfl (fun ls hl => ?_)
  refine lv_aload_n hx hb dX3_parseBranches_82 rfl (lv_at hl 2 rfl) ?_
  refine va_get (D := (dC, dI)) (ci := 3) (C := RX3) (T := TX3) (N := 2) hx hb hts inlX3 hown hK hP 36 gA_36 rfl 0 (by decide) (hts (.fieldLink RX3 9 "ShapeReader$PlanText" "tokens" "LShapeReader$Tokens;") mw_7_1) (fun _ h9 => h9) rfl dX3_parseBranches_83 ?_
  refine lv_bipush (v := 6) hx hb dX3_parseBranches_86 (by decide) ?_
  obtain ⟨q3, hc, h⟩ := ib h
  have hF := va_frees hD hS hA
  refine va_calli (va_runV (As := [.int 6]) (rest := []) ⟨hx, hb, hml, hown, hts⟩ (s_X6_isKeyword hc) (cwV 1 hts (gV mw_7_7 mw_7_8 mw_7_9 mw_0_10 mw_51_15) rfl rfl rfl (by decide +kernel) ⟨by show 0 + 1 ≤ 3 + (nn + 1); omega, by show 8 + (2 + 11) + 0 ≤ 68 + 26 * (nn + 1); omega⟩) (vV (ci := 6) (q0 := 2) hK hP hD hN rfl gA_2) rfl rfl hl.1 rfl (lv_room (Nat.le_of_ble_eq_true rfl)) dX3_parseBranches_88 ⟨(Nat.le_of_ble_eq_true rfl), (Nat.le_of_ble_eq_true rfl)⟩) hS (fun q _ h => hF q h) hF (fun r4 u t H locs ht hvm hw hB _ _ hS => ?_)
  obtain rfl : r4 = q3.1 := hw
  replace hP : va_P (dC, dI) vwCl (wA a k q3.2) H := by rw [← ht]; exact hB.1
  replace hD := hD0 (q3.2)
  clear hB hF
  refine lv_if_ne (tgt := 116) hx hb dX3_parseBranches_91 (by decide) (fun hc => ?_) (fun hc => ?_)
  · replace h := iq hc h
    refine lv_aload_n hx hb dX3_parseBranches_116 rfl (lv_at hl 2 rfl) ?_
    refine va_get (D := (dC, dI)) (ci := 3) (C := RX3) (T := TX3) (N := 2) hx hb hts inlX3 hown hK hP 36 gA_36 rfl 0 (by decide) (hts (.fieldLink RX3 9 "ShapeReader$PlanText" "tokens" "LShapeReader$Tokens;") mw_7_1) (fun _ h9 => h9) rfl dX3_parseBranches_117 ?_
    obtain ⟨q5, hc, h⟩ := ib h
    have hF := va_frees hD hS hA
    refine va_callv (va_runV (As := []) (rest := []) ⟨hx, hb, hml, hown, hts⟩ (s_X6_advance hc) (cwV 0 hts (gV mw_8_5 mw_8_6 mw_8_7 mw_0_10 mw_51_8) rfl rfl rfl (by decide +kernel) ⟨by show 2 + 1 ≤ 3 + (nn + 1); omega, by show 8 + (2 + 11) + 47 ≤ 68 + 26 * (nn + 1); omega⟩) (vV (ci := 6) (q0 := 2) hK hP hD hN rfl gA_2) rfl rfl hl.1 rfl (lv_room (Nat.le_of_ble_eq_true rfl)) dX3_parseBranches_120 ⟨(Nat.le_of_ble_eq_true rfl), (Nat.le_of_ble_eq_true rfl)⟩) hS (fun q _ h => hF q h) hF (fun u t H locs ht hvm hw hB _ _ hS => ?_)
    replace hP : va_P (dC, dI) vwCl (wA a k q5) H := by rw [← ht]; exact hB.1
    replace hD := hD0 (q5)
    clear hB hF
    refine lv_iinc (v := (x5 + 1)) (lv' := [(5, .int (x5 + 1)), (3, .int (x3 ||| (1 <<< (q1.1 &&& 31)))), (4, .int x6), (0, .ref (a 36)), (1, .int x1), (2, .int x2), (6, .int x6)]) hx hb dX3_parseBranches_123 hl (k := 5) rfl rfl (by decide) rfl (fun ls hl => ?_)
    refine lv_goto (tgt := 10) hx hb dX3_parseBranches_126 (by decide) ?_
    exact hk10 _ _ _ _ _ _ h _ _ _ hP hD hS (lv_sub hl [3, 4, 5, 1, 2, 0] rfl)
  · replace h := ip hc h
    refine lv_iload hx hb dX3_parseBranches_94 (lv_at hl 5 rfl) ?_
    refine lv_if_gt (tgt := 110) hx hb dX3_parseBranches_96 (by decide) (fun hc => ?_) (fun hc => ?_)
    · replace h := ip hc h
      exact b_X3_parseBranches_110 hC hr_X3_parseBranches hr_X3_parseType h _ _ _ hP hD hS (lv_sub hl [] rfl)
    · replace h := iq hc h
      refine lv_aload_n hx hb dX3_parseBranches_99 rfl (lv_at hl 2 rfl) ?_
      refine va_get (D := (dC, dI)) (ci := 3) (C := RX3) (T := TX3) (N := 2) hx hb hts inlX3 hown hK hP 36 gA_36 rfl 0 (by decide) (hts (.fieldLink RX3 9 "ShapeReader$PlanText" "tokens" "LShapeReader$Tokens;") mw_7_1) (fun _ h9 => h9) rfl dX3_parseBranches_100 ?_
      refine lv_iconst (v := 1) hx hb dX3_parseBranches_103 (by decide) ?_
      obtain ⟨q7, hc, h⟩ := ib h
      have hF := va_frees hD hS hA
      refine va_calli (va_runV (As := [.int 1]) (rest := []) ⟨hx, hb, hml, hown, hts⟩ (s_X6_refuse hc) (cwV 1 hts (gV mw_7_14 mw_7_15 mw_7_16 mw_0_10 mw_51_4) rfl rfl rfl (by decide +kernel) ⟨by show 1 + 1 ≤ 3 + (nn + 1); omega, by show 8 + (2 + 11) + 22 ≤ 68 + 26 * (nn + 1); omega⟩) (vV (ci := 6) (q0 := 2) hK hP hD hN rfl gA_2) rfl rfl hl.1 rfl (lv_room (Nat.le_of_ble_eq_true rfl)) dX3_parseBranches_104 ⟨(Nat.le_of_ble_eq_true rfl), (Nat.le_of_ble_eq_true rfl)⟩) hS (fun q _ h => hF q h) hF (fun r8 u t H locs ht hvm hw hB _ _ hS => ?_)
      obtain rfl : r8 = q7.1 := hw
      replace hP : va_P (dC, dI) vwCl (wA a k q7.2) H := by rw [← ht]; exact hB.1
      replace hD := hD0 (q7.2)
      clear hB hF
      refine lv_if_eq (tgt := 114) hx hb dX3_parseBranches_107 (by decide) (fun hc => ?_) (fun hc => ?_)
      · replace h := ip hc h
        refine lv_iconst (v := 0) hx hb dX3_parseBranches_114 (by decide) ?_
        obtain rfl := Option.some.inj h
        exact W.zret hx hb hr rfl (fun t ht hW => ⟨⟨_, (), rfl, rfl, ⟨by rw [ht]; exact hP, va_K.moved hW.alike hK, hD⟩⟩, hS.F ht⟩) hS.2.2 dX3_parseBranches_115
      · replace h := iq hc h
        exact b_X3_parseBranches_110 hC hr_X3_parseBranches hr_X3_parseType h _ _ _ hP hD hS (lv_sub hl [] rfl)

set_option maxRecDepth 100000 in
set_option maxHeartbeats 4000000 in
theorem b_X3_parseBranches_10 {p : Program} {l : Launch} {e : Env} {s : State} {m : MethodId} {args : Array Value} {below : List Frame} {meth : Method} {c : Code} {dC : Nat → ClassId} {dI : Nat → Nat → Nat} {a : Nat → Nat} {k : Nat → ClassId} {A : Nat → Prop} {q : Int32 × ST} (hC : CxA p s m args meth c dC dI k A cX3_parseBranches RX3 (some .boolean) 7) {nn : Nat} {r_X3_parseBranches : Int32 → Int32 → ST → Option (Int32 × ST)} (hr_X3_parseBranches : ∀ {sz : Nat} {p0 : Int32} {p1 : Int32} {σ : ST} {q : Int32 × ST}, r_X3_parseBranches  p0 p1 σ = some q → Met l yX3_parseBranches (.code yX3_parseBranches cX3_parseBranches 7 (some .boolean) :: pw) ({ frames := 3 + nn, cells := 0, slots := 0, locals := 68 + 26 * nn } : Room) (va_Pc [.ref (a 36), .int p0, .int p1] (vPre dC dI (wA a k σ) (tA k) sz)) (qAi dC dI a k (va_A (wA a k σ) sz) q) 0 0 (va_A (wA a k σ) sz)) {r_X3_parseType : Int32 → Int32 → ST → Option (Int32 × ST)} (hr_X3_parseType : ∀ {sz : Nat} {p0 : Int32} {p1 : Int32} {σ : ST} {q : Int32 × ST}, r_X3_parseType  p0 p1 σ = some q → Met l yX3_parseType (.code yX3_parseType cX3_parseType 6 (some .int) :: pw) ({ frames := 3 + nn, cells := 0, slots := 0, locals := 68 + 26 * nn } : Room) (va_Pc [.ref (a 36), .int p0, .int p1] (vPre dC dI (wA a k σ) (tA k) sz)) (qAi dC dI a k (va_A (wA a k σ) sz) q) 0 0 (va_A (wA a k σ) sz))  : ∀ (n : Nat) (x1 : Int32) (x2 : Int32) (x3 : Int32) (x4 : Int32) (x5 : Int32) (σ : ST), f_X3_parseBranches_10 r_X3_parseBranches r_X3_parseType n x1 x2 x3 x4 x5 σ = some q → GoA p l e ({ frames := 3 + (nn + 1), cells := 0, slots := 0, locals := 68 + 26 * (nn + 1) } : Room) s m args below meth c (MQ below (qAi dC dI a k A q) args s 0 0 A) dC dI a k A 7 10 σ [(0, .ref (a 36)), (1, .int x1), (2, .int x2), (3, .int x3), (4, .int x4), (5, .int x5)] [] := by
  intro n
  induction n with
  | zero =>
    intro x1 x2 x3 x4 x5 σ h
    rw [f_X3_parseBranches_10] at h
    cases h
  | succ n ih =>
    intro x1 x2 x3 x4 x5 σ h
    have hC0 := hC
    obtain ⟨hx, hb, hr, hml, hown, hts, hlocks, hA, hN, hK⟩ := hC0
    intro H locs ls hP hD hS hl
    have hD0 : ∀ σ1 : ST, va_D A (wA a k σ1) := fun σ1 => wA_D hD
    rw [f_X3_parseBranches_10] at h
    refine lv_iload hx hb dX3_parseBranches_10 (lv_at hl 5 rfl) ?_
    refine lv_iconst (v := 4) hx hb dX3_parseBranches_12 (by decide) ?_
    refine lv_icmp_gt (tgt := 129) hx hb dX3_parseBranches_13 (by decide) (fun hc => ?_) (fun hc => ?_)
    · replace h := ip hc h
      refine lv_iconst (v := 0) hx hb dX3_parseBranches_129 (by decide) ?_
      obtain rfl := Option.some.inj h
      exact W.zret hx hb hr rfl (fun t ht hW => ⟨⟨_, (), rfl, rfl, ⟨by rw [ht]; exact hP, va_K.moved hW.alike hK, hD⟩⟩, hS.F ht⟩) hS.2.2 dX3_parseBranches_130
    · replace h := iq hc h
      refine lv_aload_n hx hb dX3_parseBranches_16 rfl (lv_at hl 0 rfl) ?_
      refine lv_iload_n hx hb dX3_parseBranches_17 rfl (lv_at hl 2 rfl) ?_
      refine lv_iconst (v := 1) hx hb dX3_parseBranches_18 (by decide) ?_
      refine lv_iadd hx hb dX3_parseBranches_19 ?_
      refine lv_iload_n hx hb dX3_parseBranches_20 rfl (lv_at hl 3 rfl) ?_
      obtain ⟨q1, hc, h⟩ := ib h
      have hF := va_frees hD hS hA
      refine va_calli (va_runV (As := [.int (x2 + 1), .int x3]) (rest := []) ⟨hx, hb, hml, hown, hts⟩ (hr_X3_parseType hc) (cwV 2 hts (gV mw_8_24 mw_8_25 mw_8_26 mw_0_7 mw_48_25) rfl rfl rfl (by decide +kernel) ⟨by show (3 + nn) + 1 ≤ 3 + (nn + 1); omega, by show 8 + (6 + 11) + (68 + 26 * nn) ≤ 68 + 26 * (nn + 1); omega⟩) (vV (ci := 3) (q0 := 36) hK hP hD hN rfl gA_36) rfl rfl hl.1 rfl (lv_room (Nat.le_of_ble_eq_true rfl)) dX3_parseBranches_21 ⟨(Nat.le_of_ble_eq_true rfl), (Nat.le_of_ble_eq_true rfl)⟩) hS (fun q _ h => hF q h) hF (fun r2 u t H locs ht hvm hw hB _ _ hS => ?_)
      obtain rfl : r2 = q1.1 := hw
      replace hP : va_P (dC, dI) vwCl (wA a k q1.2) H := by rw [← ht]; exact hB.1
      replace hD := hD0 (q1.2)
      clear hB hF
      refine lv_istore (lv' := [(6, .int q1.1), (0, .ref (a 36)), (1, .int x1), (2, .int x2), (3, .int x3), (4, .int x4), (5, .int x5)]) hx hb dX3_parseBranches_24 hl (by decide) rfl (fun ls hl => ?_)
      refine lv_iload hx hb dX3_parseBranches_26 (lv_at hl 0 rfl) ?_
      refine lv_iconst (v := (-1)) hx hb dX3_parseBranches_28 (by decide) ?_
      refine lv_icmp_ne (tgt := 34) hx hb dX3_parseBranches_29 (by decide) (fun hc => ?_) (fun hc => ?_)
      · replace h := iq hc h
        refine lv_iload hx hb dX3_parseBranches_34 (lv_at hl 5 rfl) ?_
        refine lv_iconst (v := (-1)) hx hb dX3_parseBranches_36 (by decide) ?_
        refine lv_icmp_ne (tgt := 53) hx hb dX3_parseBranches_37 (by decide) (fun hc => ?_) (fun hc => ?_)
        · replace h := iq hc h
          refine lv_aload_n hx hb dX3_parseBranches_53 rfl (lv_at hl 1 rfl) ?_
          refine va_get (D := (dC, dI)) (ci := 3) (C := RX3) (T := TX3) (N := 2) hx hb hts inlX3 hown hK hP 36 gA_36 rfl 1 (by decide) (hts (.fieldLink RX3 15 "ShapeReader$PlanText" "draft" "LShapeReader$Shapes;") mw_7_2) (fun _ h9 => h9) rfl dX3_parseBranches_54 ?_
          refine lv_iload hx hb dX3_parseBranches_57 (lv_at hl 5 rfl) ?_
          refine lv_iload hx hb dX3_parseBranches_59 (lv_at hl 0 rfl) ?_
          obtain ⟨q3, hc, h⟩ := ib h
          have hF := va_frees hD hS hA
          refine va_callv (va_runV (As := [.int x4, .int q1.1]) (rest := []) ⟨hx, hb, hml, hown, hts⟩ (s_X5_setBranchAfter_20 hc) (cwV 2 hts (gV mw_9_25 mw_9_26 mw_9_27 mw_0_9 mw_50_24) rfl rfl rfl (by decide +kernel) ⟨by show 1 + 1 ≤ 3 + (nn + 1); omega, by show 8 + (3 + 11) + 21 ≤ 68 + 26 * (nn + 1); omega⟩) (vV (ci := 5) (q0 := 20) hK hP hD hN rfl gA_20) rfl rfl hl.1 rfl (lv_room (Nat.le_of_ble_eq_true rfl)) dX3_parseBranches_61 ⟨(Nat.le_of_ble_eq_true rfl), (Nat.le_of_ble_eq_true rfl)⟩) hS (fun q _ h => hF q h) hF (fun u t H locs ht hvm hw hB _ _ hS => ?_)
          replace hP : va_P (dC, dI) vwCl (wA a k q3) H := by rw [← ht]; exact hB.1
          replace hD := hD0 (q3)
          clear hB hF
          exact b_X3_parseBranches_64 hC hr_X3_parseBranches hr_X3_parseType ih h _ _ _ hP hD hS (lv_sub hl [1, 2, 3, 4, 6, 0] rfl)
        · replace h := ip hc h
          refine lv_aload_n hx hb dX3_parseBranches_40 rfl (lv_at hl 1 rfl) ?_
          refine va_get (D := (dC, dI)) (ci := 3) (C := RX3) (T := TX3) (N := 2) hx hb hts inlX3 hown hK hP 36 gA_36 rfl 1 (by decide) (hts (.fieldLink RX3 15 "ShapeReader$PlanText" "draft" "LShapeReader$Shapes;") mw_7_2) (fun _ h9 => h9) rfl dX3_parseBranches_41 ?_
          refine lv_iload_n hx hb dX3_parseBranches_44 rfl (lv_at hl 2 rfl) ?_
          refine lv_iload hx hb dX3_parseBranches_45 (lv_at hl 0 rfl) ?_
          obtain ⟨q5, hc, h⟩ := ib h
          have hF := va_frees hD hS hA
          refine va_callv (va_runV (As := [.int x1, .int q1.1]) (rest := []) ⟨hx, hb, hml, hown, hts⟩ (s_X5_setInner_20 hc) (cwV 2 hts (gV mw_9_22 mw_9_23 mw_9_24 mw_0_9 mw_50_23) rfl rfl rfl (by decide +kernel) ⟨by show 1 + 1 ≤ 3 + (nn + 1); omega, by show 8 + (3 + 11) + 21 ≤ 68 + 26 * (nn + 1); omega⟩) (vV (ci := 5) (q0 := 20) hK hP hD hN rfl gA_20) rfl rfl hl.1 rfl (lv_room (Nat.le_of_ble_eq_true rfl)) dX3_parseBranches_47 ⟨(Nat.le_of_ble_eq_true rfl), (Nat.le_of_ble_eq_true rfl)⟩) hS (fun q _ h => hF q h) hF (fun u t H locs ht hvm hw hB _ _ hS => ?_)
          replace hP : va_P (dC, dI) vwCl (wA a k q5) H := by rw [← ht]; exact hB.1
          replace hD := hD0 (q5)
          clear hB hF
          refine lv_goto (tgt := 64) hx hb dX3_parseBranches_50 (by decide) ?_
          exact b_X3_parseBranches_64 hC hr_X3_parseBranches hr_X3_parseType ih h _ _ _ hP hD hS (lv_sub hl [1, 2, 3, 4, 6, 0] rfl)
      · replace h := ip hc h
        refine lv_iconst (v := 0) hx hb dX3_parseBranches_32 (by decide) ?_
        obtain rfl := Option.some.inj h
        exact W.zret hx hb hr rfl (fun t ht hW => ⟨⟨_, (), rfl, rfl, ⟨by rw [ht]; exact hP, va_K.moved hW.alike hK, hD⟩⟩, hS.F ht⟩) hS.2.2 dX3_parseBranches_33

set_option maxRecDepth 100000 in
set_option maxHeartbeats 4000000 in
theorem b_X3_parseBranches_e {p : Program} {l : Launch} {e : Env} {s : State} {m : MethodId} {args : Array Value} {below : List Frame} {meth : Method} {c : Code} {dC : Nat → ClassId} {dI : Nat → Nat → Nat} {a : Nat → Nat} {k : Nat → ClassId} {A : Nat → Prop} {q : Int32 × ST} (hC : CxA p s m args meth c dC dI k A cX3_parseBranches RX3 (some .boolean) 7) {nn : Nat} {r_X3_parseBranches : Int32 → Int32 → ST → Option (Int32 × ST)} (hr_X3_parseBranches : ∀ {sz : Nat} {p0 : Int32} {p1 : Int32} {σ : ST} {q : Int32 × ST}, r_X3_parseBranches  p0 p1 σ = some q → Met l yX3_parseBranches (.code yX3_parseBranches cX3_parseBranches 7 (some .boolean) :: pw) ({ frames := 3 + nn, cells := 0, slots := 0, locals := 68 + 26 * nn } : Room) (va_Pc [.ref (a 36), .int p0, .int p1] (vPre dC dI (wA a k σ) (tA k) sz)) (qAi dC dI a k (va_A (wA a k σ) sz) q) 0 0 (va_A (wA a k σ) sz)) {r_X3_parseType : Int32 → Int32 → ST → Option (Int32 × ST)} (hr_X3_parseType : ∀ {sz : Nat} {p0 : Int32} {p1 : Int32} {σ : ST} {q : Int32 × ST}, r_X3_parseType  p0 p1 σ = some q → Met l yX3_parseType (.code yX3_parseType cX3_parseType 6 (some .int) :: pw) ({ frames := 3 + nn, cells := 0, slots := 0, locals := 68 + 26 * nn } : Room) (va_Pc [.ref (a 36), .int p0, .int p1] (vPre dC dI (wA a k σ) (tA k) sz)) (qAi dC dI a k (va_A (wA a k σ) sz) q) 0 0 (va_A (wA a k σ) sz))  {p0 : Int32} {p1 : Int32} {σ : ST} (h : f_X3_parseBranches r_X3_parseBranches r_X3_parseType p0 p1 σ = some q) : GoA p l e ({ frames := 3 + (nn + 1), cells := 0, slots := 0, locals := 68 + 26 * (nn + 1) } : Room) s m args below meth c (MQ below (qAi dC dI a k A q) args s 0 0 A) dC dI a k A 7 0 σ (lv_args 0 [.ref (a 36), .int p0, .int p1]) [] := by
  have hC0 := hC
  obtain ⟨hx, hb, hr, hml, hown, hts, hlocks, hA, hN, hK⟩ := hC0
  intro H locs ls hP hD hS hl
  have hD0 : ∀ σ1 : ST, va_D A (wA a k σ1) := fun σ1 => wA_D hD
  replace hl : lv_has ls 7 [(0, .ref (a 36)), (1, .int p0), (2, .int p1)] := hl
  unfold f_X3_parseBranches at h
  refine lv_sipush (v := 256) hx hb dX3_parseBranches_0 (by decide) ?_
  refine lv_istore_n (lv' := [(3, .int 256), (0, .ref (a 36)), (1, .int p0), (2, .int p1)]) hx hb dX3_parseBranches_3 rfl hl (by decide) rfl (fun ls hl => ?_)
  refine lv_iconst (v := (-1)) hx hb dX3_parseBranches_4 (by decide) ?_
  refine lv_istore (lv' := [(4, .int (-1)), (3, .int 256), (0, .ref (a 36)), (1, .int p0), (2, .int p1)]) hx hb dX3_parseBranches_5 hl (by decide) rfl (fun ls hl => ?_)
  refine lv_iconst (v := 0) hx hb dX3_parseBranches_7 (by decide) ?_
  refine lv_istore (lv' := [(5, .int 0), (4, .int (-1)), (3, .int 256), (0, .ref (a 36)), (1, .int p0), (2, .int p1)]) hx hb dX3_parseBranches_8 hl (by decide) rfl (fun ls hl => ?_)
  exact b_X3_parseBranches_10 hC hr_X3_parseBranches hr_X3_parseType FU _ _ _ _ _ _ h _ _ _ hP hD hS (lv_sub hl [3, 4, 5, 2, 1, 0] rfl)


set_option maxRecDepth 100000 in
set_option maxHeartbeats 4000000 in
theorem b_X3_parseType_116 {p : Program} {l : Launch} {e : Env} {s : State} {m : MethodId} {args : Array Value} {below : List Frame} {meth : Method} {c : Code} {dC : Nat → ClassId} {dI : Nat → Nat → Nat} {a : Nat → Nat} {k : Nat → ClassId} {A : Nat → Prop} {q : Int32 × ST} (hC : CxA p s m args meth c dC dI k A cX3_parseType RX3 (some .int) 6) {nn : Nat} {r_X3_parseBranches : Int32 → Int32 → ST → Option (Int32 × ST)} (hr_X3_parseBranches : ∀ {sz : Nat} {p0 : Int32} {p1 : Int32} {σ : ST} {q : Int32 × ST}, r_X3_parseBranches  p0 p1 σ = some q → Met l yX3_parseBranches (.code yX3_parseBranches cX3_parseBranches 7 (some .boolean) :: pw) ({ frames := 3 + nn, cells := 0, slots := 0, locals := 68 + 26 * nn } : Room) (va_Pc [.ref (a 36), .int p0, .int p1] (vPre dC dI (wA a k σ) (tA k) sz)) (qAi dC dI a k (va_A (wA a k σ) sz) q) 0 0 (va_A (wA a k σ) sz)) {r_X3_parseType : Int32 → Int32 → ST → Option (Int32 × ST)} (hr_X3_parseType : ∀ {sz : Nat} {p0 : Int32} {p1 : Int32} {σ : ST} {q : Int32 × ST}, r_X3_parseType  p0 p1 σ = some q → Met l yX3_parseType (.code yX3_parseType cX3_parseType 6 (some .int) :: pw) ({ frames := 3 + nn, cells := 0, slots := 0, locals := 68 + 26 * nn } : Room) (va_Pc [.ref (a 36), .int p0, .int p1] (vPre dC dI (wA a k σ) (tA k) sz)) (qAi dC dI a k (va_A (wA a k σ) sz) q) 0 0 (va_A (wA a k σ) sz))  {x1 : Int32} {x3 : Int32} {x4 : Int32} {σ : ST} (h : f_X3_parseType_116 r_X3_parseBranches r_X3_parseType x1 x3 x4 σ = some q) : GoA p l e ({ frames := 3 + (nn + 1), cells := 0, slots := 0, locals := 68 + 26 * (nn + 1) } : Room) s m args below meth c (MQ below (qAi dC dI a k A q) args s 0 0 A) dC dI a k A 6 116 σ [(0, .ref (a 36)), (1, .int x1), (3, .int x3), (4, .int x4)] [] := by
  have hC0 := hC
  obtain ⟨hx, hb, hr, hml, hown, hts, hlocks, hA, hN, hK⟩ := hC0
  intro H locs ls hP hD hS hl
  have hD0 : ∀ σ1 : ST, va_D A (wA a k σ1) := fun σ1 => wA_D hD
  unfold f_X3_parseType_116 at h
  refine lv_aload_n hx hb dX3_parseType_116 rfl (lv_at hl 0 rfl) ?_
  refine va_get (D := (dC, dI)) (ci := 3) (C := RX3) (T := TX3) (N := 2) hx hb hts inlX3 hown hK hP 36 gA_36 rfl 0 (by decide) (hts (.fieldLink RX3 9 "ShapeReader$PlanText" "tokens" "LShapeReader$Tokens;") mw_7_1) (fun _ h9 => h9) rfl dX3_parseType_117 ?_
  obtain ⟨q1, hc, h⟩ := ib h
  have hF := va_frees hD hS hA
  refine va_callv (va_runV (As := []) (rest := []) ⟨hx, hb, hml, hown, hts⟩ (s_X6_advance hc) (cwV 0 hts (gV mw_8_5 mw_8_6 mw_8_7 mw_0_10 mw_51_8) rfl rfl rfl (by decide +kernel) ⟨by show 2 + 1 ≤ 3 + (nn + 1); omega, by show 8 + (2 + 11) + 47 ≤ 68 + 26 * (nn + 1); omega⟩) (vV (ci := 6) (q0 := 2) hK hP hD hN rfl gA_2) rfl rfl hl.1 rfl (lv_room (Nat.le_of_ble_eq_true rfl)) dX3_parseType_120 ⟨(Nat.le_of_ble_eq_true rfl), (Nat.le_of_ble_eq_true rfl)⟩) hS (fun q _ h => hF q h) hF (fun u t H locs ht hvm hw hB _ _ hS => ?_)
  replace hP : va_P (dC, dI) vwCl (wA a k q1) H := by rw [← ht]; exact hB.1
  replace hD := hD0 (q1)
  clear hB hF
  refine lv_iload_n hx hb dX3_parseType_123 rfl (lv_at hl 2 rfl) ?_
  refine lv_bipush (v := 8) hx hb dX3_parseType_124 (by decide) ?_
  refine lv_icmp_ne (tgt := 146) hx hb dX3_parseType_126 (by decide) (fun hc => ?_) (fun hc => ?_)
  · replace h := iq hc h
    refine lv_iload_n hx hb dX3_parseType_146 rfl (lv_at hl 2 rfl) ?_
    refine lv_bipush (v := 6) hx hb dX3_parseType_147 (by decide) ?_
    refine lv_icmp_ne (tgt := 186) hx hb dX3_parseType_149 (by decide) (fun hc => ?_) (fun hc => ?_)
    · replace h := iq hc h
      refine lv_iload hx hb dX3_parseType_186 (lv_at hl 3 rfl) ?_
      obtain rfl := Option.some.inj h
      exact W.iret hx hb hr (fun t ht hW => ⟨⟨_, (), rfl, rfl, ⟨by rw [ht]; exact hP, va_K.moved hW.alike hK, hD⟩⟩, hS.F ht⟩) hS.2.2 dX3_parseType_188
    · replace h := ip hc h
      refine lv_aload_n hx hb dX3_parseType_152 rfl (lv_at hl 0 rfl) ?_
      refine lv_iload_n hx hb dX3_parseType_153 rfl (lv_at hl 1 rfl) ?_
      refine lv_iconst (v := 1) hx hb dX3_parseType_154 (by decide) ?_
      refine lv_iadd hx hb dX3_parseType_155 ?_
      refine lv_iconst (v := 0) hx hb dX3_parseType_156 (by decide) ?_
      obtain ⟨q3, hc, h⟩ := ib h
      have hF := va_frees hD hS hA
      refine va_calli (va_runV (As := [.int (x1 + 1), .int 0]) (rest := []) ⟨hx, hb, hml, hown, hts⟩ (hr_X3_parseType hc) (cwV 2 hts (gV mw_8_24 mw_8_25 mw_8_26 mw_0_7 mw_48_25) rfl rfl rfl (by decide +kernel) ⟨by show (3 + nn) + 1 ≤ 3 + (nn + 1); omega, by show 8 + (6 + 11) + (68 + 26 * nn) ≤ 68 + 26 * (nn + 1); omega⟩) (vV (ci := 3) (q0 := 36) hK hP hD hN rfl gA_36) rfl rfl hl.1 rfl (lv_room (Nat.le_of_ble_eq_true rfl)) dX3_parseType_157 ⟨(Nat.le_of_ble_eq_true rfl), (Nat.le_of_ble_eq_true rfl)⟩) hS (fun q _ h => hF q h) hF (fun r4 u t H locs ht hvm hw hB _ _ hS => ?_)
      obtain rfl : r4 = q3.1 := hw
      replace hP : va_P (dC, dI) vwCl (wA a k q3.2) H := by rw [← ht]; exact hB.1
      replace hD := hD0 (q3.2)
      clear hB hF
      refine lv_istore (lv' := [(5, .int q3.1), (0, .ref (a 36)), (1, .int x1), (3, .int x3), (4, .int x4)]) hx hb dX3_parseType_160 hl (by decide) rfl (fun ls hl => ?_)
      refine lv_aload_n hx hb dX3_parseType_162 rfl (lv_at hl 1 rfl) ?_
      refine va_get (D := (dC, dI)) (ci := 3) (C := RX3) (T := TX3) (N := 2) hx hb hts inlX3 hown hK hP 36 gA_36 rfl 1 (by decide) (hts (.fieldLink RX3 15 "ShapeReader$PlanText" "draft" "LShapeReader$Shapes;") mw_7_2) (fun _ h9 => h9) rfl dX3_parseType_163 ?_
      refine lv_iload hx hb dX3_parseType_166 (lv_at hl 4 rfl) ?_
      refine lv_iload hx hb dX3_parseType_168 (lv_at hl 0 rfl) ?_
      obtain ⟨q5, hc, h⟩ := ib h
      have hF := va_frees hD hS hA
      refine va_callv (va_runV (As := [.int x4, .int q3.1]) (rest := []) ⟨hx, hb, hml, hown, hts⟩ (s_X5_setInner_20 hc) (cwV 2 hts (gV mw_9_22 mw_9_23 mw_9_24 mw_0_9 mw_50_23) rfl rfl rfl (by decide +kernel) ⟨by show 1 + 1 ≤ 3 + (nn + 1); omega, by show 8 + (3 + 11) + 21 ≤ 68 + 26 * (nn + 1); omega⟩) (vV (ci := 5) (q0 := 20) hK hP hD hN rfl gA_20) rfl rfl hl.1 rfl (lv_room (Nat.le_of_ble_eq_true rfl)) dX3_parseType_170 ⟨(Nat.le_of_ble_eq_true rfl), (Nat.le_of_ble_eq_true rfl)⟩) hS (fun q _ h => hF q h) hF (fun u t H locs ht hvm hw hB _ _ hS => ?_)
      replace hP : va_P (dC, dI) vwCl (wA a k q5) H := by rw [← ht]; exact hB.1
      replace hD := hD0 (q5)
      clear hB hF
      refine lv_iload hx hb dX3_parseType_173 (lv_at hl 0 rfl) ?_
      refine lv_iconst (v := (-1)) hx hb dX3_parseType_175 (by decide) ?_
      refine lv_icmp_ne (tgt := 183) hx hb dX3_parseType_176 (by decide) (fun hc => ?_) (fun hc => ?_)
      · replace h := iq hc h
        refine lv_iload hx hb dX3_parseType_183 (lv_at hl 4 rfl) ?_
        obtain rfl := Option.some.inj h
        exact W.iret hx hb hr (fun t ht hW => ⟨⟨_, (), rfl, rfl, ⟨by rw [ht]; exact hP, va_K.moved hW.alike hK, hD⟩⟩, hS.F ht⟩) hS.2.2 dX3_parseType_185
      · replace h := ip hc h
        refine lv_iconst (v := (-1)) hx hb dX3_parseType_179 (by decide) ?_
        refine lv_goto (tgt := 185) hx hb dX3_parseType_180 (by decide) ?_
        obtain rfl := Option.some.inj h
        exact W.iret hx hb hr (fun t ht hW => ⟨⟨_, (), rfl, rfl, ⟨by rw [ht]; exact hP, va_K.moved hW.alike hK, hD⟩⟩, hS.F ht⟩) hS.2.2 dX3_parseType_185
  · replace h := ip hc h
    refine lv_aload_n hx hb dX3_parseType_129 rfl (lv_at hl 0 rfl) ?_
    refine lv_iload hx hb dX3_parseType_130 (lv_at hl 3 rfl) ?_
    refine lv_iload_n hx hb dX3_parseType_132 rfl (lv_at hl 1 rfl) ?_
    obtain ⟨q7, hc, h⟩ := ib h
    have hF := va_frees hD hS hA
    refine va_calli (va_runV (As := [.int x4, .int x1]) (rest := []) ⟨hx, hb, hml, hown, hts⟩ (hr_X3_parseBranches hc) (cwV 2 hts (gV mw_9_19 mw_9_20 mw_9_21 mw_0_7 mw_48_26) rfl rfl rfl (by decide +kernel) ⟨by show (3 + nn) + 1 ≤ 3 + (nn + 1); omega, by show 8 + (7 + 11) + (68 + 26 * nn) ≤ 68 + 26 * (nn + 1); omega⟩) (vV (ci := 3) (q0 := 36) hK hP hD hN rfl gA_36) rfl rfl hl.1 rfl (lv_room (Nat.le_of_ble_eq_true rfl)) dX3_parseType_133 ⟨(Nat.le_of_ble_eq_true rfl), (Nat.le_of_ble_eq_true rfl)⟩) hS (fun q _ h => hF q h) hF (fun r8 u t H locs ht hvm hw hB _ _ hS => ?_)
    obtain rfl : r8 = q7.1 := hw
    replace hP : va_P (dC, dI) vwCl (wA a k q7.2) H := by rw [← ht]; exact hB.1
    replace hD := hD0 (q7.2)
    clear hB hF
    refine lv_if_eq (tgt := 144) hx hb dX3_parseType_136 (by decide) (fun hc => ?_) (fun hc => ?_)
    · replace h := ip hc h
      refine lv_iconst (v := (-1)) hx hb dX3_parseType_144 (by decide) ?_
      obtain rfl := Option.some.inj h
      exact W.iret hx hb hr (fun t ht hW => ⟨⟨_, (), rfl, rfl, ⟨by rw [ht]; exact hP, va_K.moved hW.alike hK, hD⟩⟩, hS.F ht⟩) hS.2.2 dX3_parseType_145
    · replace h := iq hc h
      refine lv_iload hx hb dX3_parseType_139 (lv_at hl 3 rfl) ?_
      refine lv_goto (tgt := 145) hx hb dX3_parseType_141 (by decide) ?_
      obtain rfl := Option.some.inj h
      exact W.iret hx hb hr (fun t ht hW => ⟨⟨_, (), rfl, rfl, ⟨by rw [ht]; exact hP, va_K.moved hW.alike hK, hD⟩⟩, hS.F ht⟩) hS.2.2 dX3_parseType_145

set_option maxRecDepth 100000 in
set_option maxHeartbeats 4000000 in
theorem b_X3_parseType_49 {p : Program} {l : Launch} {e : Env} {s : State} {m : MethodId} {args : Array Value} {below : List Frame} {meth : Method} {c : Code} {dC : Nat → ClassId} {dI : Nat → Nat → Nat} {a : Nat → Nat} {k : Nat → ClassId} {A : Nat → Prop} {q : Int32 × ST} (hC : CxA p s m args meth c dC dI k A cX3_parseType RX3 (some .int) 6) {nn : Nat} {r_X3_parseBranches : Int32 → Int32 → ST → Option (Int32 × ST)} (hr_X3_parseBranches : ∀ {sz : Nat} {p0 : Int32} {p1 : Int32} {σ : ST} {q : Int32 × ST}, r_X3_parseBranches  p0 p1 σ = some q → Met l yX3_parseBranches (.code yX3_parseBranches cX3_parseBranches 7 (some .boolean) :: pw) ({ frames := 3 + nn, cells := 0, slots := 0, locals := 68 + 26 * nn } : Room) (va_Pc [.ref (a 36), .int p0, .int p1] (vPre dC dI (wA a k σ) (tA k) sz)) (qAi dC dI a k (va_A (wA a k σ) sz) q) 0 0 (va_A (wA a k σ) sz)) {r_X3_parseType : Int32 → Int32 → ST → Option (Int32 × ST)} (hr_X3_parseType : ∀ {sz : Nat} {p0 : Int32} {p1 : Int32} {σ : ST} {q : Int32 × ST}, r_X3_parseType  p0 p1 σ = some q → Met l yX3_parseType (.code yX3_parseType cX3_parseType 6 (some .int) :: pw) ({ frames := 3 + nn, cells := 0, slots := 0, locals := 68 + 26 * nn } : Room) (va_Pc [.ref (a 36), .int p0, .int p1] (vPre dC dI (wA a k σ) (tA k) sz)) (qAi dC dI a k (va_A (wA a k σ) sz) q) 0 0 (va_A (wA a k σ) sz))  {x1 : Int32} {x2 : Int32} {x3 : Int32} {y0 : Int32} {σ : ST} (h : f_X3_parseType_49 r_X3_parseBranches r_X3_parseType x1 x2 x3 y0 σ = some q) : GoA p l e ({ frames := 3 + (nn + 1), cells := 0, slots := 0, locals := 68 + 26 * (nn + 1) } : Room) s m args below meth c (MQ below (qAi dC dI a k A q) args s 0 0 A) dC dI a k A 6 49 σ [(0, .ref (a 36)), (1, .int x1), (2, .int x2), (3, .int x3)] [.int y0] := by
  have hC0 := hC
  obtain ⟨hx, hb, hr, hml, hown, hts, hlocks, hA, hN, hK⟩ := hC0
  intro H locs ls hP hD hS hl
  have hD0 : ∀ σ1 : ST, va_D A (wA a k σ1) := fun σ1 => wA_D hD
  unfold f_X3_parseType_49 at h
  refine lv_istore (lv' := [(4, .int y0), (0, .ref (a 36)), (1, .int x1), (2, .int x2), (3, .int x3)]) hx hb dX3_parseType_49 hl (by decide) rfl (fun ls hl => ?_)
  refine lv_iload hx hb dX3_parseType_51 (lv_at hl 0 rfl) ?_
  refine lv_iconst (v := (-1)) hx hb dX3_parseType_53 (by decide) ?_
  refine lv_icmp_ne (tgt := 68) hx hb dX3_parseType_54 (by decide) (fun hc => ?_) (fun hc => ?_)
  · replace h := iq hc h
    refine lv_iload_n hx hb dX3_parseType_68 rfl (lv_at hl 3 rfl) ?_
    refine lv_iload_n hx hb dX3_parseType_69 rfl (lv_at hl 4 rfl) ?_
    refine lv_ishr hx hb dX3_parseType_70 ?_
    refine lv_iconst (v := 1) hx hb dX3_parseType_71 (by decide) ?_
    refine lv_iand hx hb dX3_parseType_72 ?_
    refine lv_if_eq (tgt := 87) hx hb dX3_parseType_73 (by decide) (fun hc => ?_) (fun hc => ?_)
    · replace h := ip hc h
      refine lv_iload_n hx hb dX3_parseType_87 rfl (lv_at hl 4 rfl) ?_
      refine lv_bipush (v := 7) hx hb dX3_parseType_88 (by decide) ?_
      refine lv_icmp_ne (tgt := 116) hx hb dX3_parseType_90 (by decide) (fun hc => ?_) (fun hc => ?_)
      · replace h := iq hc h
        exact b_X3_parseType_116 hC hr_X3_parseBranches hr_X3_parseType h _ _ _ hP hD hS (lv_sub hl [1, 2, 4, 0] rfl)
      · replace h := ip hc h
        refine lv_aload_n hx hb dX3_parseType_93 rfl (lv_at hl 1 rfl) ?_
        refine va_get (D := (dC, dI)) (ci := 3) (C := RX3) (T := TX3) (N := 2) hx hb hts inlX3 hown hK hP 36 gA_36 rfl 1 (by decide) (hts (.fieldLink RX3 15 "ShapeReader$PlanText" "draft" "LShapeReader$Shapes;") mw_7_2) (fun _ h9 => h9) rfl dX3_parseType_94 ?_
        refine lv_iload hx hb dX3_parseType_97 (lv_at hl 0 rfl) ?_
        refine lv_aload_n hx hb dX3_parseType_99 rfl (lv_at hl 1 rfl) ?_
        refine va_get (D := (dC, dI)) (ci := 3) (C := RX3) (T := TX3) (N := 2) hx hb hts inlX3 hown hK hP 36 gA_36 rfl 0 (by decide) (hts (.fieldLink RX3 9 "ShapeReader$PlanText" "tokens" "LShapeReader$Tokens;") mw_7_1) (fun _ h9 => h9) rfl dX3_parseType_100 ?_
        refine va_get (D := (dC, dI)) (ci := 6) (C := RX6) (T := TX6) (N := 14) hx hb hts inlX6 hown hK hP 2 gA_2 rfl 7 (by decide) (hts (.fieldLink RX3 66 "ShapeReader$Tokens" "letters" "J") mw_8_8) (fun _ h9 => h9) rfl dX3_parseType_103 ?_
        refine lv_aload_n hx hb dX3_parseType_106 rfl (lv_at hl 1 rfl) ?_
        refine va_get (D := (dC, dI)) (ci := 3) (C := RX3) (T := TX3) (N := 2) hx hb hts inlX3 hown hK hP 36 gA_36 rfl 0 (by decide) (hts (.fieldLink RX3 9 "ShapeReader$PlanText" "tokens" "LShapeReader$Tokens;") mw_7_1) (fun _ h9 => h9) rfl dX3_parseType_107 ?_
        refine va_get (D := (dC, dI)) (ci := 6) (C := RX6) (T := TX6) (N := 14) hx hb hts inlX6 hown hK hP 2 gA_2 rfl 5 (by decide) (hts (.fieldLink RX3 113 "ShapeReader$Tokens" "start" "I") mw_9_15) (fun _ h9 => h9) rfl dX3_parseType_110 ?_
        obtain ⟨q1, hc, h⟩ := ib h
        have hF := va_frees hD hS hA
        refine va_callv (va_runV (As := [.int y0, .long (σ.2.1 2 7), .int (σ.1 2 5)]) (rest := []) ⟨hx, hb, hml, hown, hts⟩ (s_X5_setAsked_20 hc) (cwV 3 hts (gV mw_9_16 mw_9_17 mw_9_18 mw_0_9 mw_50_25) rfl rfl rfl (by decide +kernel) ⟨by show 1 + 1 ≤ 3 + (nn + 1); omega, by show 8 + (5 + 11) + 21 ≤ 68 + 26 * (nn + 1); omega⟩) (vV (ci := 5) (q0 := 20) hK hP hD hN rfl gA_20) rfl rfl hl.1 rfl (lv_room (Nat.le_of_ble_eq_true rfl)) dX3_parseType_113 ⟨(Nat.le_of_ble_eq_true rfl), (Nat.le_of_ble_eq_true rfl)⟩) hS (fun q _ h => hF q h) hF (fun u t H locs ht hvm hw hB _ _ hS => ?_)
        replace hP : va_P (dC, dI) vwCl (wA a k q1) H := by rw [← ht]; exact hB.1
        replace hD := hD0 (q1)
        clear hB hF
        exact b_X3_parseType_116 hC hr_X3_parseBranches hr_X3_parseType h _ _ _ hP hD hS (lv_sub hl [1, 2, 4, 0] rfl)
    · replace h := iq hc h
      refine lv_aload_n hx hb dX3_parseType_76 rfl (lv_at hl 1 rfl) ?_
      refine va_get (D := (dC, dI)) (ci := 3) (C := RX3) (T := TX3) (N := 2) hx hb hts inlX3 hown hK hP 36 gA_36 rfl 0 (by decide) (hts (.fieldLink RX3 9 "ShapeReader$PlanText" "tokens" "LShapeReader$Tokens;") mw_7_1) (fun _ h9 => h9) rfl dX3_parseType_77 ?_
      refine lv_iconst (v := 5) hx hb dX3_parseType_80 (by decide) ?_
      obtain ⟨q3, hc, h⟩ := ib h
      have hF := va_frees hD hS hA
      refine va_calli (va_runV (As := [.int 5]) (rest := []) ⟨hx, hb, hml, hown, hts⟩ (s_X6_refuse hc) (cwV 1 hts (gV mw_7_14 mw_7_15 mw_7_16 mw_0_10 mw_51_4) rfl rfl rfl (by decide +kernel) ⟨by show 1 + 1 ≤ 3 + (nn + 1); omega, by show 8 + (2 + 11) + 22 ≤ 68 + 26 * (nn + 1); omega⟩) (vV (ci := 6) (q0 := 2) hK hP hD hN rfl gA_2) rfl rfl hl.1 rfl (lv_room (Nat.le_of_ble_eq_true rfl)) dX3_parseType_81 ⟨(Nat.le_of_ble_eq_true rfl), (Nat.le_of_ble_eq_true rfl)⟩) hS (fun q _ h => hF q h) hF (fun r4 u t H locs ht hvm hw hB _ _ hS => ?_)
      obtain rfl : r4 = q3.1 := hw
      replace hP : va_P (dC, dI) vwCl (wA a k q3.2) H := by rw [← ht]; exact hB.1
      replace hD := hD0 (q3.2)
      clear hB hF
      refine lv_pop hx hb dX3_parseType_84 rfl ?_
      refine lv_iconst (v := (-1)) hx hb dX3_parseType_85 (by decide) ?_
      obtain rfl := Option.some.inj h
      exact W.iret hx hb hr (fun t ht hW => ⟨⟨_, (), rfl, rfl, ⟨by rw [ht]; exact hP, va_K.moved hW.alike hK, hD⟩⟩, hS.F ht⟩) hS.2.2 dX3_parseType_86
  · replace h := ip hc h
    refine lv_aload_n hx hb dX3_parseType_57 rfl (lv_at hl 1 rfl) ?_
    refine va_get (D := (dC, dI)) (ci := 3) (C := RX3) (T := TX3) (N := 2) hx hb hts inlX3 hown hK hP 36 gA_36 rfl 0 (by decide) (hts (.fieldLink RX3 9 "ShapeReader$PlanText" "tokens" "LShapeReader$Tokens;") mw_7_1) (fun _ h9 => h9) rfl dX3_parseType_58 ?_
    refine lv_iconst (v := 4) hx hb dX3_parseType_61 (by decide) ?_
    obtain ⟨q5, hc, h⟩ := ib h
    have hF := va_frees hD hS hA
    refine va_calli (va_runV (As := [.int 4]) (rest := []) ⟨hx, hb, hml, hown, hts⟩ (s_X6_refuse hc) (cwV 1 hts (gV mw_7_14 mw_7_15 mw_7_16 mw_0_10 mw_51_4) rfl rfl rfl (by decide +kernel) ⟨by show 1 + 1 ≤ 3 + (nn + 1); omega, by show 8 + (2 + 11) + 22 ≤ 68 + 26 * (nn + 1); omega⟩) (vV (ci := 6) (q0 := 2) hK hP hD hN rfl gA_2) rfl rfl hl.1 rfl (lv_room (Nat.le_of_ble_eq_true rfl)) dX3_parseType_62 ⟨(Nat.le_of_ble_eq_true rfl), (Nat.le_of_ble_eq_true rfl)⟩) hS (fun q _ h => hF q h) hF (fun r6 u t H locs ht hvm hw hB _ _ hS => ?_)
    obtain rfl : r6 = q5.1 := hw
    replace hP : va_P (dC, dI) vwCl (wA a k q5.2) H := by rw [← ht]; exact hB.1
    replace hD := hD0 (q5.2)
    clear hB hF
    refine lv_pop hx hb dX3_parseType_65 rfl ?_
    refine lv_iconst (v := (-1)) hx hb dX3_parseType_66 (by decide) ?_
    obtain rfl := Option.some.inj h
    exact W.iret hx hb hr (fun t ht hW => ⟨⟨_, (), rfl, rfl, ⟨by rw [ht]; exact hP, va_K.moved hW.alike hK, hD⟩⟩, hS.F ht⟩) hS.2.2 dX3_parseType_67

set_option maxRecDepth 100000 in
set_option maxHeartbeats 4000000 in
theorem b_X3_parseType_37 {p : Program} {l : Launch} {e : Env} {s : State} {m : MethodId} {args : Array Value} {below : List Frame} {meth : Method} {c : Code} {dC : Nat → ClassId} {dI : Nat → Nat → Nat} {a : Nat → Nat} {k : Nat → ClassId} {A : Nat → Prop} {q : Int32 × ST} (hC : CxA p s m args meth c dC dI k A cX3_parseType RX3 (some .int) 6) {nn : Nat} {r_X3_parseBranches : Int32 → Int32 → ST → Option (Int32 × ST)} (hr_X3_parseBranches : ∀ {sz : Nat} {p0 : Int32} {p1 : Int32} {σ : ST} {q : Int32 × ST}, r_X3_parseBranches  p0 p1 σ = some q → Met l yX3_parseBranches (.code yX3_parseBranches cX3_parseBranches 7 (some .boolean) :: pw) ({ frames := 3 + nn, cells := 0, slots := 0, locals := 68 + 26 * nn } : Room) (va_Pc [.ref (a 36), .int p0, .int p1] (vPre dC dI (wA a k σ) (tA k) sz)) (qAi dC dI a k (va_A (wA a k σ) sz) q) 0 0 (va_A (wA a k σ) sz)) {r_X3_parseType : Int32 → Int32 → ST → Option (Int32 × ST)} (hr_X3_parseType : ∀ {sz : Nat} {p0 : Int32} {p1 : Int32} {σ : ST} {q : Int32 × ST}, r_X3_parseType  p0 p1 σ = some q → Met l yX3_parseType (.code yX3_parseType cX3_parseType 6 (some .int) :: pw) ({ frames := 3 + nn, cells := 0, slots := 0, locals := 68 + 26 * nn } : Room) (va_Pc [.ref (a 36), .int p0, .int p1] (vPre dC dI (wA a k σ) (tA k) sz)) (qAi dC dI a k (va_A (wA a k σ) sz) q) 0 0 (va_A (wA a k σ) sz))  {x1 : Int32} {x2 : Int32} {x3 : Int32} {σ : ST} (h : f_X3_parseType_37 r_X3_parseBranches r_X3_parseType x1 x2 x3 σ = some q) : GoA p l e ({ frames := 3 + (nn + 1), cells := 0, slots := 0, locals := 68 + 26 * (nn + 1) } : Room) s m args below meth c (MQ below (qAi dC dI a k A q) args s 0 0 A) dC dI a k A 6 37 σ [(0, .ref (a 36)), (1, .int x1), (2, .int x2), (3, .int x3)] [] := by
  have hC0 := hC
  obtain ⟨hx, hb, hr, hml, hown, hts, hlocks, hA, hN, hK⟩ := hC0
  intro H locs ls hP hD hS hl
  have hD0 : ∀ σ1 : ST, va_D A (wA a k σ1) := fun σ1 => wA_D hD
  unfold f_X3_parseType_37 at h
  refine lv_iconst (v := (-1)) hx hb dX3_parseType_37 (by decide) ?_
  refine lv_goto (tgt := 49) hx hb dX3_parseType_38 (by decide) ?_
  exact b_X3_parseType_49 hC hr_X3_parseBranches hr_X3_parseType h _ _ _ hP hD hS (lv_sub hl [0, 1, 2, 3] rfl)

set_option maxRecDepth 100000 in
set_option maxHeartbeats 4000000 in
theorem b_X3_parseType_e {p : Program} {l : Launch} {e : Env} {s : State} {m : MethodId} {args : Array Value} {below : List Frame} {meth : Method} {c : Code} {dC : Nat → ClassId} {dI : Nat → Nat → Nat} {a : Nat → Nat} {k : Nat → ClassId} {A : Nat → Prop} {q : Int32 × ST} (hC : CxA p s m args meth c dC dI k A cX3_parseType RX3 (some .int) 6) {nn : Nat} {r_X3_parseBranches : Int32 → Int32 → ST → Option (Int32 × ST)} (hr_X3_parseBranches : ∀ {sz : Nat} {p0 : Int32} {p1 : Int32} {σ : ST} {q : Int32 × ST}, r_X3_parseBranches  p0 p1 σ = some q → Met l yX3_parseBranches (.code yX3_parseBranches cX3_parseBranches 7 (some .boolean) :: pw) ({ frames := 3 + nn, cells := 0, slots := 0, locals := 68 + 26 * nn } : Room) (va_Pc [.ref (a 36), .int p0, .int p1] (vPre dC dI (wA a k σ) (tA k) sz)) (qAi dC dI a k (va_A (wA a k σ) sz) q) 0 0 (va_A (wA a k σ) sz)) {r_X3_parseType : Int32 → Int32 → ST → Option (Int32 × ST)} (hr_X3_parseType : ∀ {sz : Nat} {p0 : Int32} {p1 : Int32} {σ : ST} {q : Int32 × ST}, r_X3_parseType  p0 p1 σ = some q → Met l yX3_parseType (.code yX3_parseType cX3_parseType 6 (some .int) :: pw) ({ frames := 3 + nn, cells := 0, slots := 0, locals := 68 + 26 * nn } : Room) (va_Pc [.ref (a 36), .int p0, .int p1] (vPre dC dI (wA a k σ) (tA k) sz)) (qAi dC dI a k (va_A (wA a k σ) sz) q) 0 0 (va_A (wA a k σ) sz))  {p0 : Int32} {p1 : Int32} {σ : ST} (h : f_X3_parseType r_X3_parseBranches r_X3_parseType p0 p1 σ = some q) : GoA p l e ({ frames := 3 + (nn + 1), cells := 0, slots := 0, locals := 68 + 26 * (nn + 1) } : Room) s m args below meth c (MQ below (qAi dC dI a k A q) args s 0 0 A) dC dI a k A 6 0 σ (lv_args 0 [.ref (a 36), .int p0, .int p1]) [] := by
  have hC0 := hC
  obtain ⟨hx, hb, hr, hml, hown, hts, hlocks, hA, hN, hK⟩ := hC0
  intro H locs ls hP hD hS hl
  have hD0 : ∀ σ1 : ST, va_D A (wA a k σ1) := fun σ1 => wA_D hD
  replace hl : lv_has ls 6 [(0, .ref (a 36)), (1, .int p0), (2, .int p1)] := hl
  unfold f_X3_parseType at h
  refine lv_aload_n hx hb dX3_parseType_0 rfl (lv_at hl 0 rfl) ?_
  refine va_get (D := (dC, dI)) (ci := 3) (C := RX3) (T := TX3) (N := 2) hx hb hts inlX3 hown hK hP 36 gA_36 rfl 0 (by decide) (hts (.fieldLink RX3 9 "ShapeReader$PlanText" "tokens" "LShapeReader$Tokens;") mw_7_1) (fun _ h9 => h9) rfl dX3_parseType_1 ?_
  obtain ⟨q1, hc, h⟩ := ib h
  have hF := va_frees hD hS hA
  refine va_calli (va_runV (As := []) (rest := []) ⟨hx, hb, hml, hown, hts⟩ (s_X6_sortBegun hc) (cwV 0 hts (gV mw_9_6 mw_9_7 mw_9_8 mw_0_10 mw_51_17) rfl rfl rfl (by decide +kernel) ⟨by show 0 + 1 ≤ 3 + (nn + 1); omega, by show 8 + (1 + 11) + 0 ≤ 68 + 26 * (nn + 1); omega⟩) (vV (ci := 6) (q0 := 2) hK hP hD hN rfl gA_2) rfl rfl hl.1 rfl (lv_room (Nat.le_of_ble_eq_true rfl)) dX3_parseType_4 ⟨(Nat.le_of_ble_eq_true rfl), (Nat.le_of_ble_eq_true rfl)⟩) hS (fun q _ h => hF q h) hF (fun r2 u t H locs ht hvm hw hB _ _ hS => ?_)
  obtain rfl : r2 = q1.1 := hw
  replace hP : va_P (dC, dI) vwCl (wA a k q1.2) H := by rw [← ht]; exact hB.1
  replace hD := hD0 (q1.2)
  clear hB hF
  refine lv_istore_n (lv' := [(3, .int q1.1), (0, .ref (a 36)), (1, .int p0), (2, .int p1)]) hx hb dX3_parseType_7 rfl hl (by decide) rfl (fun ls hl => ?_)
  refine lv_iload_n hx hb dX3_parseType_8 rfl (lv_at hl 0 rfl) ?_
  refine lv_iconst (v := (-1)) hx hb dX3_parseType_9 (by decide) ?_
  refine lv_icmp_ne (tgt := 24) hx hb dX3_parseType_10 (by decide) (fun hc => ?_) (fun hc => ?_)
  · replace h := iq hc h
    refine lv_iload_n hx hb dX3_parseType_24 rfl (lv_at hl 2 rfl) ?_
    refine lv_iconst (v := 3) hx hb dX3_parseType_25 (by decide) ?_
    refine lv_icmp_gt (tgt := 37) hx hb dX3_parseType_26 (by decide) (fun hc => ?_) (fun hc => ?_)
    · replace h := ip hc h
      exact b_X3_parseType_37 hC hr_X3_parseBranches hr_X3_parseType h _ _ _ hP hD hS (lv_sub hl [1, 2, 3, 0] rfl)
    · replace h := iq hc h
      refine lv_iload_n hx hb dX3_parseType_29 rfl (lv_at hl 3 rfl) ?_
      obtain ⟨q3, hc, h⟩ := ib h
      have hF := va_frees hD hS hA
      refine va_calli (va_runS (As := [.int p1]) (rest := []) ⟨hx, hb, hml, hown, hts⟩ (s_J6_bitCount_0f7a4 hc) (va_cwS 1 hts (gS mw_9_9 mw_9_10 mw_9_11 mw_57_21) rfl rfl rfl (by decide +kernel) ⟨by show 0 + 1 ≤ 3 + (nn + 1); omega, by show 8 + (1 + 11) + 0 ≤ 68 + 26 * (nn + 1); omega⟩) (vS hK hP hD hN) rfl rfl hl.1 rfl (lv_room (Nat.le_of_ble_eq_true rfl)) dX3_parseType_30 ⟨(Nat.le_of_ble_eq_true rfl), (Nat.le_of_ble_eq_true rfl)⟩) hS (fun q _ h => hF q h) hF (fun r4 u t H locs ht hvm hw hB _ _ hS => ?_)
      obtain rfl : r4 = q3.1 := hw
      replace hP : va_P (dC, dI) vwCl (wA a k q3.2) H := by rw [← ht]; exact hB.1
      replace hD := hD0 (q3.2)
      clear hB hF
      refine lv_iconst (v := 4) hx hb dX3_parseType_33 (by decide) ?_
      refine lv_icmp_le (tgt := 41) hx hb dX3_parseType_34 (by decide) (fun hc => ?_) (fun hc => ?_)
      · replace h := ip hc h
        refine lv_aload_n hx hb dX3_parseType_41 rfl (lv_at hl 1 rfl) ?_
        refine va_get (D := (dC, dI)) (ci := 3) (C := RX3) (T := TX3) (N := 2) hx hb hts inlX3 hown hK hP 36 gA_36 rfl 1 (by decide) (hts (.fieldLink RX3 15 "ShapeReader$PlanText" "draft" "LShapeReader$Shapes;") mw_7_2) (fun _ h9 => h9) rfl dX3_parseType_42 ?_
        refine lv_iload_n hx hb dX3_parseType_45 rfl (lv_at hl 0 rfl) ?_
        obtain ⟨q5, hc, h⟩ := ib h
        have hF := va_frees hD hS hA
        refine va_calli (va_runV (As := [.int q1.1]) (rest := []) ⟨hx, hb, hml, hown, hts⟩ (s_X5_addType_20 hc) (cwV 1 hts (gV mw_9_12 mw_9_13 mw_9_14 mw_0_9 mw_50_16) rfl rfl rfl (by decide +kernel) ⟨by show 0 + 1 ≤ 3 + (nn + 1); omega, by show 8 + (3 + 11) + 0 ≤ 68 + 26 * (nn + 1); omega⟩) (vV (ci := 5) (q0 := 20) hK hP hD hN rfl gA_20) rfl rfl hl.1 rfl (lv_room (Nat.le_of_ble_eq_true rfl)) dX3_parseType_46 ⟨(Nat.le_of_ble_eq_true rfl), (Nat.le_of_ble_eq_true rfl)⟩) hS (fun q _ h => hF q h) hF (fun r6 u t H locs ht hvm hw hB _ _ hS => ?_)
        obtain rfl : r6 = q5.1 := hw
        replace hP : va_P (dC, dI) vwCl (wA a k q5.2) H := by rw [← ht]; exact hB.1
        replace hD := hD0 (q5.2)
        clear hB hF
        exact b_X3_parseType_49 hC hr_X3_parseBranches hr_X3_parseType h _ _ _ hP hD hS (lv_sub hl [1, 2, 3, 0] rfl)
      · replace h := iq hc h
        exact b_X3_parseType_37 hC hr_X3_parseBranches hr_X3_parseType h _ _ _ hP hD hS (lv_sub hl [1, 2, 3, 0] rfl)
  · replace h := ip hc h
    refine lv_aload_n hx hb dX3_parseType_13 rfl (lv_at hl 1 rfl) ?_
    refine va_get (D := (dC, dI)) (ci := 3) (C := RX3) (T := TX3) (N := 2) hx hb hts inlX3 hown hK hP 36 gA_36 rfl 0 (by decide) (hts (.fieldLink RX3 9 "ShapeReader$PlanText" "tokens" "LShapeReader$Tokens;") mw_7_1) (fun _ h9 => h9) rfl dX3_parseType_14 ?_
    refine lv_iconst (v := 1) hx hb dX3_parseType_17 (by decide) ?_
    obtain ⟨q7, hc, h⟩ := ib h
    have hF := va_frees hD hS hA
    refine va_calli (va_runV (As := [.int 1]) (rest := []) ⟨hx, hb, hml, hown, hts⟩ (s_X6_refuse hc) (cwV 1 hts (gV mw_7_14 mw_7_15 mw_7_16 mw_0_10 mw_51_4) rfl rfl rfl (by decide +kernel) ⟨by show 1 + 1 ≤ 3 + (nn + 1); omega, by show 8 + (2 + 11) + 22 ≤ 68 + 26 * (nn + 1); omega⟩) (vV (ci := 6) (q0 := 2) hK hP hD hN rfl gA_2) rfl rfl hl.1 rfl (lv_room (Nat.le_of_ble_eq_true rfl)) dX3_parseType_18 ⟨(Nat.le_of_ble_eq_true rfl), (Nat.le_of_ble_eq_true rfl)⟩) hS (fun q _ h => hF q h) hF (fun r8 u t H locs ht hvm hw hB _ _ hS => ?_)
    obtain rfl : r8 = q7.1 := hw
    replace hP : va_P (dC, dI) vwCl (wA a k q7.2) H := by rw [← ht]; exact hB.1
    replace hD := hD0 (q7.2)
    clear hB hF
    refine lv_pop hx hb dX3_parseType_21 rfl ?_
    refine lv_iconst (v := (-1)) hx hb dX3_parseType_22 (by decide) ?_
    obtain rfl := Option.some.inj h
    exact W.iret hx hb hr (fun t ht hW => ⟨⟨_, (), rfl, rfl, ⟨by rw [ht]; exact hP, va_K.moved hW.alike hK, hD⟩⟩, hS.F ht⟩) hS.2.2 dX3_parseType_23


set_option maxRecDepth 100000 in
set_option maxHeartbeats 4000000 in
theorem s_R_X3_parseBranches {l : Launch} {dC : Nat → ClassId} {dI : Nat → Nat → Nat} {a : Nat → Nat} {k : Nat → ClassId} : ∀ n : Nat, (∀ {sz : Nat} {p0 : Int32} {p1 : Int32} {σ : ST} {q : Int32 × ST}, (R_X3_parseBranches n).1 p0 p1 σ = some q → Met l yX3_parseBranches (.code yX3_parseBranches cX3_parseBranches 7 (some .boolean) :: pw) ({ frames := 3 + n, cells := 0, slots := 0, locals := 68 + 26 * n } : Room) (va_Pc [.ref (a 36), .int p0, .int p1] (vPre dC dI (wA a k σ) (tA k) sz)) (qAi dC dI a k (va_A (wA a k σ) sz) q) 0 0 (va_A (wA a k σ) sz)) ∧ (∀ {sz : Nat} {p0 : Int32} {p1 : Int32} {σ : ST} {q : Int32 × ST}, (R_X3_parseBranches n).2 p0 p1 σ = some q → Met l yX3_parseType (.code yX3_parseType cX3_parseType 6 (some .int) :: pw) ({ frames := 3 + n, cells := 0, slots := 0, locals := 68 + 26 * n } : Room) (va_Pc [.ref (a 36), .int p0, .int p1] (vPre dC dI (wA a k σ) (tA k) sz)) (qAi dC dI a k (va_A (wA a k σ) sz) q) 0 0 (va_A (wA a k σ) sz)) := by
  intro n
  induction n with
  | zero => exact ⟨(fun h => nomatch h), (fun h => nomatch h)⟩
  | succ n ih => exact ⟨(fun h => metA (fun A => qAi dC dI a k A _) (plainFor_of_name (by decide)) (Nat.le_of_ble_eq_true rfl) (fun _ _ _ _ _ _ _ _ hC => b_X3_parseBranches_e hC ih.1 ih.2 h)), (fun h => metA (fun A => qAi dC dI a k A _) (plainFor_of_name (by decide)) (Nat.le_of_ble_eq_true rfl) (fun _ _ _ _ _ _ _ _ hC => b_X3_parseType_e hC ih.1 ih.2 h))⟩
theorem s_X3_parseBranches {l : Launch} {dC : Nat → ClassId} {dI : Nat → Nat → Nat} {a : Nat → Nat} {k : Nat → ClassId} {sz : Nat} {p0 : Int32} {p1 : Int32} {σ : ST} {q : Int32 × ST} (h : f_T_X3_parseBranches p0 p1 σ = some q) : Met l yX3_parseBranches (.code yX3_parseBranches cX3_parseBranches 7 (some .boolean) :: pw) ({ frames := 163, cells := 0, slots := 0, locals := 4228 } : Room) (va_Pc [.ref (a 36), .int p0, .int p1] (vPre dC dI (wA a k σ) (tA k) sz)) (qAi dC dI a k (va_A (wA a k σ) sz) q) 0 0 (va_A (wA a k σ) sz) := (s_R_X3_parseBranches FR).1 h
theorem s_X3_parseType {l : Launch} {dC : Nat → ClassId} {dI : Nat → Nat → Nat} {a : Nat → Nat} {k : Nat → ClassId} {sz : Nat} {p0 : Int32} {p1 : Int32} {σ : ST} {q : Int32 × ST} (h : f_T_X3_parseType p0 p1 σ = some q) : Met l yX3_parseType (.code yX3_parseType cX3_parseType 6 (some .int) :: pw) ({ frames := 163, cells := 0, slots := 0, locals := 4228 } : Room) (va_Pc [.ref (a 36), .int p0, .int p1] (vPre dC dI (wA a k σ) (tA k) sz)) (qAi dC dI a k (va_A (wA a k σ) sz) q) 0 0 (va_A (wA a k σ) sz) := (s_R_X3_parseBranches FR).2 h

def f_X5_addField (b : Nat) (p0 : Int32) (p1 : Int64) (σ : ST) : Option (ST) := (f_X5_fieldsOf b p0 σ).bind fun q1 => (f_X5_isFieldOf  p0 q1.1 q1.2).bind fun q3 => if q3.1 = 0 then (some q3.2) else (if 0 ≤ ((p0 * 8) + q1.1).toInt ∧ ((p0 * 8) + q1.1).toInt < 288 then ((some (stL (stL q3.2 (b + 7) ((p0 * 8) + q1.1).toNatClampNeg p1) (b + 8) ((p0 * 8) + q1.1).toNatClampNeg 0)).bind fun z6 => (some (stL (stI z6 (b + 9) ((p0 * 8) + q1.1).toNatClampNeg (-1)) (b + 10) ((p0 * 8) + q1.1).toNatClampNeg 0)).bind fun z7 => if 0 ≤ p0.toInt ∧ p0.toInt < 36 then (some (stI z7 (b + 3) p0.toNatClampNeg ((z7.1 (b + 3) p0.toNatClampNeg) + 1))) else none) else none)

set_option maxRecDepth 100000 in
set_option maxHeartbeats 4000000 in
theorem b_X5_addField_e_20 {p : Program} {l : Launch} {e : Env} {s : State} {m : MethodId} {args : Array Value} {below : List Frame} {meth : Method} {c : Code} {dC : Nat → ClassId} {dI : Nat → Nat → Nat} {a : Nat → Nat} {k : Nat → ClassId} {A : Nat → Prop} {q : ST} (hC : CxA p s m args meth c dC dI k A cX5_addField RX5 none 5)   {p0 : Int32} {p1 : Int64} {σ : ST} (h : f_X5_addField 20 p0 p1 σ = some q) : GoA p l e ({ frames := 2, cells := 0, slots := 0, locals := 41 } : Room) s m args below meth c (MQ below (qAv dC dI a k A q) args s 0 0 A) dC dI a k A 5 0 σ (lv_args 0 [.ref (a 20), .int p0, .long p1]) [] := by
  have hC0 := hC
  obtain ⟨hx, hb, hr, hml, hown, hts, hlocks, hA, hN, hK⟩ := hC0
  intro H locs ls hP hD hS hl
  have hD0 : ∀ σ1 : ST, va_D A (wA a k σ1) := fun σ1 => wA_D hD
  replace hl : lv_has ls 5 [(0, .ref (a 20)), (1, .int p0), (2, .long p1)] := hl
  unfold f_X5_addField at h
  refine lv_aload_n hx hb dX5_addField_0 rfl (lv_at hl 0 rfl) ?_
  refine lv_iload_n hx hb dX5_addField_1 rfl (lv_at hl 1 rfl) ?_
  obtain ⟨q1, hc, h⟩ := ib h
  have hF := va_frees hD hS hA
  refine va_calli (va_runV (As := [.int p0]) (rest := []) ⟨hx, hb, hml, hown, hts⟩ (s_X5_fieldsOf_20 hc) (cwV 1 hts (gV mw_15_25 mw_1_28 mw_1_29 mw_0_9 mw_49_29) rfl rfl rfl (by decide +kernel) ⟨(Nat.le_of_ble_eq_true rfl), (Nat.le_of_ble_eq_true rfl)⟩) (vV (ci := 5) (q0 := 20) hK hP hD hN rfl gA_20) rfl rfl hl.1 rfl (lv_room (Nat.le_of_ble_eq_true rfl)) dX5_addField_2 ⟨(Nat.le_of_ble_eq_true rfl), (Nat.le_of_ble_eq_true rfl)⟩) hS (fun q _ h => hF q h) hF (fun r2 u t H locs ht hvm hw hB _ _ hS => ?_)
  obtain rfl : r2 = q1.1 := hw
  replace hP : va_P (dC, dI) vwCl (wA a k q1.2) H := by rw [← ht]; exact hB.1
  replace hD := hD0 (q1.2)
  clear hB hF
  refine lv_istore (lv' := [(4, .int q1.1), (0, .ref (a 20)), (1, .int p0), (2, .long p1)]) hx hb dX5_addField_5 hl (by decide) rfl (fun ls hl => ?_)
  refine lv_iload_n hx hb dX5_addField_7 rfl (lv_at hl 2 rfl) ?_
  refine lv_iload hx hb dX5_addField_8 (lv_at hl 0 rfl) ?_
  obtain ⟨q3, hc, h⟩ := ib h
  have hF := va_frees hD hS hA
  refine va_calli (va_runS (As := [.int p0, .int q1.1]) (rest := []) ⟨hx, hb, hml, hown, hts⟩ (s_X5_isFieldOf hc) (va_cwS 2 hts (gS mw_15_7 mw_15_8 mw_0_9 mw_49_25) rfl rfl rfl (by decide +kernel) ⟨(Nat.le_of_ble_eq_true rfl), (Nat.le_of_ble_eq_true rfl)⟩) (vS hK hP hD hN) rfl rfl hl.1 rfl (lv_room (Nat.le_of_ble_eq_true rfl)) dX5_addField_10 ⟨(Nat.le_of_ble_eq_true rfl), (Nat.le_of_ble_eq_true rfl)⟩) hS (fun q _ h => hF q h) hF (fun r4 u t H locs ht hvm hw hB _ _ hS => ?_)
  obtain rfl : r4 = q3.1 := hw
  replace hP : va_P (dC, dI) vwCl (wA a k q3.2) H := by rw [← ht]; exact hB.1
  replace hD := hD0 (q3.2)
  clear hB hF
  refine lv_if_eq (tgt := 78) hx hb dX5_addField_13 (by decide) (fun hc => ?_) (fun hc => ?_)
  · replace h := ip hc h
    obtain rfl := Option.some.inj h
    exact W.vret hx hb hr (fun t ht hW => ⟨⟨(), rfl, trivial, ⟨by rw [ht]; exact hP, va_K.moved hW.alike hK, hD⟩⟩, hS.F ht⟩) hS.2.2 dX5_addField_78
  · replace h := iq hc h
    refine lv_aload_n hx hb dX5_addField_16 rfl (lv_at hl 1 rfl) ?_
    refine va_get (D := (dC, dI)) (ci := 5) (C := RX5) (T := TX5) (N := 17) hx hb hts inlX5 hown hK hP 20 gA_20 rfl 8 (by decide) (hts (.fieldLink RX5 38 "ShapeReader$Shapes" "fieldNames" "[J") mw_14_25) (fun _ h9 => h9) rfl dX5_addField_17 ?_
    refine lv_iload_n hx hb dX5_addField_20 rfl (lv_at hl 2 rfl) ?_
    refine lv_bipush (v := 8) hx hb dX5_addField_21 (by decide) ?_
    refine lv_imul hx hb dX5_addField_23 ?_
    refine lv_iload hx hb dX5_addField_24 (lv_at hl 0 rfl) ?_
    refine lv_iadd hx hb dX5_addField_26 ?_
    refine lv_lload_n hx hb dX5_addField_27 rfl (lv_at hl 3 rfl) ?_
    obtain ⟨hg5, h⟩ := ig h
    refine va_last hx hb hK hP hD hS 27 23 gA_27 yA_27 (vp_in_iff.mpr hg5) dX5_addField_28 (fun H locs hP hD hS => ?_)
    replace hP := uA_27 hP
    replace hD := hD0 ((stL q3.2 27 ((p0 * 8) + q1.1).toNatClampNeg p1))
    refine lv_aload_n hx hb dX5_addField_29 rfl (lv_at hl 1 rfl) ?_
    refine va_get (D := (dC, dI)) (ci := 5) (C := RX5) (T := TX5) (N := 17) hx hb hts inlX5 hown hK hP 20 gA_20 rfl 9 (by decide) (hts (.fieldLink RX5 41 "ShapeReader$Shapes" "formerNames" "[J") mw_14_26) (fun _ h9 => h9) rfl dX5_addField_30 ?_
    refine lv_iload_n hx hb dX5_addField_33 rfl (lv_at hl 2 rfl) ?_
    refine lv_bipush (v := 8) hx hb dX5_addField_34 (by decide) ?_
    refine lv_imul hx hb dX5_addField_36 ?_
    refine lv_iload hx hb dX5_addField_37 (lv_at hl 0 rfl) ?_
    refine lv_iadd hx hb dX5_addField_39 ?_
    refine lv_lconst (v := 0) hx hb dX5_addField_40 (by decide) ?_
    refine va_last hx hb hK hP hD hS 28 24 gA_28 yA_28 (vp_in_iff.mpr hg5) dX5_addField_41 (fun H locs hP hD hS => ?_)
    replace hP := uA_28 hP
    replace hD := hD0 ((stL (stL q3.2 27 ((p0 * 8) + q1.1).toNatClampNeg p1) 28 ((p0 * 8) + q1.1).toNatClampNeg 0))
    obtain ⟨z6, hs, h⟩ := ib h
    replace hs := Option.some.inj hs
    replace hP : va_P (dC, dI) vwCl (wA a k z6) H := by rw [← hs]; exact hP
    replace hD := hD0 z6
    clear hs
    refine lv_aload_n hx hb dX5_addField_42 rfl (lv_at hl 1 rfl) ?_
    refine va_get (D := (dC, dI)) (ci := 5) (C := RX5) (T := TX5) (N := 17) hx hb hts inlX5 hown hK hP 20 gA_20 rfl 10 (by decide) (hts (.fieldLink RX5 44 "ShapeReader$Shapes" "fieldTypes" "[I") mw_14_27) (fun _ h9 => h9) rfl dX5_addField_43 ?_
    refine lv_iload_n hx hb dX5_addField_46 rfl (lv_at hl 2 rfl) ?_
    refine lv_bipush (v := 8) hx hb dX5_addField_47 (by decide) ?_
    refine lv_imul hx hb dX5_addField_49 ?_
    refine lv_iload hx hb dX5_addField_50 (lv_at hl 0 rfl) ?_
    refine lv_iadd hx hb dX5_addField_52 ?_
    refine lv_iconst (v := (-1)) hx hb dX5_addField_53 (by decide) ?_
    refine va_iast hx hb hK hP hD hS 29 25 gA_29 yA_29 (vp_in_iff.mpr hg5) dX5_addField_54 (fun H locs hP hD hS => ?_)
    replace hP := uA_29 hP
    replace hD := hD0 ((stI z6 29 ((p0 * 8) + q1.1).toNatClampNeg (-1)))
    refine lv_aload_n hx hb dX5_addField_55 rfl (lv_at hl 1 rfl) ?_
    refine va_get (D := (dC, dI)) (ci := 5) (C := RX5) (T := TX5) (N := 17) hx hb hts inlX5 hown hK hP 20 gA_20 rfl 11 (by decide) (hts (.fieldLink RX5 47 "ShapeReader$Shapes" "elseWorths" "[J") mw_14_28) (fun _ h9 => h9) rfl dX5_addField_56 ?_
    refine lv_iload_n hx hb dX5_addField_59 rfl (lv_at hl 2 rfl) ?_
    refine lv_bipush (v := 8) hx hb dX5_addField_60 (by decide) ?_
    refine lv_imul hx hb dX5_addField_62 ?_
    refine lv_iload hx hb dX5_addField_63 (lv_at hl 0 rfl) ?_
    refine lv_iadd hx hb dX5_addField_65 ?_
    refine lv_lconst (v := 0) hx hb dX5_addField_66 (by decide) ?_
    refine va_last hx hb hK hP hD hS 30 26 gA_30 yA_30 (vp_in_iff.mpr hg5) dX5_addField_67 (fun H locs hP hD hS => ?_)
    replace hP := uA_30 hP
    replace hD := hD0 ((stL (stI z6 29 ((p0 * 8) + q1.1).toNatClampNeg (-1)) 30 ((p0 * 8) + q1.1).toNatClampNeg 0))
    obtain ⟨z7, hs, h⟩ := ib h
    replace hs := Option.some.inj hs
    replace hP : va_P (dC, dI) vwCl (wA a k z7) H := by rw [← hs]; exact hP
    replace hD := hD0 z7
    clear hs
    refine lv_aload_n hx hb dX5_addField_68 rfl (lv_at hl 1 rfl) ?_
    refine va_get (D := (dC, dI)) (ci := 5) (C := RX5) (T := TX5) (N := 17) hx hb hts inlX5 hown hK hP 20 gA_20 rfl 4 (by decide) (hts (.fieldLink RX5 25 "ShapeReader$Shapes" "fieldCounts" "[I") mw_14_21) (fun _ h9 => h9) rfl dX5_addField_69 ?_
    refine lv_iload_n hx hb dX5_addField_72 rfl (lv_at hl 2 rfl) ?_
    refine lv_dup2_11 hx hb dX5_addField_73 rfl rfl ?_
    obtain ⟨hg8, h⟩ := ig h
    refine va_iald hx hb hK hP 23 19 gA_23 yA_23 (vp_in_iff.mpr hg8) dX5_addField_74 ?_
    refine lv_iconst (v := 1) hx hb dX5_addField_75 (by decide) ?_
    refine lv_iadd hx hb dX5_addField_76 ?_
    refine va_iast hx hb hK hP hD hS 23 19 gA_23 yA_23 (vp_in_iff.mpr hg8) dX5_addField_77 (fun H locs hP hD hS => ?_)
    replace hP := uA_23 hP
    replace hD := hD0 ((stI z7 23 p0.toNatClampNeg ((z7.1 23 p0.toNatClampNeg) + 1)))
    obtain rfl := Option.some.inj h
    exact W.vret hx hb hr (fun t ht hW => ⟨⟨(), rfl, trivial, ⟨by rw [ht]; exact hP, va_K.moved hW.alike hK, hD⟩⟩, hS.F ht⟩) hS.2.2 dX5_addField_78

theorem s_X5_addField_20 {l : Launch} {dC : Nat → ClassId} {dI : Nat → Nat → Nat} {a : Nat → Nat} {k : Nat → ClassId} {sz : Nat} {p0 : Int32} {p1 : Int64} {σ : ST} {q : ST} (h : f_X5_addField 20 p0 p1 σ = some q) : Met l yX5_addField (.code yX5_addField cX5_addField 5 none :: pw) ({ frames := 2, cells := 0, slots := 0, locals := 41 } : Room) (va_Pc [.ref (a 20), .int p0, .long p1] (vPre dC dI (wA a k σ) (tA k) sz)) (qAv dC dI a k (va_A (wA a k σ) sz) q) 0 0 (va_A (wA a k σ) sz) := metA (fun A => qAv dC dI a k A q) (plainFor_of_name (by decide)) (Nat.le_of_ble_eq_true rfl) (fun _ _ _ _ _ _ _ _ hC => b_X5_addField_e_20 hC h)

def f_X5_setType (b : Nat) (p0 : Int32) (p1 : Int32) (p2 : Int32) (σ : ST) : Option (ST) := (f_X5_isFieldOf  p0 p1 σ).bind fun q1 => if q1.1 = 0 then (some q1.2) else (if 0 ≤ ((p0 * 8) + p1).toInt ∧ ((p0 * 8) + p1).toInt < 288 then (some (stI q1.2 (b + 9) ((p0 * 8) + p1).toNatClampNeg p2)) else none)

set_option maxRecDepth 100000 in
set_option maxHeartbeats 4000000 in
theorem b_X5_setType_e_20 {p : Program} {l : Launch} {e : Env} {s : State} {m : MethodId} {args : Array Value} {below : List Frame} {meth : Method} {c : Code} {dC : Nat → ClassId} {dI : Nat → Nat → Nat} {a : Nat → Nat} {k : Nat → ClassId} {A : Nat → Prop} {q : ST} (hC : CxA p s m args meth c dC dI k A cX5_setType RX5 none 4)   {p0 : Int32} {p1 : Int32} {p2 : Int32} {σ : ST} (h : f_X5_setType 20 p0 p1 p2 σ = some q) : GoA p l e ({ frames := 1, cells := 0, slots := 0, locals := 21 } : Room) s m args below meth c (MQ below (qAv dC dI a k A q) args s 0 0 A) dC dI a k A 4 0 σ (lv_args 0 [.ref (a 20), .int p0, .int p1, .int p2]) [] := by
  have hC0 := hC
  obtain ⟨hx, hb, hr, hml, hown, hts, hlocks, hA, hN, hK⟩ := hC0
  intro H locs ls hP hD hS hl
  have hD0 : ∀ σ1 : ST, va_D A (wA a k σ1) := fun σ1 => wA_D hD
  replace hl : lv_has ls 4 [(0, .ref (a 20)), (1, .int p0), (2, .int p1), (3, .int p2)] := hl
  unfold f_X5_setType at h
  refine lv_iload_n hx hb dX5_setType_0 rfl (lv_at hl 1 rfl) ?_
  refine lv_iload_n hx hb dX5_setType_1 rfl (lv_at hl 2 rfl) ?_
  obtain ⟨q1, hc, h⟩ := ib h
  have hF := va_frees hD hS hA
  refine va_calli (va_runS (As := [.int p0, .int p1]) (rest := []) ⟨hx, hb, hml, hown, hts⟩ (s_X5_isFieldOf hc) (va_cwS 2 hts (gS mw_15_7 mw_15_8 mw_0_9 mw_49_25) rfl rfl rfl (by decide +kernel) ⟨(Nat.le_of_ble_eq_true rfl), (Nat.le_of_ble_eq_true rfl)⟩) (vS hK hP hD hN) rfl rfl hl.1 rfl (lv_room (Nat.le_of_ble_eq_true rfl)) dX5_setType_2 ⟨(Nat.le_of_ble_eq_true rfl), (Nat.le_of_ble_eq_true rfl)⟩) hS (fun q _ h => hF q h) hF (fun r2 u t H locs ht hvm hw hB _ _ hS => ?_)
  obtain rfl : r2 = q1.1 := hw
  replace hP : va_P (dC, dI) vwCl (wA a k q1.2) H := by rw [← ht]; exact hB.1
  replace hD := hD0 (q1.2)
  clear hB hF
  refine lv_if_eq (tgt := 20) hx hb dX5_setType_5 (by decide) (fun hc => ?_) (fun hc => ?_)
  · replace h := ip hc h
    obtain rfl := Option.some.inj h
    exact W.vret hx hb hr (fun t ht hW => ⟨⟨(), rfl, trivial, ⟨by rw [ht]; exact hP, va_K.moved hW.alike hK, hD⟩⟩, hS.F ht⟩) hS.2.2 dX5_setType_20
  · replace h := iq hc h
    refine lv_aload_n hx hb dX5_setType_8 rfl (lv_at hl 0 rfl) ?_
    refine va_get (D := (dC, dI)) (ci := 5) (C := RX5) (T := TX5) (N := 17) hx hb hts inlX5 hown hK hP 20 gA_20 rfl 10 (by decide) (hts (.fieldLink RX5 44 "ShapeReader$Shapes" "fieldTypes" "[I") mw_14_27) (fun _ h9 => h9) rfl dX5_setType_9 ?_
    refine lv_iload_n hx hb dX5_setType_12 rfl (lv_at hl 1 rfl) ?_
    refine lv_bipush (v := 8) hx hb dX5_setType_13 (by decide) ?_
    refine lv_imul hx hb dX5_setType_15 ?_
    refine lv_iload_n hx hb dX5_setType_16 rfl (lv_at hl 2 rfl) ?_
    refine lv_iadd hx hb dX5_setType_17 ?_
    refine lv_iload_n hx hb dX5_setType_18 rfl (lv_at hl 3 rfl) ?_
    obtain ⟨hg3, h⟩ := ig h
    refine va_iast hx hb hK hP hD hS 29 25 gA_29 yA_29 (vp_in_iff.mpr hg3) dX5_setType_19 (fun H locs hP hD hS => ?_)
    replace hP := uA_29 hP
    replace hD := hD0 ((stI q1.2 29 ((p0 * 8) + p1).toNatClampNeg p2))
    obtain rfl := Option.some.inj h
    exact W.vret hx hb hr (fun t ht hW => ⟨⟨(), rfl, trivial, ⟨by rw [ht]; exact hP, va_K.moved hW.alike hK, hD⟩⟩, hS.F ht⟩) hS.2.2 dX5_setType_20

theorem s_X5_setType_20 {l : Launch} {dC : Nat → ClassId} {dI : Nat → Nat → Nat} {a : Nat → Nat} {k : Nat → ClassId} {sz : Nat} {p0 : Int32} {p1 : Int32} {p2 : Int32} {σ : ST} {q : ST} (h : f_X5_setType 20 p0 p1 p2 σ = some q) : Met l yX5_setType (.code yX5_setType cX5_setType 4 none :: pw) ({ frames := 1, cells := 0, slots := 0, locals := 21 } : Room) (va_Pc [.ref (a 20), .int p0, .int p1, .int p2] (vPre dC dI (wA a k σ) (tA k) sz)) (qAv dC dI a k (va_A (wA a k σ) sz) q) 0 0 (va_A (wA a k σ) sz) := metA (fun A => qAv dC dI a k A q) (plainFor_of_name (by decide)) (Nat.le_of_ble_eq_true rfl) (fun _ _ _ _ _ _ _ _ hC => b_X5_setType_e_20 hC h)

def f_X3_parseField (p0 : Int32) (p1 : Int32) (σ : ST) : Option (Int32 × ST) := if (σ.1 2 4) = 3 then ((f_X5_fieldNamed 20 p0 (σ.2.1 2 7) σ).bind fun q1 => if q1.1 = (-1) then (if p1 < 8 then ((f_X5_addField 20 p0 (σ.2.1 2 7) q1.2).bind fun q3 => (f_X6_advance   q3).bind fun q5 => (f_T_X3_parseType  0 0 q5).bind fun q7 => if q7.1 = (-1) then (some (0, q7.2)) else ((f_X5_setType 20 p0 p1 q7.1 q7.2).bind fun q9 => (f_X3_parseFormerName  p0 p1 q9).bind fun q11 => if q11.1 = 0 then (some (0, q11.2)) else ((f_X3_parseElse  p0 p1 q11.2).bind fun q13 => if q13.1 = 0 then (some (0, q13.2)) else (some (1, q13.2))))) else ((f_X6_refuse  4 q1.2).bind fun q15 => if q15.1 = 0 ∨ q15.1 = 1 then some (q15.1, q15.2) else none)) else ((f_X6_refuse  3 q1.2).bind fun q17 => if q17.1 = 0 ∨ q17.1 = 1 then some (q17.1, q17.2) else none)) else ((f_X6_refuse  1 σ).bind fun q19 => if q19.1 = 0 ∨ q19.1 = 1 then some (q19.1, q19.2) else none)

set_option maxRecDepth 100000 in
set_option maxHeartbeats 4000000 in
theorem b_X3_parseField_e {p : Program} {l : Launch} {e : Env} {s : State} {m : MethodId} {args : Array Value} {below : List Frame} {meth : Method} {c : Code} {dC : Nat → ClassId} {dI : Nat → Nat → Nat} {a : Nat → Nat} {k : Nat → ClassId} {A : Nat → Prop} {q : Int32 × ST} (hC : CxA p s m args meth c dC dI k A cX3_parseField RX3 (some .boolean) 6)   {p0 : Int32} {p1 : Int32} {σ : ST} (h : f_X3_parseField  p0 p1 σ = some q) : GoA p l e ({ frames := 164, cells := 0, slots := 0, locals := 4253 } : Room) s m args below meth c (MQ below (qAi dC dI a k A q) args s 0 0 A) dC dI a k A 6 0 σ (lv_args 0 [.ref (a 36), .int p0, .int p1]) [] := by
  have hC0 := hC
  obtain ⟨hx, hb, hr, hml, hown, hts, hlocks, hA, hN, hK⟩ := hC0
  intro H locs ls hP hD hS hl
  have hD0 : ∀ σ1 : ST, va_D A (wA a k σ1) := fun σ1 => wA_D hD
  replace hl : lv_has ls 6 [(0, .ref (a 36)), (1, .int p0), (2, .int p1)] := hl
  unfold f_X3_parseField at h
  refine lv_aload_n hx hb dX3_parseField_0 rfl (lv_at hl 0 rfl) ?_
  refine va_get (D := (dC, dI)) (ci := 3) (C := RX3) (T := TX3) (N := 2) hx hb hts inlX3 hown hK hP 36 gA_36 rfl 0 (by decide) (hts (.fieldLink RX3 9 "ShapeReader$PlanText" "tokens" "LShapeReader$Tokens;") mw_7_1) (fun _ h9 => h9) rfl dX3_parseField_1 ?_
  refine va_get (D := (dC, dI)) (ci := 6) (C := RX6) (T := TX6) (N := 14) hx hb hts inlX6 hown hK hP 2 gA_2 rfl 4 (by decide) (hts (.fieldLink RX3 37 "ShapeReader$Tokens" "kind" "I") mw_7_13) (fun _ h9 => h9) rfl dX3_parseField_4 ?_
  refine lv_iconst (v := 3) hx hb dX3_parseField_7 (by decide) ?_
  refine lv_icmp_eq (tgt := 20) hx hb dX3_parseField_8 (by decide) (fun hc => ?_) (fun hc => ?_)
  · replace h := ip hc h
    refine lv_aload_n hx hb dX3_parseField_20 rfl (lv_at hl 0 rfl) ?_
    refine va_get (D := (dC, dI)) (ci := 3) (C := RX3) (T := TX3) (N := 2) hx hb hts inlX3 hown hK hP 36 gA_36 rfl 0 (by decide) (hts (.fieldLink RX3 9 "ShapeReader$PlanText" "tokens" "LShapeReader$Tokens;") mw_7_1) (fun _ h9 => h9) rfl dX3_parseField_21 ?_
    refine va_get (D := (dC, dI)) (ci := 6) (C := RX6) (T := TX6) (N := 14) hx hb hts inlX6 hown hK hP 2 gA_2 rfl 7 (by decide) (hts (.fieldLink RX3 66 "ShapeReader$Tokens" "letters" "J") mw_8_8) (fun _ h9 => h9) rfl dX3_parseField_24 ?_
    refine lv_lstore_n (lv' := [(3, .long (σ.2.1 2 7)), (0, .ref (a 36)), (1, .int p0), (2, .int p1)]) hx hb dX3_parseField_27 rfl hl (by decide) rfl (fun ls hl => ?_)
    refine lv_aload_n hx hb dX3_parseField_28 rfl (lv_at hl 1 rfl) ?_
    refine va_get (D := (dC, dI)) (ci := 3) (C := RX3) (T := TX3) (N := 2) hx hb hts inlX3 hown hK hP 36 gA_36 rfl 1 (by decide) (hts (.fieldLink RX3 15 "ShapeReader$PlanText" "draft" "LShapeReader$Shapes;") mw_7_2) (fun _ h9 => h9) rfl dX3_parseField_29 ?_
    refine lv_iload_n hx hb dX3_parseField_32 rfl (lv_at hl 2 rfl) ?_
    refine lv_lload_n hx hb dX3_parseField_33 rfl (lv_at hl 0 rfl) ?_
    obtain ⟨q1, hc, h⟩ := ib h
    have hF := va_frees hD hS hA
    refine va_calli (va_runV (As := [.int p0, .long (σ.2.1 2 7)]) (rest := []) ⟨hx, hb, hml, hown, hts⟩ (s_X5_fieldNamed_20 hc) (cwV 2 hts (gV mw_8_18 mw_8_19 mw_8_20 mw_0_9 mw_50_14) rfl rfl rfl (by decide +kernel) ⟨(Nat.le_of_ble_eq_true rfl), (Nat.le_of_ble_eq_true rfl)⟩) (vV (ci := 5) (q0 := 20) hK hP hD hN rfl gA_20) rfl rfl hl.1 rfl (lv_room (Nat.le_of_ble_eq_true rfl)) dX3_parseField_34 ⟨(Nat.le_of_ble_eq_true rfl), (Nat.le_of_ble_eq_true rfl)⟩) hS (fun q _ h => hF q h) hF (fun r2 u t H locs ht hvm hw hB _ _ hS => ?_)
    obtain rfl : r2 = q1.1 := hw
    replace hP : va_P (dC, dI) vwCl (wA a k q1.2) H := by rw [← ht]; exact hB.1
    replace hD := hD0 (q1.2)
    clear hB hF
    refine lv_iconst (v := (-1)) hx hb dX3_parseField_37 (by decide) ?_
    refine lv_icmp_eq (tgt := 50) hx hb dX3_parseField_38 (by decide) (fun hc => ?_) (fun hc => ?_)
    · replace h := ip hc h
      refine lv_iload_n hx hb dX3_parseField_50 rfl (lv_at hl 3 rfl) ?_
      refine lv_bipush (v := 8) hx hb dX3_parseField_51 (by decide) ?_
      refine lv_icmp_lt (tgt := 65) hx hb dX3_parseField_53 (by decide) (fun hc => ?_) (fun hc => ?_)
      · replace h := ip hc h
        refine lv_aload_n hx hb dX3_parseField_65 rfl (lv_at hl 1 rfl) ?_
        refine va_get (D := (dC, dI)) (ci := 3) (C := RX3) (T := TX3) (N := 2) hx hb hts inlX3 hown hK hP 36 gA_36 rfl 1 (by decide) (hts (.fieldLink RX3 15 "ShapeReader$PlanText" "draft" "LShapeReader$Shapes;") mw_7_2) (fun _ h9 => h9) rfl dX3_parseField_66 ?_
        refine lv_iload_n hx hb dX3_parseField_69 rfl (lv_at hl 2 rfl) ?_
        refine lv_lload_n hx hb dX3_parseField_70 rfl (lv_at hl 0 rfl) ?_
        obtain ⟨q3, hc, h⟩ := ib h
        have hF := va_frees hD hS hA
        refine va_callv (va_runV (As := [.int p0, .long (σ.2.1 2 7)]) (rest := []) ⟨hx, hb, hml, hown, hts⟩ (s_X5_addField_20 hc) (cwV 2 hts (gV mw_8_21 mw_8_22 mw_8_23 mw_0_9 mw_50_19) rfl rfl rfl (by decide +kernel) ⟨(Nat.le_of_ble_eq_true rfl), (Nat.le_of_ble_eq_true rfl)⟩) (vV (ci := 5) (q0 := 20) hK hP hD hN rfl gA_20) rfl rfl hl.1 rfl (lv_room (Nat.le_of_ble_eq_true rfl)) dX3_parseField_71 ⟨(Nat.le_of_ble_eq_true rfl), (Nat.le_of_ble_eq_true rfl)⟩) hS (fun q _ h => hF q h) hF (fun u t H locs ht hvm hw hB _ _ hS => ?_)
        replace hP : va_P (dC, dI) vwCl (wA a k q3) H := by rw [← ht]; exact hB.1
        replace hD := hD0 (q3)
        clear hB hF
        refine lv_aload_n hx hb dX3_parseField_74 rfl (lv_at hl 1 rfl) ?_
        refine va_get (D := (dC, dI)) (ci := 3) (C := RX3) (T := TX3) (N := 2) hx hb hts inlX3 hown hK hP 36 gA_36 rfl 0 (by decide) (hts (.fieldLink RX3 9 "ShapeReader$PlanText" "tokens" "LShapeReader$Tokens;") mw_7_1) (fun _ h9 => h9) rfl dX3_parseField_75 ?_
        obtain ⟨q5, hc, h⟩ := ib h
        have hF := va_frees hD hS hA
        refine va_callv (va_runV (As := []) (rest := []) ⟨hx, hb, hml, hown, hts⟩ (s_X6_advance hc) (cwV 0 hts (gV mw_8_5 mw_8_6 mw_8_7 mw_0_10 mw_51_8) rfl rfl rfl (by decide +kernel) ⟨(Nat.le_of_ble_eq_true rfl), (Nat.le_of_ble_eq_true rfl)⟩) (vV (ci := 6) (q0 := 2) hK hP hD hN rfl gA_2) rfl rfl hl.1 rfl (lv_room (Nat.le_of_ble_eq_true rfl)) dX3_parseField_78 ⟨(Nat.le_of_ble_eq_true rfl), (Nat.le_of_ble_eq_true rfl)⟩) hS (fun q _ h => hF q h) hF (fun u t H locs ht hvm hw hB _ _ hS => ?_)
        replace hP : va_P (dC, dI) vwCl (wA a k q5) H := by rw [← ht]; exact hB.1
        replace hD := hD0 (q5)
        clear hB hF
        refine lv_aload_n hx hb dX3_parseField_81 rfl (lv_at hl 1 rfl) ?_
        refine lv_iconst (v := 0) hx hb dX3_parseField_82 (by decide) ?_
        refine lv_iconst (v := 0) hx hb dX3_parseField_83 (by decide) ?_
        obtain ⟨q7, hc, h⟩ := ib h
        have hF := va_frees hD hS hA
        refine va_calli (va_runV (As := [.int 0, .int 0]) (rest := []) ⟨hx, hb, hml, hown, hts⟩ (s_X3_parseType hc) (cwV 2 hts (gV mw_8_24 mw_8_25 mw_8_26 mw_0_7 mw_48_25) rfl rfl rfl (by decide +kernel) ⟨(Nat.le_of_ble_eq_true rfl), (Nat.le_of_ble_eq_true rfl)⟩) (vV (ci := 3) (q0 := 36) hK hP hD hN rfl gA_36) rfl rfl hl.1 rfl (lv_room (Nat.le_of_ble_eq_true rfl)) dX3_parseField_84 ⟨(Nat.le_of_ble_eq_true rfl), (Nat.le_of_ble_eq_true rfl)⟩) hS (fun q _ h => hF q h) hF (fun r8 u t H locs ht hvm hw hB _ _ hS => ?_)
        obtain rfl : r8 = q7.1 := hw
        replace hP : va_P (dC, dI) vwCl (wA a k q7.2) H := by rw [← ht]; exact hB.1
        replace hD := hD0 (q7.2)
        clear hB hF
        refine lv_istore (lv' := [(5, .int q7.1), (3, .long (σ.2.1 2 7)), (0, .ref (a 36)), (1, .int p0), (2, .int p1)]) hx hb dX3_parseField_87 hl (by decide) rfl (fun ls hl => ?_)
        refine lv_iload hx hb dX3_parseField_89 (lv_at hl 0 rfl) ?_
        refine lv_iconst (v := (-1)) hx hb dX3_parseField_91 (by decide) ?_
        refine lv_icmp_ne (tgt := 97) hx hb dX3_parseField_92 (by decide) (fun hc => ?_) (fun hc => ?_)
        · replace h := iq hc h
          refine lv_aload_n hx hb dX3_parseField_97 rfl (lv_at hl 2 rfl) ?_
          refine va_get (D := (dC, dI)) (ci := 3) (C := RX3) (T := TX3) (N := 2) hx hb hts inlX3 hown hK hP 36 gA_36 rfl 1 (by decide) (hts (.fieldLink RX3 15 "ShapeReader$PlanText" "draft" "LShapeReader$Shapes;") mw_7_2) (fun _ h9 => h9) rfl dX3_parseField_98 ?_
          refine lv_iload_n hx hb dX3_parseField_101 rfl (lv_at hl 3 rfl) ?_
          refine lv_iload_n hx hb dX3_parseField_102 rfl (lv_at hl 4 rfl) ?_
          refine lv_iload hx hb dX3_parseField_103 (lv_at hl 0 rfl) ?_
          obtain ⟨q9, hc, h⟩ := ib h
          have hF := va_frees hD hS hA
          refine va_callv (va_runV (As := [.int p0, .int p1, .int q7.1]) (rest := []) ⟨hx, hb, hml, hown, hts⟩ (s_X5_setType_20 hc) (cwV 3 hts (gV mw_8_27 mw_8_28 mw_8_29 mw_0_9 mw_50_20) rfl rfl rfl (by decide +kernel) ⟨(Nat.le_of_ble_eq_true rfl), (Nat.le_of_ble_eq_true rfl)⟩) (vV (ci := 5) (q0 := 20) hK hP hD hN rfl gA_20) rfl rfl hl.1 rfl (lv_room (Nat.le_of_ble_eq_true rfl)) dX3_parseField_105 ⟨(Nat.le_of_ble_eq_true rfl), (Nat.le_of_ble_eq_true rfl)⟩) hS (fun q _ h => hF q h) hF (fun u t H locs ht hvm hw hB _ _ hS => ?_)
          replace hP : va_P (dC, dI) vwCl (wA a k q9) H := by rw [← ht]; exact hB.1
          replace hD := hD0 (q9)
          clear hB hF
          refine lv_aload_n hx hb dX3_parseField_108 rfl (lv_at hl 2 rfl) ?_
          refine lv_iload_n hx hb dX3_parseField_109 rfl (lv_at hl 3 rfl) ?_
          refine lv_iload_n hx hb dX3_parseField_110 rfl (lv_at hl 4 rfl) ?_
          obtain ⟨q11, hc, h⟩ := ib h
          have hF := va_frees hD hS hA
          refine va_calli (va_runV (As := [.int p0, .int p1]) (rest := []) ⟨hx, hb, hml, hown, hts⟩ (s_X3_parseFormerName hc) (cwV 2 hts (gV mw_9_0 mw_9_1 mw_9_2 mw_0_7 mw_48_27) rfl rfl rfl (by decide +kernel) ⟨(Nat.le_of_ble_eq_true rfl), (Nat.le_of_ble_eq_true rfl)⟩) (vV (ci := 3) (q0 := 36) hK hP hD hN rfl gA_36) rfl rfl hl.1 rfl (lv_room (Nat.le_of_ble_eq_true rfl)) dX3_parseField_111 ⟨(Nat.le_of_ble_eq_true rfl), (Nat.le_of_ble_eq_true rfl)⟩) hS (fun q _ h => hF q h) hF (fun r12 u t H locs ht hvm hw hB _ _ hS => ?_)
          obtain rfl : r12 = q11.1 := hw
          replace hP : va_P (dC, dI) vwCl (wA a k q11.2) H := by rw [← ht]; exact hB.1
          replace hD := hD0 (q11.2)
          clear hB hF
          refine lv_if_eq (tgt := 130) hx hb dX3_parseField_114 (by decide) (fun hc => ?_) (fun hc => ?_)
          · replace h := ip hc h
            refine lv_iconst (v := 0) hx hb dX3_parseField_130 (by decide) ?_
            obtain rfl := Option.some.inj h
            exact W.zret hx hb hr rfl (fun t ht hW => ⟨⟨_, (), rfl, rfl, ⟨by rw [ht]; exact hP, va_K.moved hW.alike hK, hD⟩⟩, hS.F ht⟩) hS.2.2 dX3_parseField_131
          · replace h := iq hc h
            refine lv_aload_n hx hb dX3_parseField_117 rfl (lv_at hl 2 rfl) ?_
            refine lv_iload_n hx hb dX3_parseField_118 rfl (lv_at hl 3 rfl) ?_
            refine lv_iload_n hx hb dX3_parseField_119 rfl (lv_at hl 4 rfl) ?_
            obtain ⟨q13, hc, h⟩ := ib h
            have hF := va_frees hD hS hA
            refine va_calli (va_runV (As := [.int p0, .int p1]) (rest := []) ⟨hx, hb, hml, hown, hts⟩ (s_X3_parseElse hc) (cwV 2 hts (gV mw_9_3 mw_9_4 mw_9_5 mw_0_7 mw_48_28) rfl rfl rfl (by decide +kernel) ⟨(Nat.le_of_ble_eq_true rfl), (Nat.le_of_ble_eq_true rfl)⟩) (vV (ci := 3) (q0 := 36) hK hP hD hN rfl gA_36) rfl rfl hl.1 rfl (lv_room (Nat.le_of_ble_eq_true rfl)) dX3_parseField_120 ⟨(Nat.le_of_ble_eq_true rfl), (Nat.le_of_ble_eq_true rfl)⟩) hS (fun q _ h => hF q h) hF (fun r14 u t H locs ht hvm hw hB _ _ hS => ?_)
            obtain rfl : r14 = q13.1 := hw
            replace hP : va_P (dC, dI) vwCl (wA a k q13.2) H := by rw [← ht]; exact hB.1
            replace hD := hD0 (q13.2)
            clear hB hF
            refine lv_if_eq (tgt := 130) hx hb dX3_parseField_123 (by decide) (fun hc => ?_) (fun hc => ?_)
            · replace h := ip hc h
              refine lv_iconst (v := 0) hx hb dX3_parseField_130 (by decide) ?_
              obtain rfl := Option.some.inj h
              exact W.zret hx hb hr rfl (fun t ht hW => ⟨⟨_, (), rfl, rfl, ⟨by rw [ht]; exact hP, va_K.moved hW.alike hK, hD⟩⟩, hS.F ht⟩) hS.2.2 dX3_parseField_131
            · replace h := iq hc h
              refine lv_iconst (v := 1) hx hb dX3_parseField_126 (by decide) ?_
              refine lv_goto (tgt := 131) hx hb dX3_parseField_127 (by decide) ?_
              obtain rfl := Option.some.inj h
              exact W.zret hx hb hr rfl (fun t ht hW => ⟨⟨_, (), rfl, rfl, ⟨by rw [ht]; exact hP, va_K.moved hW.alike hK, hD⟩⟩, hS.F ht⟩) hS.2.2 dX3_parseField_131
        · replace h := ip hc h
          refine lv_iconst (v := 0) hx hb dX3_parseField_95 (by decide) ?_
          obtain rfl := Option.some.inj h
          exact W.zret hx hb hr rfl (fun t ht hW => ⟨⟨_, (), rfl, rfl, ⟨by rw [ht]; exact hP, va_K.moved hW.alike hK, hD⟩⟩, hS.F ht⟩) hS.2.2 dX3_parseField_96
      · replace h := iq hc h
        refine lv_aload_n hx hb dX3_parseField_56 rfl (lv_at hl 1 rfl) ?_
        refine va_get (D := (dC, dI)) (ci := 3) (C := RX3) (T := TX3) (N := 2) hx hb hts inlX3 hown hK hP 36 gA_36 rfl 0 (by decide) (hts (.fieldLink RX3 9 "ShapeReader$PlanText" "tokens" "LShapeReader$Tokens;") mw_7_1) (fun _ h9 => h9) rfl dX3_parseField_57 ?_
        refine lv_iconst (v := 4) hx hb dX3_parseField_60 (by decide) ?_
        obtain ⟨q15, hc, h⟩ := ib h
        have hF := va_frees hD hS hA
        refine va_calli (va_runV (As := [.int 4]) (rest := []) ⟨hx, hb, hml, hown, hts⟩ (s_X6_refuse hc) (cwV 1 hts (gV mw_7_14 mw_7_15 mw_7_16 mw_0_10 mw_51_4) rfl rfl rfl (by decide +kernel) ⟨(Nat.le_of_ble_eq_true rfl), (Nat.le_of_ble_eq_true rfl)⟩) (vV (ci := 6) (q0 := 2) hK hP hD hN rfl gA_2) rfl rfl hl.1 rfl (lv_room (Nat.le_of_ble_eq_true rfl)) dX3_parseField_61 ⟨(Nat.le_of_ble_eq_true rfl), (Nat.le_of_ble_eq_true rfl)⟩) hS (fun q _ h => hF q h) hF (fun r16 u t H locs ht hvm hw hB _ _ hS => ?_)
        obtain rfl : r16 = q15.1 := hw
        replace hP : va_P (dC, dI) vwCl (wA a k q15.2) H := by rw [← ht]; exact hB.1
        replace hD := hD0 (q15.2)
        clear hB hF
        obtain ⟨hg, h⟩ := ig h
        obtain rfl := Option.some.inj h
        exact W.zret hx hb hr (zn hg) (fun t ht hW => ⟨⟨_, (), rfl, rfl, ⟨by rw [ht]; exact hP, va_K.moved hW.alike hK, hD⟩⟩, hS.F ht⟩) hS.2.2 dX3_parseField_64
    · replace h := iq hc h
      refine lv_aload_n hx hb dX3_parseField_41 rfl (lv_at hl 1 rfl) ?_
      refine va_get (D := (dC, dI)) (ci := 3) (C := RX3) (T := TX3) (N := 2) hx hb hts inlX3 hown hK hP 36 gA_36 rfl 0 (by decide) (hts (.fieldLink RX3 9 "ShapeReader$PlanText" "tokens" "LShapeReader$Tokens;") mw_7_1) (fun _ h9 => h9) rfl dX3_parseField_42 ?_
      refine lv_iconst (v := 3) hx hb dX3_parseField_45 (by decide) ?_
      obtain ⟨q17, hc, h⟩ := ib h
      have hF := va_frees hD hS hA
      refine va_calli (va_runV (As := [.int 3]) (rest := []) ⟨hx, hb, hml, hown, hts⟩ (s_X6_refuse hc) (cwV 1 hts (gV mw_7_14 mw_7_15 mw_7_16 mw_0_10 mw_51_4) rfl rfl rfl (by decide +kernel) ⟨(Nat.le_of_ble_eq_true rfl), (Nat.le_of_ble_eq_true rfl)⟩) (vV (ci := 6) (q0 := 2) hK hP hD hN rfl gA_2) rfl rfl hl.1 rfl (lv_room (Nat.le_of_ble_eq_true rfl)) dX3_parseField_46 ⟨(Nat.le_of_ble_eq_true rfl), (Nat.le_of_ble_eq_true rfl)⟩) hS (fun q _ h => hF q h) hF (fun r18 u t H locs ht hvm hw hB _ _ hS => ?_)
      obtain rfl : r18 = q17.1 := hw
      replace hP : va_P (dC, dI) vwCl (wA a k q17.2) H := by rw [← ht]; exact hB.1
      replace hD := hD0 (q17.2)
      clear hB hF
      obtain ⟨hg, h⟩ := ig h
      obtain rfl := Option.some.inj h
      exact W.zret hx hb hr (zn hg) (fun t ht hW => ⟨⟨_, (), rfl, rfl, ⟨by rw [ht]; exact hP, va_K.moved hW.alike hK, hD⟩⟩, hS.F ht⟩) hS.2.2 dX3_parseField_49
  · replace h := iq hc h
    refine lv_aload_n hx hb dX3_parseField_11 rfl (lv_at hl 0 rfl) ?_
    refine va_get (D := (dC, dI)) (ci := 3) (C := RX3) (T := TX3) (N := 2) hx hb hts inlX3 hown hK hP 36 gA_36 rfl 0 (by decide) (hts (.fieldLink RX3 9 "ShapeReader$PlanText" "tokens" "LShapeReader$Tokens;") mw_7_1) (fun _ h9 => h9) rfl dX3_parseField_12 ?_
    refine lv_iconst (v := 1) hx hb dX3_parseField_15 (by decide) ?_
    obtain ⟨q19, hc, h⟩ := ib h
    have hF := va_frees hD hS hA
    refine va_calli (va_runV (As := [.int 1]) (rest := []) ⟨hx, hb, hml, hown, hts⟩ (s_X6_refuse hc) (cwV 1 hts (gV mw_7_14 mw_7_15 mw_7_16 mw_0_10 mw_51_4) rfl rfl rfl (by decide +kernel) ⟨(Nat.le_of_ble_eq_true rfl), (Nat.le_of_ble_eq_true rfl)⟩) (vV (ci := 6) (q0 := 2) hK hP hD hN rfl gA_2) rfl rfl hl.1 rfl (lv_room (Nat.le_of_ble_eq_true rfl)) dX3_parseField_16 ⟨(Nat.le_of_ble_eq_true rfl), (Nat.le_of_ble_eq_true rfl)⟩) hS (fun q _ h => hF q h) hF (fun r20 u t H locs ht hvm hw hB _ _ hS => ?_)
    obtain rfl : r20 = q19.1 := hw
    replace hP : va_P (dC, dI) vwCl (wA a k q19.2) H := by rw [← ht]; exact hB.1
    replace hD := hD0 (q19.2)
    clear hB hF
    obtain ⟨hg, h⟩ := ig h
    obtain rfl := Option.some.inj h
    exact W.zret hx hb hr (zn hg) (fun t ht hW => ⟨⟨_, (), rfl, rfl, ⟨by rw [ht]; exact hP, va_K.moved hW.alike hK, hD⟩⟩, hS.F ht⟩) hS.2.2 dX3_parseField_19

theorem s_X3_parseField {l : Launch} {dC : Nat → ClassId} {dI : Nat → Nat → Nat} {a : Nat → Nat} {k : Nat → ClassId} {sz : Nat} {p0 : Int32} {p1 : Int32} {σ : ST} {q : Int32 × ST} (h : f_X3_parseField  p0 p1 σ = some q) : Met l yX3_parseField (.code yX3_parseField cX3_parseField 6 (some .boolean) :: pw) ({ frames := 164, cells := 0, slots := 0, locals := 4253 } : Room) (va_Pc [.ref (a 36), .int p0, .int p1] (vPre dC dI (wA a k σ) (tA k) sz)) (qAi dC dI a k (va_A (wA a k σ) sz) q) 0 0 (va_A (wA a k σ) sz) := metA (fun A => qAi dC dI a k A q) (plainFor_of_name (by decide)) (Nat.le_of_ble_eq_true rfl) (fun _ _ _ _ _ _ _ _ hC => b_X3_parseField_e hC h)

def f_X5_addRecord (b : Nat) (p0 : Int32) (p1 : Int64) (σ : ST) : Option (ST) := (f_X5_recordsOf b p0 σ).bind fun q1 => if p0 < 0 then (some q1.2) else (if 6 ≤ p0 then (some q1.2) else ((f_X5_isRecord  ((p0 * 6) + q1.1) q1.2).bind fun q3 => if q3.1 = 0 then (some q3.2) else (if 0 ≤ ((p0 * 6) + q1.1).toInt ∧ ((p0 * 6) + q1.1).toInt < 36 then ((some (stI (stL q3.2 (b + 4) ((p0 * 6) + q1.1).toNatClampNeg p1) (b + 3) ((p0 * 6) + q1.1).toNatClampNeg 0)).bind fun z6 => if 0 ≤ p0.toInt ∧ p0.toInt < 6 then ((some (stI (stI z6 (b + 5) ((p0 * 6) + q1.1).toNatClampNeg 0) (b + 1) p0.toNatClampNeg (((stI z6 (b + 5) ((p0 * 6) + q1.1).toNatClampNeg 0).1 (b + 1) p0.toNatClampNeg) + 1))).bind fun z8 => some z8) else none) else none)))

set_option maxRecDepth 100000 in
set_option maxHeartbeats 4000000 in
theorem b_X5_addRecord_e_20 {p : Program} {l : Launch} {e : Env} {s : State} {m : MethodId} {args : Array Value} {below : List Frame} {meth : Method} {c : Code} {dC : Nat → ClassId} {dI : Nat → Nat → Nat} {a : Nat → Nat} {k : Nat → ClassId} {A : Nat → Prop} {q : ST} (hC : CxA p s m args meth c dC dI k A cX5_addRecord RX5 none 5)   {p0 : Int32} {p1 : Int64} {σ : ST} (h : f_X5_addRecord 20 p0 p1 σ = some q) : GoA p l e ({ frames := 1, cells := 0, slots := 0, locals := 21 } : Room) s m args below meth c (MQ below (qAv dC dI a k A q) args s 0 0 A) dC dI a k A 5 0 σ (lv_args 0 [.ref (a 20), .int p0, .long p1]) [] := by
  have hC0 := hC
  obtain ⟨hx, hb, hr, hml, hown, hts, hlocks, hA, hN, hK⟩ := hC0
  intro H locs ls hP hD hS hl
  have hD0 : ∀ σ1 : ST, va_D A (wA a k σ1) := fun σ1 => wA_D hD
  replace hl : lv_has ls 5 [(0, .ref (a 20)), (1, .int p0), (2, .long p1)] := hl
  unfold f_X5_addRecord at h
  refine lv_iload_n hx hb dX5_addRecord_0 rfl (lv_at hl 1 rfl) ?_
  refine lv_bipush (v := 6) hx hb dX5_addRecord_1 (by decide) ?_
  refine lv_imul hx hb dX5_addRecord_3 ?_
  refine lv_aload_n hx hb dX5_addRecord_4 rfl (lv_at hl 0 rfl) ?_
  refine lv_iload_n hx hb dX5_addRecord_5 rfl (lv_at hl 1 rfl) ?_
  obtain ⟨q1, hc, h⟩ := ib h
  have hF := va_frees hD hS hA
  refine va_calli (va_runV (As := [.int p0]) (rest := [.int (p0 * 6)]) ⟨hx, hb, hml, hown, hts⟩ (s_X5_recordsOf_20 hc) (cwV 1 hts (gV mw_15_16 mw_1_13 mw_1_14 mw_0_9 mw_49_27) rfl rfl rfl (by decide +kernel) ⟨(Nat.le_of_ble_eq_true rfl), (Nat.le_of_ble_eq_true rfl)⟩) (vV (ci := 5) (q0 := 20) hK hP hD hN rfl gA_20) rfl rfl hl.1 rfl (lv_room (Nat.le_of_ble_eq_true rfl)) dX5_addRecord_6 ⟨(Nat.le_of_ble_eq_true rfl), (Nat.le_of_ble_eq_true rfl)⟩) hS (fun q _ h => hF q h) hF (fun r2 u t H locs ht hvm hw hB _ _ hS => ?_)
  obtain rfl : r2 = q1.1 := hw
  replace hP : va_P (dC, dI) vwCl (wA a k q1.2) H := by rw [← ht]; exact hB.1
  replace hD := hD0 (q1.2)
  clear hB hF
  refine lv_iadd hx hb dX5_addRecord_9 ?_
  refine lv_istore (lv' := [(4, .int ((p0 * 6) + q1.1)), (0, .ref (a 20)), (1, .int p0), (2, .long p1)]) hx hb dX5_addRecord_10 hl (by decide) rfl (fun ls hl => ?_)
  refine lv_iload_n hx hb dX5_addRecord_12 rfl (lv_at hl 2 rfl) ?_
  refine lv_if_lt (tgt := 64) hx hb dX5_addRecord_13 (by decide) (fun hc => ?_) (fun hc => ?_)
  · replace h := ip hc h
    obtain rfl := Option.some.inj h
    exact W.vret hx hb hr (fun t ht hW => ⟨⟨(), rfl, trivial, ⟨by rw [ht]; exact hP, va_K.moved hW.alike hK, hD⟩⟩, hS.F ht⟩) hS.2.2 dX5_addRecord_64
  · replace h := iq hc h
    refine lv_iload_n hx hb dX5_addRecord_16 rfl (lv_at hl 2 rfl) ?_
    refine lv_bipush (v := 6) hx hb dX5_addRecord_17 (by decide) ?_
    refine lv_icmp_ge (tgt := 64) hx hb dX5_addRecord_19 (by decide) (fun hc => ?_) (fun hc => ?_)
    · replace h := ip hc h
      obtain rfl := Option.some.inj h
      exact W.vret hx hb hr (fun t ht hW => ⟨⟨(), rfl, trivial, ⟨by rw [ht]; exact hP, va_K.moved hW.alike hK, hD⟩⟩, hS.F ht⟩) hS.2.2 dX5_addRecord_64
    · replace h := iq hc h
      refine lv_iload hx hb dX5_addRecord_22 (lv_at hl 0 rfl) ?_
      obtain ⟨q3, hc, h⟩ := ib h
      have hF := va_frees hD hS hA
      refine va_calli (va_runS (As := [.int ((p0 * 6) + q1.1)]) (rest := []) ⟨hx, hb, hml, hown, hts⟩ (s_X5_isRecord hc) (va_cwS 1 hts (gS mw_15_5 mw_15_6 mw_0_9 mw_49_24) rfl rfl rfl (by decide +kernel) ⟨(Nat.le_of_ble_eq_true rfl), (Nat.le_of_ble_eq_true rfl)⟩) (vS hK hP hD hN) rfl rfl hl.1 rfl (lv_room (Nat.le_of_ble_eq_true rfl)) dX5_addRecord_24 ⟨(Nat.le_of_ble_eq_true rfl), (Nat.le_of_ble_eq_true rfl)⟩) hS (fun q _ h => hF q h) hF (fun r4 u t H locs ht hvm hw hB _ _ hS => ?_)
      obtain rfl : r4 = q3.1 := hw
      replace hP : va_P (dC, dI) vwCl (wA a k q3.2) H := by rw [← ht]; exact hB.1
      replace hD := hD0 (q3.2)
      clear hB hF
      refine lv_if_eq (tgt := 64) hx hb dX5_addRecord_27 (by decide) (fun hc => ?_) (fun hc => ?_)
      · replace h := ip hc h
        obtain rfl := Option.some.inj h
        exact W.vret hx hb hr (fun t ht hW => ⟨⟨(), rfl, trivial, ⟨by rw [ht]; exact hP, va_K.moved hW.alike hK, hD⟩⟩, hS.F ht⟩) hS.2.2 dX5_addRecord_64
      · replace h := iq hc h
        refine lv_aload_n hx hb dX5_addRecord_30 rfl (lv_at hl 1 rfl) ?_
        refine va_get (D := (dC, dI)) (ci := 5) (C := RX5) (T := TX5) (N := 17) hx hb hts inlX5 hown hK hP 20 gA_20 rfl 5 (by decide) (hts (.fieldLink RX5 28 "ShapeReader$Shapes" "recordNames" "[J") mw_14_22) (fun _ h9 => h9) rfl dX5_addRecord_31 ?_
        refine lv_iload hx hb dX5_addRecord_34 (lv_at hl 0 rfl) ?_
        refine lv_lload_n hx hb dX5_addRecord_36 rfl (lv_at hl 3 rfl) ?_
        obtain ⟨hg5, h⟩ := ig h
        refine va_last hx hb hK hP hD hS 24 20 gA_24 yA_24 (vp_in_iff.mpr hg5) dX5_addRecord_37 (fun H locs hP hD hS => ?_)
        replace hP := uA_24 hP
        replace hD := hD0 ((stL q3.2 24 ((p0 * 6) + q1.1).toNatClampNeg p1))
        refine lv_aload_n hx hb dX5_addRecord_38 rfl (lv_at hl 1 rfl) ?_
        refine va_get (D := (dC, dI)) (ci := 5) (C := RX5) (T := TX5) (N := 17) hx hb hts inlX5 hown hK hP 20 gA_20 rfl 4 (by decide) (hts (.fieldLink RX5 25 "ShapeReader$Shapes" "fieldCounts" "[I") mw_14_21) (fun _ h9 => h9) rfl dX5_addRecord_39 ?_
        refine lv_iload hx hb dX5_addRecord_42 (lv_at hl 0 rfl) ?_
        refine lv_iconst (v := 0) hx hb dX5_addRecord_44 (by decide) ?_
        refine va_iast hx hb hK hP hD hS 23 19 gA_23 yA_23 (vp_in_iff.mpr hg5) dX5_addRecord_45 (fun H locs hP hD hS => ?_)
        replace hP := uA_23 hP
        replace hD := hD0 ((stI (stL q3.2 24 ((p0 * 6) + q1.1).toNatClampNeg p1) 23 ((p0 * 6) + q1.1).toNatClampNeg 0))
        obtain ⟨z6, hs, h⟩ := ib h
        replace hs := Option.some.inj hs
        replace hP : va_P (dC, dI) vwCl (wA a k z6) H := by rw [← hs]; exact hP
        replace hD := hD0 z6
        clear hs
        refine lv_aload_n hx hb dX5_addRecord_46 rfl (lv_at hl 1 rfl) ?_
        refine va_get (D := (dC, dI)) (ci := 5) (C := RX5) (T := TX5) (N := 17) hx hb hts inlX5 hown hK hP 20 gA_20 rfl 6 (by decide) (hts (.fieldLink RX5 32 "ShapeReader$Shapes" "elseBits" "[I") mw_14_23) (fun _ h9 => h9) rfl dX5_addRecord_47 ?_
        refine lv_iload hx hb dX5_addRecord_50 (lv_at hl 0 rfl) ?_
        refine lv_iconst (v := 0) hx hb dX5_addRecord_52 (by decide) ?_
        refine va_iast hx hb hK hP hD hS 25 21 gA_25 yA_25 (vp_in_iff.mpr hg5) dX5_addRecord_53 (fun H locs hP hD hS => ?_)
        replace hP := uA_25 hP
        replace hD := hD0 ((stI z6 25 ((p0 * 6) + q1.1).toNatClampNeg 0))
        refine lv_aload_n hx hb dX5_addRecord_54 rfl (lv_at hl 1 rfl) ?_
        refine va_get (D := (dC, dI)) (ci := 5) (C := RX5) (T := TX5) (N := 17) hx hb hts inlX5 hown hK hP 20 gA_20 rfl 2 (by decide) (hts (.fieldLink RX5 18 "ShapeReader$Shapes" "recordCounts" "[I") mw_14_19) (fun _ h9 => h9) rfl dX5_addRecord_55 ?_
        refine lv_iload_n hx hb dX5_addRecord_58 rfl (lv_at hl 2 rfl) ?_
        refine lv_dup2_11 hx hb dX5_addRecord_59 rfl rfl ?_
        obtain ⟨hg7, h⟩ := ig h
        refine va_iald hx hb hK hP 21 17 gA_21 yA_21 (vp_in_iff.mpr hg7) dX5_addRecord_60 ?_
        refine lv_iconst (v := 1) hx hb dX5_addRecord_61 (by decide) ?_
        refine lv_iadd hx hb dX5_addRecord_62 ?_
        refine va_iast hx hb hK hP hD hS 21 17 gA_21 yA_21 (vp_in_iff.mpr hg7) dX5_addRecord_63 (fun H locs hP hD hS => ?_)
        replace hP := uA_21 hP
        replace hD := hD0 ((stI (stI z6 25 ((p0 * 6) + q1.1).toNatClampNeg 0) 21 p0.toNatClampNeg (((stI z6 25 ((p0 * 6) + q1.1).toNatClampNeg 0).1 21 p0.toNatClampNeg) + 1)))
        obtain ⟨z8, hs, h⟩ := ib h
        replace hs := Option.some.inj hs
        replace hP : va_P (dC, dI) vwCl (wA a k z8) H := by rw [← hs]; exact hP
        replace hD := hD0 z8
        clear hs
        obtain rfl := Option.some.inj h
        exact W.vret hx hb hr (fun t ht hW => ⟨⟨(), rfl, trivial, ⟨by rw [ht]; exact hP, va_K.moved hW.alike hK, hD⟩⟩, hS.F ht⟩) hS.2.2 dX5_addRecord_64

theorem s_X5_addRecord_20 {l : Launch} {dC : Nat → ClassId} {dI : Nat → Nat → Nat} {a : Nat → Nat} {k : Nat → ClassId} {sz : Nat} {p0 : Int32} {p1 : Int64} {σ : ST} {q : ST} (h : f_X5_addRecord 20 p0 p1 σ = some q) : Met l yX5_addRecord (.code yX5_addRecord cX5_addRecord 5 none :: pw) ({ frames := 1, cells := 0, slots := 0, locals := 21 } : Room) (va_Pc [.ref (a 20), .int p0, .long p1] (vPre dC dI (wA a k σ) (tA k) sz)) (qAv dC dI a k (va_A (wA a k σ) sz) q) 0 0 (va_A (wA a k σ) sz) := metA (fun A => qAv dC dI a k A q) (plainFor_of_name (by decide)) (Nat.le_of_ble_eq_true rfl) (fun _ _ _ _ _ _ _ _ hC => b_X5_addRecord_e_20 hC h)

def f_X5_recordNamed_3 (b : Nat) : Nat → Int32 → Int64 → Int32 → ST → Option (Int32 × ST)
  | 0, _, _, _, _ => none
  | n + 1, x1, x2, x4, σ => (f_X5_recordsOf b x1 σ).bind fun q1 => if q1.1 ≤ x4 then (some ((-1), q1.2)) else ((f_X5_recordName b ((x1 * 6) + x4) q1.2).bind fun q3 => if (lg_cmp q3.1 x2) = 0 then (some (((x1 * 6) + x4), q3.2)) else (f_X5_recordNamed_3 b n x1 x2 (x4 + 1) q3.2))
def f_X5_recordNamed (b : Nat) (p0 : Int32) (p1 : Int64) (σ : ST) : Option (Int32 × ST) := f_X5_recordNamed_3 b FU p0 p1 0 σ

set_option maxRecDepth 100000 in
set_option maxHeartbeats 4000000 in
theorem b_X5_recordNamed_3_20 {p : Program} {l : Launch} {e : Env} {s : State} {m : MethodId} {args : Array Value} {below : List Frame} {meth : Method} {c : Code} {dC : Nat → ClassId} {dI : Nat → Nat → Nat} {a : Nat → Nat} {k : Nat → ClassId} {A : Nat → Prop} {q : Int32 × ST} (hC : CxA p s m args meth c dC dI k A cX5_recordNamed RX5 (some .int) 5)   : ∀ (n : Nat) (x1 : Int32) (x2 : Int64) (x4 : Int32) (σ : ST), f_X5_recordNamed_3 20 n x1 x2 x4 σ = some q → GoA p l e ({ frames := 2, cells := 0, slots := 0, locals := 41 } : Room) s m args below meth c (MQ below (qAi dC dI a k A q) args s 0 0 A) dC dI a k A 5 3 σ [(0, .ref (a 20)), (1, .int x1), (2, .long x2), (4, .int x4)] [] := by
  intro n
  induction n with
  | zero =>
    intro x1 x2 x4 σ h
    rw [f_X5_recordNamed_3] at h
    cases h
  | succ n ih =>
    intro x1 x2 x4 σ h
    have hC0 := hC
    obtain ⟨hx, hb, hr, hml, hown, hts, hlocks, hA, hN, hK⟩ := hC0
    intro H locs ls hP hD hS hl
    have hD0 : ∀ σ1 : ST, va_D A (wA a k σ1) := fun σ1 => wA_D hD
    rw [f_X5_recordNamed_3] at h
    refine lv_iload hx hb dX5_recordNamed_3 (lv_at hl 3 rfl) ?_
    refine lv_aload_n hx hb dX5_recordNamed_5 rfl (lv_at hl 0 rfl) ?_
    refine lv_iload_n hx hb dX5_recordNamed_6 rfl (lv_at hl 1 rfl) ?_
    obtain ⟨q1, hc, h⟩ := ib h
    have hF := va_frees hD hS hA
    refine va_calli (va_runV (As := [.int x1]) (rest := [.int x4]) ⟨hx, hb, hml, hown, hts⟩ (s_X5_recordsOf_20 hc) (cwV 1 hts (gV mw_15_16 mw_1_13 mw_1_14 mw_0_9 mw_49_27) rfl rfl rfl (by decide +kernel) ⟨(Nat.le_of_ble_eq_true rfl), (Nat.le_of_ble_eq_true rfl)⟩) (vV (ci := 5) (q0 := 20) hK hP hD hN rfl gA_20) rfl rfl hl.1 rfl (lv_room (Nat.le_of_ble_eq_true rfl)) dX5_recordNamed_7 ⟨(Nat.le_of_ble_eq_true rfl), (Nat.le_of_ble_eq_true rfl)⟩) hS (fun q _ h => hF q h) hF (fun r2 u t H locs ht hvm hw hB _ _ hS => ?_)
    obtain rfl : r2 = q1.1 := hw
    replace hP : va_P (dC, dI) vwCl (wA a k q1.2) H := by rw [← ht]; exact hB.1
    replace hD := hD0 (q1.2)
    clear hB hF
    refine lv_icmp_ge (tgt := 43) hx hb dX5_recordNamed_10 (by decide) (fun hc => ?_) (fun hc => ?_)
    · replace h := ip hc h
      refine lv_iconst (v := (-1)) hx hb dX5_recordNamed_43 (by decide) ?_
      obtain rfl := Option.some.inj h
      exact W.iret hx hb hr (fun t ht hW => ⟨⟨_, (), rfl, rfl, ⟨by rw [ht]; exact hP, va_K.moved hW.alike hK, hD⟩⟩, hS.F ht⟩) hS.2.2 dX5_recordNamed_44
    · replace h := iq hc h
      refine lv_aload_n hx hb dX5_recordNamed_13 rfl (lv_at hl 0 rfl) ?_
      refine lv_iload_n hx hb dX5_recordNamed_14 rfl (lv_at hl 1 rfl) ?_
      refine lv_bipush (v := 6) hx hb dX5_recordNamed_15 (by decide) ?_
      refine lv_imul hx hb dX5_recordNamed_17 ?_
      refine lv_iload hx hb dX5_recordNamed_18 (lv_at hl 3 rfl) ?_
      refine lv_iadd hx hb dX5_recordNamed_20 ?_
      obtain ⟨q3, hc, h⟩ := ib h
      have hF := va_frees hD hS hA
      refine va_calll (va_runV (As := [.int ((x1 * 6) + x4)]) (rest := []) ⟨hx, hb, hml, hown, hts⟩ (s_X5_recordName_20 hc) (cwV 1 hts (gV mw_15_17 mw_1_25 mw_1_26 mw_0_9 mw_50_0) rfl rfl rfl (by decide +kernel) ⟨(Nat.le_of_ble_eq_true rfl), (Nat.le_of_ble_eq_true rfl)⟩) (vV (ci := 5) (q0 := 20) hK hP hD hN rfl gA_20) rfl rfl hl.1 rfl (lv_room (Nat.le_of_ble_eq_true rfl)) dX5_recordNamed_21 ⟨(Nat.le_of_ble_eq_true rfl), (Nat.le_of_ble_eq_true rfl)⟩) hS (fun q _ h => hF q h) hF (fun r4 u t H locs ht hvm hw hB _ _ hS => ?_)
      obtain rfl : r4 = q3.1 := hw
      replace hP : va_P (dC, dI) vwCl (wA a k q3.2) H := by rw [← ht]; exact hB.1
      replace hD := hD0 (q3.2)
      clear hB hF
      refine lv_lload_n hx hb dX5_recordNamed_24 rfl (lv_at hl 2 rfl) ?_
      refine W.lcmp hx hb dX5_recordNamed_25 ?_
      refine lv_if_ne (tgt := 37) hx hb dX5_recordNamed_26 (by decide) (fun hc => ?_) (fun hc => ?_)
      · replace h := iq hc h
        refine lv_iinc (v := (x4 + 1)) (lv' := [(4, .int (x4 + 1)), (0, .ref (a 20)), (1, .int x1), (2, .long x2)]) hx hb dX5_recordNamed_37 hl (k := 3) rfl rfl (by decide) rfl (fun ls hl => ?_)
        refine lv_goto (tgt := 3) hx hb dX5_recordNamed_40 (by decide) ?_
        exact ih _ _ _ _ h _ _ _ hP hD hS (lv_sub hl [1, 2, 3, 0] rfl)
      · replace h := ip hc h
        refine lv_iload_n hx hb dX5_recordNamed_29 rfl (lv_at hl 1 rfl) ?_
        refine lv_bipush (v := 6) hx hb dX5_recordNamed_30 (by decide) ?_
        refine lv_imul hx hb dX5_recordNamed_32 ?_
        refine lv_iload hx hb dX5_recordNamed_33 (lv_at hl 3 rfl) ?_
        refine lv_iadd hx hb dX5_recordNamed_35 ?_
        obtain rfl := Option.some.inj h
        exact W.iret hx hb hr (fun t ht hW => ⟨⟨_, (), rfl, rfl, ⟨by rw [ht]; exact hP, va_K.moved hW.alike hK, hD⟩⟩, hS.F ht⟩) hS.2.2 dX5_recordNamed_36

set_option maxRecDepth 100000 in
set_option maxHeartbeats 4000000 in
theorem b_X5_recordNamed_e_20 {p : Program} {l : Launch} {e : Env} {s : State} {m : MethodId} {args : Array Value} {below : List Frame} {meth : Method} {c : Code} {dC : Nat → ClassId} {dI : Nat → Nat → Nat} {a : Nat → Nat} {k : Nat → ClassId} {A : Nat → Prop} {q : Int32 × ST} (hC : CxA p s m args meth c dC dI k A cX5_recordNamed RX5 (some .int) 5)   {p0 : Int32} {p1 : Int64} {σ : ST} (h : f_X5_recordNamed 20 p0 p1 σ = some q) : GoA p l e ({ frames := 2, cells := 0, slots := 0, locals := 41 } : Room) s m args below meth c (MQ below (qAi dC dI a k A q) args s 0 0 A) dC dI a k A 5 0 σ (lv_args 0 [.ref (a 20), .int p0, .long p1]) [] := by
  have hC0 := hC
  obtain ⟨hx, hb, hr, hml, hown, hts, hlocks, hA, hN, hK⟩ := hC0
  intro H locs ls hP hD hS hl
  have hD0 : ∀ σ1 : ST, va_D A (wA a k σ1) := fun σ1 => wA_D hD
  replace hl : lv_has ls 5 [(0, .ref (a 20)), (1, .int p0), (2, .long p1)] := hl
  unfold f_X5_recordNamed at h
  refine lv_iconst (v := 0) hx hb dX5_recordNamed_0 (by decide) ?_
  refine lv_istore (lv' := [(4, .int 0), (0, .ref (a 20)), (1, .int p0), (2, .long p1)]) hx hb dX5_recordNamed_1 hl (by decide) rfl (fun ls hl => ?_)
  exact b_X5_recordNamed_3_20 hC FU _ _ _ _ h _ _ _ hP hD hS (lv_sub hl [1, 2, 3, 0] rfl)

theorem s_X5_recordNamed_20 {l : Launch} {dC : Nat → ClassId} {dI : Nat → Nat → Nat} {a : Nat → Nat} {k : Nat → ClassId} {sz : Nat} {p0 : Int32} {p1 : Int64} {σ : ST} {q : Int32 × ST} (h : f_X5_recordNamed 20 p0 p1 σ = some q) : Met l yX5_recordNamed (.code yX5_recordNamed cX5_recordNamed 5 (some .int) :: pw) ({ frames := 2, cells := 0, slots := 0, locals := 41 } : Room) (va_Pc [.ref (a 20), .int p0, .long p1] (vPre dC dI (wA a k σ) (tA k) sz)) (qAi dC dI a k (va_A (wA a k σ) sz) q) 0 0 (va_A (wA a k σ) sz) := metA (fun A => qAi dC dI a k A q) (plainFor_of_name (by decide)) (Nat.le_of_ble_eq_true rfl) (fun _ _ _ _ _ _ _ _ hC => b_X5_recordNamed_e_20 hC h)
