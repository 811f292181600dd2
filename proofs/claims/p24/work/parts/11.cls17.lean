theorem dX3_beginPlan_0 : decode cX3_beginPlan 0 = .ok (.iload_n 1, 1) := by decide +kernel
theorem dX3_beginPlan_1 : decode cX3_beginPlan 1 = .ok (.bipush 6, 2) := by decide +kernel
theorem dX3_beginPlan_3 : decode cX3_beginPlan 3 = .ok (.if_icmp .lt 12, 3) := by decide +kernel
theorem dX3_beginPlan_6 : decode cX3_beginPlan 6 = .ok (.aload_n 0, 1) := by decide +kernel
theorem dX3_beginPlan_7 : decode cX3_beginPlan 7 = .ok (.getfield 9, 3) := by decide +kernel
theorem dX3_beginPlan_10 : decode cX3_beginPlan 10 = .ok (.iconst 4, 1) := by decide +kernel
theorem dX3_beginPlan_11 : decode cX3_beginPlan 11 = .ok (.invokevirtual 41, 3) := by decide +kernel
theorem dX3_beginPlan_14 : decode cX3_beginPlan 14 = .ok (.ireturn, 1) := by decide +kernel
theorem dX3_beginPlan_15 : decode cX3_beginPlan 15 = .ok (.aload_n 0, 1) := by decide +kernel
theorem dX3_beginPlan_16 : decode cX3_beginPlan 16 = .ok (.getfield 15, 3) := by decide +kernel
theorem dX3_beginPlan_19 : decode cX3_beginPlan 19 = .ok (.iload_n 1, 1) := by decide +kernel
theorem dX3_beginPlan_20 : decode cX3_beginPlan 20 = .ok (.invokevirtual 59, 3) := by decide +kernel
theorem dX3_beginPlan_23 : decode cX3_beginPlan 23 = .ok (.aload_n 0, 1) := by decide +kernel
theorem dX3_beginPlan_24 : decode cX3_beginPlan 24 = .ok (.getfield 9, 3) := by decide +kernel
theorem dX3_beginPlan_27 : decode cX3_beginPlan 27 = .ok (.invokevirtual 63, 3) := by decide +kernel
theorem dX3_beginPlan_30 : decode cX3_beginPlan 30 = .ok (.aload_n 0, 1) := by decide +kernel
theorem dX3_beginPlan_31 : decode cX3_beginPlan 31 = .ok (.getfield 9, 3) := by decide +kernel
theorem dX3_beginPlan_34 : decode cX3_beginPlan 34 = .ok (.getfield 37, 3) := by decide +kernel
theorem dX3_beginPlan_37 : decode cX3_beginPlan 37 = .ok (.bipush 59, 2) := by decide +kernel
theorem dX3_beginPlan_39 : decode cX3_beginPlan 39 = .ok (.if_icmp .eq 12, 3) := by decide +kernel
theorem dX3_beginPlan_42 : decode cX3_beginPlan 42 = .ok (.aload_n 0, 1) := by decide +kernel
theorem dX3_beginPlan_43 : decode cX3_beginPlan 43 = .ok (.getfield 9, 3) := by decide +kernel
theorem dX3_beginPlan_46 : decode cX3_beginPlan 46 = .ok (.iconst 1, 1) := by decide +kernel
theorem dX3_beginPlan_47 : decode cX3_beginPlan 47 = .ok (.invokevirtual 41, 3) := by decide +kernel
theorem dX3_beginPlan_50 : decode cX3_beginPlan 50 = .ok (.ireturn, 1) := by decide +kernel
theorem dX3_beginPlan_51 : decode cX3_beginPlan 51 = .ok (.aload_n 0, 1) := by decide +kernel
theorem dX3_beginPlan_52 : decode cX3_beginPlan 52 = .ok (.getfield 9, 3) := by decide +kernel
theorem dX3_beginPlan_55 : decode cX3_beginPlan 55 = .ok (.invokevirtual 63, 3) := by decide +kernel
theorem dX3_beginPlan_58 : decode cX3_beginPlan 58 = .ok (.iconst 1, 1) := by decide +kernel
theorem dX3_beginPlan_59 : decode cX3_beginPlan 59 = .ok (.ireturn, 1) := by decide +kernel
theorem dX3_parseElse_0 : decode cX3_parseElse 0 = .ok (.aload_n 0, 1) := by decide +kernel
theorem dX3_parseElse_1 : decode cX3_parseElse 1 = .ok (.getfield 9, 3) := by decide +kernel
theorem dX3_parseElse_4 : decode cX3_parseElse 4 = .ok (.iconst 3, 1) := by decide +kernel
theorem dX3_parseElse_5 : decode cX3_parseElse 5 = .ok (.invokevirtual 30, 3) := by decide +kernel
theorem dX3_parseElse_8 : decode cX3_parseElse 8 = .ok (.ifCond .ne 5, 3) := by decide +kernel
theorem dX3_parseElse_11 : decode cX3_parseElse 11 = .ok (.iconst 1, 1) := by decide +kernel
theorem dX3_parseElse_12 : decode cX3_parseElse 12 = .ok (.ireturn, 1) := by decide +kernel
theorem dX3_parseElse_13 : decode cX3_parseElse 13 = .ok (.aload_n 0, 1) := by decide +kernel
theorem dX3_parseElse_14 : decode cX3_parseElse 14 = .ok (.getfield 9, 3) := by decide +kernel
theorem dX3_parseElse_17 : decode cX3_parseElse 17 = .ok (.invokevirtual 63, 3) := by decide +kernel
theorem dX3_parseElse_20 : decode cX3_parseElse 20 = .ok (.aload_n 0, 1) := by decide +kernel
theorem dX3_parseElse_21 : decode cX3_parseElse 21 = .ok (.getfield 9, 3) := by decide +kernel
theorem dX3_parseElse_24 : decode cX3_parseElse 24 = .ok (.invokevirtual 141, 3) := by decide +kernel
theorem dX3_parseElse_27 : decode cX3_parseElse 27 = .ok (.ifCond .ne 12, 3) := by decide +kernel
theorem dX3_parseElse_30 : decode cX3_parseElse 30 = .ok (.aload_n 0, 1) := by decide +kernel
theorem dX3_parseElse_31 : decode cX3_parseElse 31 = .ok (.getfield 9, 3) := by decide +kernel
theorem dX3_parseElse_34 : decode cX3_parseElse 34 = .ok (.iconst 1, 1) := by decide +kernel
theorem dX3_parseElse_35 : decode cX3_parseElse 35 = .ok (.invokevirtual 41, 3) := by decide +kernel
theorem dX3_parseElse_38 : decode cX3_parseElse 38 = .ok (.ireturn, 1) := by decide +kernel
theorem dX3_parseElse_39 : decode cX3_parseElse 39 = .ok (.aload_n 0, 1) := by decide +kernel
theorem dX3_parseElse_40 : decode cX3_parseElse 40 = .ok (.getfield 15, 3) := by decide +kernel
theorem dX3_parseElse_43 : decode cX3_parseElse 43 = .ok (.aload_n 0, 1) := by decide +kernel
theorem dX3_parseElse_44 : decode cX3_parseElse 44 = .ok (.getfield 15, 3) := by decide +kernel
theorem dX3_parseElse_47 : decode cX3_parseElse 47 = .ok (.aload_n 0, 1) := by decide +kernel
theorem dX3_parseElse_48 : decode cX3_parseElse 48 = .ok (.getfield 15, 3) := by decide +kernel
theorem dX3_parseElse_51 : decode cX3_parseElse 51 = .ok (.iload_n 1, 1) := by decide +kernel
theorem dX3_parseElse_52 : decode cX3_parseElse 52 = .ok (.iload_n 2, 1) := by decide +kernel
theorem dX3_parseElse_53 : decode cX3_parseElse 53 = .ok (.invokevirtual 145, 3) := by decide +kernel
theorem dX3_parseElse_56 : decode cX3_parseElse 56 = .ok (.invokevirtual 148, 3) := by decide +kernel
theorem dX3_parseElse_59 : decode cX3_parseElse 59 = .ok (.invokevirtual 130, 3) := by decide +kernel
theorem dX3_parseElse_62 : decode cX3_parseElse 62 = .ok (.istore_n 3, 1) := by decide +kernel
theorem dX3_parseElse_63 : decode cX3_parseElse 63 = .ok (.aload_n 0, 1) := by decide +kernel
theorem dX3_parseElse_64 : decode cX3_parseElse 64 = .ok (.getfield 9, 3) := by decide +kernel
theorem dX3_parseElse_67 : decode cX3_parseElse 67 = .ok (.iload_n 3, 1) := by decide +kernel
theorem dX3_parseElse_68 : decode cX3_parseElse 68 = .ok (.invokevirtual 151, 3) := by decide +kernel
theorem dX3_parseElse_71 : decode cX3_parseElse 71 = .ok (.ifCond .ne 12, 3) := by decide +kernel
theorem dX3_parseElse_74 : decode cX3_parseElse 74 = .ok (.aload_n 0, 1) := by decide +kernel
theorem dX3_parseElse_75 : decode cX3_parseElse 75 = .ok (.getfield 9, 3) := by decide +kernel
theorem dX3_parseElse_78 : decode cX3_parseElse 78 = .ok (.iconst 2, 1) := by decide +kernel
theorem dX3_parseElse_79 : decode cX3_parseElse 79 = .ok (.invokevirtual 41, 3) := by decide +kernel
theorem dX3_parseElse_82 : decode cX3_parseElse 82 = .ok (.ireturn, 1) := by decide +kernel
theorem dX3_parseElse_83 : decode cX3_parseElse 83 = .ok (.aload_n 0, 1) := by decide +kernel
theorem dX3_parseElse_84 : decode cX3_parseElse 84 = .ok (.getfield 15, 3) := by decide +kernel
theorem dX3_parseElse_87 : decode cX3_parseElse 87 = .ok (.iload_n 1, 1) := by decide +kernel
theorem dX3_parseElse_88 : decode cX3_parseElse 88 = .ok (.iload_n 2, 1) := by decide +kernel
theorem dX3_parseElse_89 : decode cX3_parseElse 89 = .ok (.aload_n 0, 1) := by decide +kernel
theorem dX3_parseElse_90 : decode cX3_parseElse 90 = .ok (.getfield 9, 3) := by decide +kernel
theorem dX3_parseElse_93 : decode cX3_parseElse 93 = .ok (.iload_n 3, 1) := by decide +kernel
theorem dX3_parseElse_94 : decode cX3_parseElse 94 = .ok (.invokevirtual 154, 3) := by decide +kernel
theorem dX3_parseElse_97 : decode cX3_parseElse 97 = .ok (.invokevirtual 158, 3) := by decide +kernel
theorem dX3_parseElse_100 : decode cX3_parseElse 100 = .ok (.aload_n 0, 1) := by decide +kernel
theorem dX3_parseElse_101 : decode cX3_parseElse 101 = .ok (.getfield 9, 3) := by decide +kernel
theorem dX3_parseElse_104 : decode cX3_parseElse 104 = .ok (.invokevirtual 63, 3) := by decide +kernel
theorem dX3_parseElse_107 : decode cX3_parseElse 107 = .ok (.iload_n 3, 1) := by decide +kernel
theorem dX3_parseElse_108 : decode cX3_parseElse 108 = .ok (.bipush 6, 2) := by decide +kernel
theorem dX3_parseElse_110 : decode cX3_parseElse 110 = .ok (.if_icmp .ne 31, 3) := by decide +kernel
theorem dX3_parseElse_113 : decode cX3_parseElse 113 = .ok (.aload_n 0, 1) := by decide +kernel
theorem dX3_parseElse_114 : decode cX3_parseElse 114 = .ok (.getfield 9, 3) := by decide +kernel
theorem dX3_parseElse_117 : decode cX3_parseElse 117 = .ok (.getfield 37, 3) := by decide +kernel
theorem dX3_parseElse_120 : decode cX3_parseElse 120 = .ok (.bipush 93, 2) := by decide +kernel
theorem dX3_parseElse_122 : decode cX3_parseElse 122 = .ok (.if_icmp .eq 12, 3) := by decide +kernel
theorem dX3_parseElse_125 : decode cX3_parseElse 125 = .ok (.aload_n 0, 1) := by decide +kernel
theorem dX3_parseElse_126 : decode cX3_parseElse 126 = .ok (.getfield 9, 3) := by decide +kernel
theorem dX3_parseElse_129 : decode cX3_parseElse 129 = .ok (.iconst 1, 1) := by decide +kernel
theorem dX3_parseElse_130 : decode cX3_parseElse 130 = .ok (.invokevirtual 41, 3) := by decide +kernel
theorem dX3_parseElse_133 : decode cX3_parseElse 133 = .ok (.ireturn, 1) := by decide +kernel
theorem dX3_parseElse_134 : decode cX3_parseElse 134 = .ok (.aload_n 0, 1) := by decide +kernel
theorem dX3_parseElse_135 : decode cX3_parseElse 135 = .ok (.getfield 9, 3) := by decide +kernel
theorem dX3_parseElse_138 : decode cX3_parseElse 138 = .ok (.invokevirtual 63, 3) := by decide +kernel
theorem dX3_parseElse_141 : decode cX3_parseElse 141 = .ok (.iconst 1, 1) := by decide +kernel
theorem dX3_parseElse_142 : decode cX3_parseElse 142 = .ok (.ireturn, 1) := by decide +kernel
theorem dX3_parseFormerName_0 : decode cX3_parseFormerName 0 = .ok (.aload_n 0, 1) := by decide +kernel
theorem dX3_parseFormerName_1 : decode cX3_parseFormerName 1 = .ok (.getfield 9, 3) := by decide +kernel
theorem dX3_parseFormerName_4 : decode cX3_parseFormerName 4 = .ok (.iconst 2, 1) := by decide +kernel
theorem dX3_parseFormerName_5 : decode cX3_parseFormerName 5 = .ok (.invokevirtual 30, 3) := by decide +kernel
theorem dX3_parseFormerName_8 : decode cX3_parseFormerName 8 = .ok (.ifCond .ne 5, 3) := by decide +kernel
theorem dX3_parseFormerName_11 : decode cX3_parseFormerName 11 = .ok (.iconst 1, 1) := by decide +kernel
theorem dX3_parseFormerName_12 : decode cX3_parseFormerName 12 = .ok (.ireturn, 1) := by decide +kernel
theorem dX3_parseFormerName_13 : decode cX3_parseFormerName 13 = .ok (.aload_n 0, 1) := by decide +kernel
theorem dX3_parseFormerName_14 : decode cX3_parseFormerName 14 = .ok (.getfield 9, 3) := by decide +kernel
theorem dX3_parseFormerName_17 : decode cX3_parseFormerName 17 = .ok (.invokevirtual 63, 3) := by decide +kernel
theorem dX3_parseFormerName_20 : decode cX3_parseFormerName 20 = .ok (.aload_n 0, 1) := by decide +kernel
theorem dX3_parseFormerName_21 : decode cX3_parseFormerName 21 = .ok (.getfield 9, 3) := by decide +kernel
theorem dX3_parseFormerName_24 : decode cX3_parseFormerName 24 = .ok (.getfield 37, 3) := by decide +kernel
theorem dX3_parseFormerName_27 : decode cX3_parseFormerName 27 = .ok (.iconst 3, 1) := by decide +kernel
theorem dX3_parseFormerName_28 : decode cX3_parseFormerName 28 = .ok (.if_icmp .eq 12, 3) := by decide +kernel
theorem dX3_parseFormerName_31 : decode cX3_parseFormerName 31 = .ok (.aload_n 0, 1) := by decide +kernel
theorem dX3_parseFormerName_32 : decode cX3_parseFormerName 32 = .ok (.getfield 9, 3) := by decide +kernel
theorem dX3_parseFormerName_35 : decode cX3_parseFormerName 35 = .ok (.iconst 1, 1) := by decide +kernel
theorem dX3_parseFormerName_36 : decode cX3_parseFormerName 36 = .ok (.invokevirtual 41, 3) := by decide +kernel
theorem dX3_parseFormerName_39 : decode cX3_parseFormerName 39 = .ok (.ireturn, 1) := by decide +kernel
theorem dX3_parseFormerName_40 : decode cX3_parseFormerName 40 = .ok (.aload_n 0, 1) := by decide +kernel
theorem dX3_parseFormerName_41 : decode cX3_parseFormerName 41 = .ok (.getfield 9, 3) := by decide +kernel
theorem dX3_parseFormerName_44 : decode cX3_parseFormerName 44 = .ok (.getfield 66, 3) := by decide +kernel
theorem dX3_parseFormerName_47 : decode cX3_parseFormerName 47 = .ok (.aload_n 0, 1) := by decide +kernel
theorem dX3_parseFormerName_48 : decode cX3_parseFormerName 48 = .ok (.getfield 15, 3) := by decide +kernel
theorem dX3_parseFormerName_51 : decode cX3_parseFormerName 51 = .ok (.iload_n 1, 1) := by decide +kernel
theorem dX3_parseFormerName_52 : decode cX3_parseFormerName 52 = .ok (.iload_n 2, 1) := by decide +kernel
theorem dX3_parseFormerName_53 : decode cX3_parseFormerName 53 = .ok (.invokevirtual 133, 3) := by decide +kernel
theorem dX3_parseFormerName_56 : decode cX3_parseFormerName 56 = .ok (.lcmp, 1) := by decide +kernel
theorem dX3_parseFormerName_57 : decode cX3_parseFormerName 57 = .ok (.ifCond .ne 12, 3) := by decide +kernel
theorem dX3_parseFormerName_60 : decode cX3_parseFormerName 60 = .ok (.aload_n 0, 1) := by decide +kernel
theorem dX3_parseFormerName_61 : decode cX3_parseFormerName 61 = .ok (.getfield 9, 3) := by decide +kernel
theorem dX3_parseFormerName_64 : decode cX3_parseFormerName 64 = .ok (.iconst 3, 1) := by decide +kernel
theorem dX3_parseFormerName_65 : decode cX3_parseFormerName 65 = .ok (.invokevirtual 41, 3) := by decide +kernel
theorem dX3_parseFormerName_68 : decode cX3_parseFormerName 68 = .ok (.ireturn, 1) := by decide +kernel
theorem dX3_parseFormerName_69 : decode cX3_parseFormerName 69 = .ok (.aload_n 0, 1) := by decide +kernel
theorem dX3_parseFormerName_70 : decode cX3_parseFormerName 70 = .ok (.getfield 15, 3) := by decide +kernel
theorem dX3_parseFormerName_73 : decode cX3_parseFormerName 73 = .ok (.iload_n 1, 1) := by decide +kernel
theorem dX3_parseFormerName_74 : decode cX3_parseFormerName 74 = .ok (.iload_n 2, 1) := by decide +kernel
theorem dX3_parseFormerName_75 : decode cX3_parseFormerName 75 = .ok (.aload_n 0, 1) := by decide +kernel
theorem dX3_parseFormerName_76 : decode cX3_parseFormerName 76 = .ok (.getfield 9, 3) := by decide +kernel
theorem dX3_parseFormerName_79 : decode cX3_parseFormerName 79 = .ok (.getfield 66, 3) := by decide +kernel
theorem dX3_parseFormerName_82 : decode cX3_parseFormerName 82 = .ok (.invokevirtual 137, 3) := by decide +kernel
theorem dX3_parseFormerName_85 : decode cX3_parseFormerName 85 = .ok (.aload_n 0, 1) := by decide +kernel
theorem dX3_parseFormerName_86 : decode cX3_parseFormerName 86 = .ok (.getfield 9, 3) := by decide +kernel
theorem dX3_parseFormerName_89 : decode cX3_parseFormerName 89 = .ok (.invokevirtual 63, 3) := by decide +kernel
theorem dX3_parseFormerName_92 : decode cX3_parseFormerName 92 = .ok (.iconst 1, 1) := by decide +kernel
theorem dX3_parseFormerName_93 : decode cX3_parseFormerName 93 = .ok (.ireturn, 1) := by decide +kernel
theorem dX5_setElse_0 : decode cX5_setElse 0 = .ok (.iload_n 1, 1) := by decide +kernel
theorem dX5_setElse_1 : decode cX5_setElse 1 = .ok (.iload_n 2, 1) := by decide +kernel
theorem dX5_setElse_2 : decode cX5_setElse 2 = .ok (.invokestatic 75, 3) := by decide +kernel
theorem dX5_setElse_5 : decode cX5_setElse 5 = .ok (.ifCond .eq 27, 3) := by decide +kernel
theorem dX5_setElse_8 : decode cX5_setElse 8 = .ok (.aload_n 0, 1) := by decide +kernel
theorem dX5_setElse_9 : decode cX5_setElse 9 = .ok (.getfield 32, 3) := by decide +kernel
theorem dX5_setElse_12 : decode cX5_setElse 12 = .ok (.iload_n 1, 1) := by decide +kernel
theorem dX5_setElse_13 : decode cX5_setElse 13 = .ok (.dup2, 1) := by decide +kernel
theorem dX5_setElse_14 : decode cX5_setElse 14 = .ok (.iaload, 1) := by decide +kernel
theorem dX5_setElse_15 : decode cX5_setElse 15 = .ok (.iconst 1, 1) := by decide +kernel
theorem dX5_setElse_16 : decode cX5_setElse 16 = .ok (.iload_n 2, 1) := by decide +kernel
theorem dX5_setElse_17 : decode cX5_setElse 17 = .ok (.ishl, 1) := by decide +kernel
theorem dX5_setElse_18 : decode cX5_setElse 18 = .ok (.ior, 1) := by decide +kernel
theorem dX5_setElse_19 : decode cX5_setElse 19 = .ok (.iastore, 1) := by decide +kernel
theorem dX5_setElse_20 : decode cX5_setElse 20 = .ok (.aload_n 0, 1) := by decide +kernel
theorem dX5_setElse_21 : decode cX5_setElse 21 = .ok (.getfield 47, 3) := by decide +kernel
theorem dX5_setElse_24 : decode cX5_setElse 24 = .ok (.iload_n 1, 1) := by decide +kernel
theorem dX5_setElse_25 : decode cX5_setElse 25 = .ok (.bipush 8, 2) := by decide +kernel
theorem dX5_setElse_27 : decode cX5_setElse 27 = .ok (.imul, 1) := by decide +kernel
theorem dX5_setElse_28 : decode cX5_setElse 28 = .ok (.iload_n 2, 1) := by decide +kernel
theorem dX5_setElse_29 : decode cX5_setElse 29 = .ok (.iadd, 1) := by decide +kernel
theorem dX5_setElse_30 : decode cX5_setElse 30 = .ok (.lload_n 3, 1) := by decide +kernel
theorem dX5_setElse_31 : decode cX5_setElse 31 = .ok (.lastore, 1) := by decide +kernel
theorem dX5_setElse_32 : decode cX5_setElse 32 = .ok (.return_, 1) := by decide +kernel
theorem dX5_setFormerName_0 : decode cX5_setFormerName 0 = .ok (.iload_n 1, 1) := by decide +kernel
theorem dX5_setFormerName_1 : decode cX5_setFormerName 1 = .ok (.iload_n 2, 1) := by decide +kernel
theorem dX5_setFormerName_2 : decode cX5_setFormerName 2 = .ok (.invokestatic 75, 3) := by decide +kernel
theorem dX5_setFormerName_5 : decode cX5_setFormerName 5 = .ok (.ifCond .eq 15, 3) := by decide +kernel
theorem dX5_setFormerName_8 : decode cX5_setFormerName 8 = .ok (.aload_n 0, 1) := by decide +kernel
theorem dX5_setFormerName_9 : decode cX5_setFormerName 9 = .ok (.getfield 41, 3) := by decide +kernel
theorem dX5_setFormerName_12 : decode cX5_setFormerName 12 = .ok (.iload_n 1, 1) := by decide +kernel
theorem dX5_setFormerName_13 : decode cX5_setFormerName 13 = .ok (.bipush 8, 2) := by decide +kernel
theorem dX5_setFormerName_15 : decode cX5_setFormerName 15 = .ok (.imul, 1) := by decide +kernel
theorem dX5_setFormerName_16 : decode cX5_setFormerName 16 = .ok (.iload_n 2, 1) := by decide +kernel
theorem dX5_setFormerName_17 : decode cX5_setFormerName 17 = .ok (.iadd, 1) := by decide +kernel
theorem dX5_setFormerName_18 : decode cX5_setFormerName 18 = .ok (.lload_n 3, 1) := by decide +kernel
theorem dX5_setFormerName_19 : decode cX5_setFormerName 19 = .ok (.lastore, 1) := by decide +kernel
theorem dX5_setFormerName_20 : decode cX5_setFormerName 20 = .ok (.return_, 1) := by decide +kernel
theorem dX6_beginsLiteral_0 : decode cX6_beginsLiteral 0 = .ok (.aload_n 0, 1) := by decide +kernel
theorem dX6_beginsLiteral_1 : decode cX6_beginsLiteral 1 = .ok (.getfield 22, 3) := by decide +kernel
theorem dX6_beginsLiteral_4 : decode cX6_beginsLiteral 4 = .ok (.iconst 4, 1) := by decide +kernel
theorem dX6_beginsLiteral_5 : decode cX6_beginsLiteral 5 = .ok (.if_icmp .eq 47, 3) := by decide +kernel
theorem dX6_beginsLiteral_8 : decode cX6_beginsLiteral 8 = .ok (.aload_n 0, 1) := by decide +kernel
theorem dX6_beginsLiteral_9 : decode cX6_beginsLiteral 9 = .ok (.getfield 22, 3) := by decide +kernel
theorem dX6_beginsLiteral_12 : decode cX6_beginsLiteral 12 = .ok (.iconst 5, 1) := by decide +kernel
theorem dX6_beginsLiteral_13 : decode cX6_beginsLiteral 13 = .ok (.if_icmp .eq 39, 3) := by decide +kernel
theorem dX6_beginsLiteral_16 : decode cX6_beginsLiteral 16 = .ok (.aload_n 0, 1) := by decide +kernel
theorem dX6_beginsLiteral_17 : decode cX6_beginsLiteral 17 = .ok (.getfield 22, 3) := by decide +kernel
theorem dX6_beginsLiteral_20 : decode cX6_beginsLiteral 20 = .ok (.bipush 91, 2) := by decide +kernel
theorem dX6_beginsLiteral_22 : decode cX6_beginsLiteral 22 = .ok (.if_icmp .eq 30, 3) := by decide +kernel
theorem dX6_beginsLiteral_25 : decode cX6_beginsLiteral 25 = .ok (.aload_n 0, 1) := by decide +kernel
theorem dX6_beginsLiteral_26 : decode cX6_beginsLiteral 26 = .ok (.bipush 7, 2) := by decide +kernel
theorem dX6_beginsLiteral_28 : decode cX6_beginsLiteral 28 = .ok (.invokevirtual 103, 3) := by decide +kernel
theorem dX6_beginsLiteral_31 : decode cX6_beginsLiteral 31 = .ok (.ifCond .ne 21, 3) := by decide +kernel
theorem dX6_beginsLiteral_34 : decode cX6_beginsLiteral 34 = .ok (.aload_n 0, 1) := by decide +kernel
theorem dX6_beginsLiteral_35 : decode cX6_beginsLiteral 35 = .ok (.bipush 13, 2) := by decide +kernel
theorem dX6_beginsLiteral_37 : decode cX6_beginsLiteral 37 = .ok (.invokevirtual 103, 3) := by decide +kernel
theorem dX6_beginsLiteral_40 : decode cX6_beginsLiteral 40 = .ok (.ifCond .ne 12, 3) := by decide +kernel
theorem dX6_beginsLiteral_43 : decode cX6_beginsLiteral 43 = .ok (.aload_n 0, 1) := by decide +kernel
theorem dX6_beginsLiteral_44 : decode cX6_beginsLiteral 44 = .ok (.bipush 14, 2) := by decide +kernel
theorem dX6_beginsLiteral_46 : decode cX6_beginsLiteral 46 = .ok (.invokevirtual 103, 3) := by decide +kernel
theorem dX6_beginsLiteral_49 : decode cX6_beginsLiteral 49 = .ok (.ifCond .eq 7, 3) := by decide +kernel
theorem dX6_beginsLiteral_52 : decode cX6_beginsLiteral 52 = .ok (.iconst 1, 1) := by decide +kernel
theorem dX6_beginsLiteral_53 : decode cX6_beginsLiteral 53 = .ok (.goto 4, 3) := by decide +kernel
theorem dX6_beginsLiteral_56 : decode cX6_beginsLiteral 56 = .ok (.iconst 0, 1) := by decide +kernel
theorem dX6_beginsLiteral_57 : decode cX6_beginsLiteral 57 = .ok (.ireturn, 1) := by decide +kernel
theorem dX6_fits_0 : decode cX6_fits 0 = .ok (.iload_n 1, 1) := by decide +kernel
theorem dX6_fits_1 : decode cX6_fits 1 = .ok (.tableswitch 188 0 7 #[47, 54, 78, 109, 130, 144, 158, 173], 47) := by decide +kernel
theorem dX6_fits_48 : decode cX6_fits 48 = .ok (.aload_n 0, 1) := by decide +kernel
theorem dX6_fits_49 : decode cX6_fits 49 = .ok (.bipush 7, 2) := by decide +kernel
theorem dX6_fits_51 : decode cX6_fits 51 = .ok (.invokevirtual 103, 3) := by decide +kernel
theorem dX6_fits_54 : decode cX6_fits 54 = .ok (.ireturn, 1) := by decide +kernel
theorem dX6_fits_55 : decode cX6_fits 55 = .ok (.aload_n 0, 1) := by decide +kernel
theorem dX6_fits_56 : decode cX6_fits 56 = .ok (.bipush 13, 2) := by decide +kernel
theorem dX6_fits_58 : decode cX6_fits 58 = .ok (.invokevirtual 103, 3) := by decide +kernel
theorem dX6_fits_61 : decode cX6_fits 61 = .ok (.ifCond .ne 12, 3) := by decide +kernel
theorem dX6_fits_64 : decode cX6_fits 64 = .ok (.aload_n 0, 1) := by decide +kernel
theorem dX6_fits_65 : decode cX6_fits 65 = .ok (.bipush 14, 2) := by decide +kernel
theorem dX6_fits_67 : decode cX6_fits 67 = .ok (.invokevirtual 103, 3) := by decide +kernel
theorem dX6_fits_70 : decode cX6_fits 70 = .ok (.ifCond .eq 7, 3) := by decide +kernel
theorem dX6_fits_73 : decode cX6_fits 73 = .ok (.iconst 1, 1) := by decide +kernel
theorem dX6_fits_74 : decode cX6_fits 74 = .ok (.goto 4, 3) := by decide +kernel
theorem dX6_fits_77 : decode cX6_fits 77 = .ok (.iconst 0, 1) := by decide +kernel
theorem dX6_fits_78 : decode cX6_fits 78 = .ok (.ireturn, 1) := by decide +kernel
theorem dX6_fits_79 : decode cX6_fits 79 = .ok (.aload_n 0, 1) := by decide +kernel
theorem dX6_fits_80 : decode cX6_fits 80 = .ok (.getfield 22, 3) := by decide +kernel
theorem dX6_fits_83 : decode cX6_fits 83 = .ok (.iconst 4, 1) := by decide +kernel
theorem dX6_fits_84 : decode cX6_fits 84 = .ok (.if_icmp .ne 24, 3) := by decide +kernel
theorem dX6_fits_87 : decode cX6_fits 87 = .ok (.aload_n 0, 1) := by decide +kernel
theorem dX6_fits_88 : decode cX6_fits 88 = .ok (.getfield 42, 3) := by decide +kernel
theorem dX6_fits_91 : decode cX6_fits 91 = .ok (.ifCond .ne 17, 3) := by decide +kernel
theorem dX6_fits_94 : decode cX6_fits 94 = .ok (.aload_n 0, 1) := by decide +kernel
theorem dX6_fits_95 : decode cX6_fits 95 = .ok (.invokevirtual 106, 3) := by decide +kernel
theorem dX6_fits_98 : decode cX6_fits 98 = .ok (.invokestatic 110, 3) := by decide +kernel
theorem dX6_fits_101 : decode cX6_fits 101 = .ok (.ifCond .eq 7, 3) := by decide +kernel
theorem dX6_fits_104 : decode cX6_fits 104 = .ok (.iconst 1, 1) := by decide +kernel
theorem dX6_fits_105 : decode cX6_fits 105 = .ok (.goto 4, 3) := by decide +kernel
theorem dX6_fits_108 : decode cX6_fits 108 = .ok (.iconst 0, 1) := by decide +kernel
theorem dX6_fits_109 : decode cX6_fits 109 = .ok (.ireturn, 1) := by decide +kernel
theorem dX6_fits_110 : decode cX6_fits 110 = .ok (.aload_n 0, 1) := by decide +kernel
theorem dX6_fits_111 : decode cX6_fits 111 = .ok (.getfield 22, 3) := by decide +kernel
theorem dX6_fits_114 : decode cX6_fits 114 = .ok (.iconst 4, 1) := by decide +kernel
theorem dX6_fits_115 : decode cX6_fits 115 = .ok (.if_icmp .ne 14, 3) := by decide +kernel
theorem dX6_fits_118 : decode cX6_fits 118 = .ok (.aload_n 0, 1) := by decide +kernel
theorem dX6_fits_119 : decode cX6_fits 119 = .ok (.getfield 42, 3) := by decide +kernel
theorem dX6_fits_122 : decode cX6_fits 122 = .ok (.ifCond .ne 7, 3) := by decide +kernel
theorem dX6_fits_125 : decode cX6_fits 125 = .ok (.iconst 1, 1) := by decide +kernel
theorem dX6_fits_126 : decode cX6_fits 126 = .ok (.goto 4, 3) := by decide +kernel
theorem dX6_fits_129 : decode cX6_fits 129 = .ok (.iconst 0, 1) := by decide +kernel
theorem dX6_fits_130 : decode cX6_fits 130 = .ok (.ireturn, 1) := by decide +kernel
theorem dX6_fits_131 : decode cX6_fits 131 = .ok (.aload_n 0, 1) := by decide +kernel
theorem dX6_fits_132 : decode cX6_fits 132 = .ok (.getfield 22, 3) := by decide +kernel
theorem dX6_fits_135 : decode cX6_fits 135 = .ok (.iconst 4, 1) := by decide +kernel
theorem dX6_fits_136 : decode cX6_fits 136 = .ok (.if_icmp .ne 7, 3) := by decide +kernel
theorem dX6_fits_139 : decode cX6_fits 139 = .ok (.iconst 1, 1) := by decide +kernel
theorem dX6_fits_140 : decode cX6_fits 140 = .ok (.goto 4, 3) := by decide +kernel
theorem dX6_fits_143 : decode cX6_fits 143 = .ok (.iconst 0, 1) := by decide +kernel
theorem dX6_fits_144 : decode cX6_fits 144 = .ok (.ireturn, 1) := by decide +kernel
theorem dX6_fits_145 : decode cX6_fits 145 = .ok (.aload_n 0, 1) := by decide +kernel
theorem dX6_fits_146 : decode cX6_fits 146 = .ok (.getfield 22, 3) := by decide +kernel
theorem dX6_fits_149 : decode cX6_fits 149 = .ok (.iconst 5, 1) := by decide +kernel
theorem dX6_fits_150 : decode cX6_fits 150 = .ok (.if_icmp .ne 7, 3) := by decide +kernel
theorem dX6_fits_153 : decode cX6_fits 153 = .ok (.iconst 1, 1) := by decide +kernel
theorem dX6_fits_154 : decode cX6_fits 154 = .ok (.goto 4, 3) := by decide +kernel
theorem dX6_fits_157 : decode cX6_fits 157 = .ok (.iconst 0, 1) := by decide +kernel
theorem dX6_fits_158 : decode cX6_fits 158 = .ok (.ireturn, 1) := by decide +kernel
theorem dX6_fits_159 : decode cX6_fits 159 = .ok (.aload_n 0, 1) := by decide +kernel
theorem dX6_fits_160 : decode cX6_fits 160 = .ok (.getfield 22, 3) := by decide +kernel
theorem dX6_fits_163 : decode cX6_fits 163 = .ok (.bipush 91, 2) := by decide +kernel
theorem dX6_fits_165 : decode cX6_fits 165 = .ok (.if_icmp .ne 7, 3) := by decide +kernel
theorem dX6_fits_168 : decode cX6_fits 168 = .ok (.iconst 1, 1) := by decide +kernel
theorem dX6_fits_169 : decode cX6_fits 169 = .ok (.goto 4, 3) := by decide +kernel
theorem dX6_fits_172 : decode cX6_fits 172 = .ok (.iconst 0, 1) := by decide +kernel
theorem dX6_fits_173 : decode cX6_fits 173 = .ok (.ireturn, 1) := by decide +kernel
theorem dX6_fits_174 : decode cX6_fits 174 = .ok (.aload_n 0, 1) := by decide +kernel
theorem dX6_fits_175 : decode cX6_fits 175 = .ok (.getfield 22, 3) := by decide +kernel
theorem dX6_fits_178 : decode cX6_fits 178 = .ok (.bipush 123, 2) := by decide +kernel
theorem dX6_fits_180 : decode cX6_fits 180 = .ok (.if_icmp .ne 7, 3) := by decide +kernel
theorem dX6_fits_183 : decode cX6_fits 183 = .ok (.iconst 1, 1) := by decide +kernel
theorem dX6_fits_184 : decode cX6_fits 184 = .ok (.goto 4, 3) := by decide +kernel
theorem dX6_fits_187 : decode cX6_fits 187 = .ok (.iconst 0, 1) := by decide +kernel
theorem dX6_fits_188 : decode cX6_fits 188 = .ok (.ireturn, 1) := by decide +kernel
theorem dX6_fits_189 : decode cX6_fits 189 = .ok (.iconst 0, 1) := by decide +kernel
theorem dX6_fits_190 : decode cX6_fits 190 = .ok (.ireturn, 1) := by decide +kernel
theorem dX6_isKeyword_0 : decode cX6_isKeyword 0 = .ok (.aload_n 0, 1) := by decide +kernel
theorem dX6_isKeyword_1 : decode cX6_isKeyword 1 = .ok (.getfield 22, 3) := by decide +kernel
theorem dX6_isKeyword_4 : decode cX6_isKeyword 4 = .ok (.iconst 2, 1) := by decide +kernel
theorem dX6_isKeyword_5 : decode cX6_isKeyword 5 = .ok (.if_icmp .ne 15, 3) := by decide +kernel
theorem dX6_isKeyword_8 : decode cX6_isKeyword 8 = .ok (.aload_n 0, 1) := by decide +kernel
theorem dX6_isKeyword_9 : decode cX6_isKeyword 9 = .ok (.getfield 28, 3) := by decide +kernel
theorem dX6_isKeyword_12 : decode cX6_isKeyword 12 = .ok (.iload_n 1, 1) := by decide +kernel
theorem dX6_isKeyword_13 : decode cX6_isKeyword 13 = .ok (.if_icmp .ne 7, 3) := by decide +kernel
theorem dX6_isKeyword_16 : decode cX6_isKeyword 16 = .ok (.iconst 1, 1) := by decide +kernel
theorem dX6_isKeyword_17 : decode cX6_isKeyword 17 = .ok (.goto 4, 3) := by decide +kernel
theorem dX6_isKeyword_20 : decode cX6_isKeyword 20 = .ok (.iconst 0, 1) := by decide +kernel
theorem dX6_isKeyword_21 : decode cX6_isKeyword 21 = .ok (.ireturn, 1) := by decide +kernel
theorem dX6_realBits_0 : decode cX6_realBits 0 = .ok (.aload_n 0, 1) := by decide +kernel
theorem dX6_realBits_1 : decode cX6_realBits 1 = .ok (.getfield 35, 3) := by decide +kernel
theorem dX6_realBits_4 : decode cX6_realBits 4 = .ok (.l2d, 1) := by decide +kernel
theorem dX6_realBits_5 : decode cX6_realBits 5 = .ok (.aload_n 0, 1) := by decide +kernel
theorem dX6_realBits_6 : decode cX6_realBits 6 = .ok (.getfield 45, 3) := by decide +kernel
theorem dX6_realBits_9 : decode cX6_realBits 9 = .ok (.i2d, 1) := by decide +kernel
theorem dX6_realBits_10 : decode cX6_realBits 10 = .ok (.ldc2_w 117, 3) := by decide +kernel
theorem dX6_realBits_13 : decode cX6_realBits 13 = .ok (.ddiv, 1) := by decide +kernel
theorem dX6_realBits_14 : decode cX6_realBits 14 = .ok (.dadd, 1) := by decide +kernel
theorem dX6_realBits_15 : decode cX6_realBits 15 = .ok (.invokestatic 119, 3) := by decide +kernel
theorem dX6_realBits_18 : decode cX6_realBits 18 = .ok (.lstore_n 1, 1) := by decide +kernel
theorem dX6_realBits_19 : decode cX6_realBits 19 = .ok (.aload_n 0, 1) := by decide +kernel
theorem dX6_realBits_20 : decode cX6_realBits 20 = .ok (.getfield 38, 3) := by decide +kernel
theorem dX6_realBits_23 : decode cX6_realBits 23 = .ok (.ifCond .eq 27, 3) := by decide +kernel
theorem dX6_realBits_26 : decode cX6_realBits 26 = .ok (.aload_n 0, 1) := by decide +kernel
theorem dX6_realBits_27 : decode cX6_realBits 27 = .ok (.getfield 42, 3) := by decide +kernel
theorem dX6_realBits_30 : decode cX6_realBits 30 = .ok (.ifCond .ne 12, 3) := by decide +kernel
theorem dX6_realBits_33 : decode cX6_realBits 33 = .ok (.aload_n 0, 1) := by decide +kernel
theorem dX6_realBits_34 : decode cX6_realBits 34 = .ok (.getfield 35, 3) := by decide +kernel
theorem dX6_realBits_37 : decode cX6_realBits 37 = .ok (.lconst 0, 1) := by decide +kernel
theorem dX6_realBits_38 : decode cX6_realBits 38 = .ok (.lcmp, 1) := by decide +kernel
theorem dX6_realBits_39 : decode cX6_realBits 39 = .ok (.ifCond .eq 11, 3) := by decide +kernel
theorem dX6_realBits_42 : decode cX6_realBits 42 = .ok (.lload_n 1, 1) := by decide +kernel
theorem dX6_realBits_43 : decode cX6_realBits 43 = .ok (.ldc2_w 125, 3) := by decide +kernel
theorem dX6_realBits_46 : decode cX6_realBits 46 = .ok (.lor, 1) := by decide +kernel
theorem dX6_realBits_47 : decode cX6_realBits 47 = .ok (.goto 4, 3) := by decide +kernel
theorem dX6_realBits_50 : decode cX6_realBits 50 = .ok (.lload_n 1, 1) := by decide +kernel
theorem dX6_realBits_51 : decode cX6_realBits 51 = .ok (.lreturn, 1) := by decide +kernel
theorem dX6_refuse_0 : decode cX6_refuse 0 = .ok (.aload_n 0, 1) := by decide +kernel
theorem dX6_refuse_1 : decode cX6_refuse 1 = .ok (.iload_n 1, 1) := by decide +kernel
theorem dX6_refuse_2 : decode cX6_refuse 2 = .ok (.aload_n 0, 1) := by decide +kernel
theorem dX6_refuse_3 : decode cX6_refuse 3 = .ok (.getfield 25, 3) := by decide +kernel
theorem dX6_refuse_6 : decode cX6_refuse 6 = .ok (.invokevirtual 73, 3) := by decide +kernel
theorem dX6_refuse_9 : decode cX6_refuse 9 = .ok (.ireturn, 1) := by decide +kernel
theorem dX6_refuseAt_0 : decode cX6_refuseAt 0 = .ok (.aload_n 0, 1) := by decide +kernel
theorem dX6_refuseAt_1 : decode cX6_refuseAt 1 = .ok (.getfield 48, 3) := by decide +kernel
theorem dX6_refuseAt_4 : decode cX6_refuseAt 4 = .ok (.ifCond .ne 13, 3) := by decide +kernel
theorem dX6_refuseAt_7 : decode cX6_refuseAt 7 = .ok (.aload_n 0, 1) := by decide +kernel
theorem dX6_refuseAt_8 : decode cX6_refuseAt 8 = .ok (.iload_n 1, 1) := by decide +kernel
theorem dX6_refuseAt_9 : decode cX6_refuseAt 9 = .ok (.putfield 48, 3) := by decide +kernel
theorem dX6_refuseAt_12 : decode cX6_refuseAt 12 = .ok (.aload_n 0, 1) := by decide +kernel
theorem dX6_refuseAt_13 : decode cX6_refuseAt 13 = .ok (.iload_n 2, 1) := by decide +kernel
theorem dX6_refuseAt_14 : decode cX6_refuseAt 14 = .ok (.putfield 51, 3) := by decide +kernel
theorem dX6_refuseAt_17 : decode cX6_refuseAt 17 = .ok (.iconst 0, 1) := by decide +kernel
theorem dX6_refuseAt_18 : decode cX6_refuseAt 18 = .ok (.ireturn, 1) := by decide +kernel
theorem dX6_whole_0 : decode cX6_whole 0 = .ok (.aload_n 0, 1) := by decide +kernel
theorem dX6_whole_1 : decode cX6_whole 1 = .ok (.getfield 38, 3) := by decide +kernel
theorem dX6_whole_4 : decode cX6_whole 4 = .ok (.ifCond .eq 11, 3) := by decide +kernel
theorem dX6_whole_7 : decode cX6_whole 7 = .ok (.aload_n 0, 1) := by decide +kernel
theorem dX6_whole_8 : decode cX6_whole 8 = .ok (.getfield 35, 3) := by decide +kernel
theorem dX6_whole_11 : decode cX6_whole 11 = .ok (.lneg, 1) := by decide +kernel
theorem dX6_whole_12 : decode cX6_whole 12 = .ok (.goto 7, 3) := by decide +kernel
theorem dX6_whole_15 : decode cX6_whole 15 = .ok (.aload_n 0, 1) := by decide +kernel
theorem dX6_whole_16 : decode cX6_whole 16 = .ok (.getfield 35, 3) := by decide +kernel
theorem dX6_whole_19 : decode cX6_whole 19 = .ok (.lreturn, 1) := by decide +kernel
theorem dX6_worth_0 : decode cX6_worth 0 = .ok (.iload_n 1, 1) := by decide +kernel
theorem dX6_worth_1 : decode cX6_worth 1 = .ok (.tableswitch 65 1 5 #[35, 50, 50, 55, 60], 35) := by decide +kernel
theorem dX6_worth_36 : decode cX6_worth 36 = .ok (.aload_n 0, 1) := by decide +kernel
theorem dX6_worth_37 : decode cX6_worth 37 = .ok (.bipush 13, 2) := by decide +kernel
theorem dX6_worth_39 : decode cX6_worth 39 = .ok (.invokevirtual 103, 3) := by decide +kernel
theorem dX6_worth_42 : decode cX6_worth 42 = .ok (.ifCond .eq 7, 3) := by decide +kernel
theorem dX6_worth_45 : decode cX6_worth 45 = .ok (.lconst 1, 1) := by decide +kernel
theorem dX6_worth_46 : decode cX6_worth 46 = .ok (.goto 4, 3) := by decide +kernel
theorem dX6_worth_49 : decode cX6_worth 49 = .ok (.lconst 0, 1) := by decide +kernel
theorem dX6_worth_50 : decode cX6_worth 50 = .ok (.lreturn, 1) := by decide +kernel
theorem dX6_worth_51 : decode cX6_worth 51 = .ok (.aload_n 0, 1) := by decide +kernel
theorem dX6_worth_52 : decode cX6_worth 52 = .ok (.invokevirtual 106, 3) := by decide +kernel
theorem dX6_worth_55 : decode cX6_worth 55 = .ok (.lreturn, 1) := by decide +kernel
theorem dX6_worth_56 : decode cX6_worth 56 = .ok (.aload_n 0, 1) := by decide +kernel
theorem dX6_worth_57 : decode cX6_worth 57 = .ok (.invokevirtual 114, 3) := by decide +kernel
theorem dX6_worth_60 : decode cX6_worth 60 = .ok (.lreturn, 1) := by decide +kernel
theorem dX6_worth_61 : decode cX6_worth 61 = .ok (.aload_n 0, 1) := by decide +kernel
theorem dX6_worth_62 : decode cX6_worth 62 = .ok (.getfield 31, 3) := by decide +kernel
theorem dX6_worth_65 : decode cX6_worth 65 = .ok (.lreturn, 1) := by decide +kernel
theorem dX6_worth_66 : decode cX6_worth 66 = .ok (.lconst 0, 1) := by decide +kernel
theorem dX6_worth_67 : decode cX6_worth 67 = .ok (.lreturn, 1) := by decide +kernel
def f_X6_advance_37 (k0 : ST → Option (ST)) (σ : ST) : Option (ST) := k0  (stI σ 2 3 ((σ.1 2 3) + 1))
def f_X6_advance_113 (σ : ST) : Option (ST) := (f_X6_scanNumber   σ).bind fun q1 => some q1
def f_X6_advance_169 (x1 : Int32) (σ : ST) : Option (ST) := some (stI (stI σ 2 4 x1) 2 3 (((stI σ 2 4 x1).1 2 5) + 1))
def f_X6_advance_50 (σ : ST) : Option (ST) := (f_X6_signAt  ((stI σ 2 5 (σ.1 2 3)).1 2 5) (stI σ 2 5 (σ.1 2 3))).bind fun q1 => if (q1.2.1 2 5) < (q1.2.1 2 2) then ((f_X6_isLetter  q1.1 q1.2).bind fun q3 => if q3.1 = 0 then (if q1.1 = 45 then (f_X6_advance_113   q3.2) else ((f_X6_isDigit  q1.1 q3.2).bind fun q5 => if q5.1 = 0 then (if q1.1 = 34 then ((f_X6_scanLettered   q5.2).bind fun q7 => some q7) else (if q1.1 = 123 then (f_X6_advance_169  q1.1 q5.2) else (if q1.1 = 125 then (f_X6_advance_169  q1.1 q5.2) else (if q1.1 = 91 then (f_X6_advance_169  q1.1 q5.2) else (if q1.1 = 93 then (f_X6_advance_169  q1.1 q5.2) else (if q1.1 = 44 then (f_X6_advance_169  q1.1 q5.2) else (if q1.1 = 59 then (f_X6_advance_169  q1.1 q5.2) else (some (stI q5.2 2 4 1))))))))) else (f_X6_advance_113   q5.2))) else ((f_X6_scanWord   q3.2).bind fun q9 => some q9)) else (some (stI q1.2 2 4 0))
def f_X6_advance_0  : Nat → ST → Option (ST)
  | 0, _ => none
  | n + 1, σ => if (σ.1 2 2) ≤ (σ.1 2 3) then (f_X6_advance_50   σ) else ((f_X6_signAt  (σ.1 2 3) σ).bind fun q1 => if q1.1 = 32 then (f_X6_advance_37 (f_X6_advance_0  n)  q1.2) else ((f_X6_signAt  (q1.2.1 2 3) q1.2).bind fun q3 => if q3.1 = 10 then (f_X6_advance_37 (f_X6_advance_0  n)  q3.2) else (f_X6_advance_50   q3.2)))
def f_X6_advance (σ : ST) : Option (ST) := f_X6_advance_0  FU  σ

set_option maxRecDepth 100000 in
set_option maxHeartbeats 4000000 in
theorem b_X6_advance_37 {p : Program} {l : Launch} {e : Env} {s : State} {m : MethodId} {args : Array Value} {below : List Frame} {meth : Method} {c : Code} {dC : Nat → ClassId} {dI : Nat → Nat → Nat} {a : Nat → Nat} {k : Nat → ClassId} {A : Nat → Prop} {q : ST} (hC : CxA p s m args meth c dC dI k A cX6_advance RX6 none 2)  {k0 : ST → Option (ST)} (hk0 : ∀  (σ : ST), k0  σ = some q → GoA p l e ({ frames := 2, cells := 0, slots := 0, locals := 47 } : Room) s m args below meth c (MQ below (qAv dC dI a k A q) args s 0 0 A) dC dI a k A 2 0 σ [(0, .ref (a 2))] [])  {σ : ST} (h : f_X6_advance_37 k0  σ = some q) : GoA p l e ({ frames := 2, cells := 0, slots := 0, locals := 47 } : Room) s m args below meth c (MQ below (qAv dC dI a k A q) args s 0 0 A) dC dI a k A 2 37 σ [(0, .ref (a 2))] [] := by
  have hC0 := hC
  obtain ⟨hx, hb, hr, hml, hown, hts, hlocks, hA, hN, hK⟩ := hC0
  intro H locs ls hP hD hS hl
  have hD0 : ∀ σ1 : ST, va_D A (wA a k σ1) := fun σ1 => wA_D hD
  unfold f_X6_advance_37 at h
  refine lv_aload_n hx hb dX6_advance_37 rfl (lv_at hl 0 rfl) ?_
  refine lv_dup hx hb dX6_advance_38 rfl ?_
  refine va_get (D := (dC, dI)) (ci := 6) (C := RX6) (T := TX6) (N := 14) hx hb hts inlX6 hown hK hP 2 gA_2 rfl 3 (by decide) (hts (.fieldLink RX6 19 "ShapeReader$Tokens" "next" "I") mw_16_9) (fun _ h9 => h9) rfl dX6_advance_39 ?_
  refine lv_iconst (v := 1) hx hb dX6_advance_42 (by decide) ?_
  refine lv_iadd hx hb dX6_advance_43 ?_
  refine va_put (D := (dC, dI)) (ci := 6) (ty := .int) (C := RX6) (T := TX6) (N := 14) hx hb hts inlX6 tyX6 tyX6_ok nmX6 hown hK hP hD hS 2 gA_2 rfl 3 (by decide) (hts (.fieldLink RX6 19 "ShapeReader$Tokens" "next" "I") mw_16_9) (fun _ h9 => h9) rfl (by decide +kernel) rfl rfl (Nat.le_of_ble_eq_true rfl) dX6_advance_44 (fun H locs hP hD hS => ?_)
  replace hP := uA_2_3 hP
  replace hD := hD0 ((stI σ 2 3 ((σ.1 2 3) + 1)))
  refine lv_goto (tgt := 0) hx hb dX6_advance_47 (by decide) ?_
  exact hk0  _ h _ _ _ hP hD hS (lv_sub hl [0] rfl)

set_option maxRecDepth 100000 in
set_option maxHeartbeats 4000000 in
theorem b_X6_advance_113 {p : Program} {l : Launch} {e : Env} {s : State} {m : MethodId} {args : Array Value} {below : List Frame} {meth : Method} {c : Code} {dC : Nat → ClassId} {dI : Nat → Nat → Nat} {a : Nat → Nat} {k : Nat → ClassId} {A : Nat → Prop} {q : ST} (hC : CxA p s m args meth c dC dI k A cX6_advance RX6 none 2)    {σ : ST} (h : f_X6_advance_113   σ = some q) : GoA p l e ({ frames := 2, cells := 0, slots := 0, locals := 47 } : Room) s m args below meth c (MQ below (qAv dC dI a k A q) args s 0 0 A) dC dI a k A 2 113 σ [(0, .ref (a 2))] [] := by
  have hC0 := hC
  obtain ⟨hx, hb, hr, hml, hown, hts, hlocks, hA, hN, hK⟩ := hC0
  intro H locs ls hP hD hS hl
  have hD0 : ∀ σ1 : ST, va_D A (wA a k σ1) := fun σ1 => wA_D hD
  unfold f_X6_advance_113 at h
  refine lv_aload_n hx hb dX6_advance_113 rfl (lv_at hl 0 rfl) ?_
  obtain ⟨q1, hc, h⟩ := ib h
  have hF := va_frees hD hS hA
  refine va_callv (va_runV (As := []) (rest := []) ⟨hx, hb, hml, hown, hts⟩ (s_X6_scanNumber hc) (cwV 0 hts (gV mw_17_10 mw_17_11 mw_17_12 mw_0_10 mw_51_14) rfl rfl rfl (by decide +kernel) ⟨(Nat.le_of_ble_eq_true rfl), (Nat.le_of_ble_eq_true rfl)⟩) (vV (ci := 6) (q0 := 2) hK hP hD hN rfl gA_2) rfl rfl hl.1 rfl (lv_room (Nat.le_of_ble_eq_true rfl)) dX6_advance_114 ⟨(Nat.le_of_ble_eq_true rfl), (Nat.le_of_ble_eq_true rfl)⟩) hS (fun q _ h => hF q h) hF (fun u t H locs ht hvm hw hB _ _ hS => ?_)
  replace hP : va_P (dC, dI) vwCl (wA a k q1) H := by rw [← ht]; exact hB.1
  replace hD := hD0 (q1)
  clear hB hF
  refine lv_goto (tgt := 192) hx hb dX6_advance_117 (by decide) ?_
  obtain rfl := Option.some.inj h
  exact W.vret hx hb hr (fun t ht hW => ⟨⟨(), rfl, trivial, ⟨by rw [ht]; exact hP, va_K.moved hW.alike hK, hD⟩⟩, hS.F ht⟩) hS.2.2 dX6_advance_192

set_option maxRecDepth 100000 in
set_option maxHeartbeats 4000000 in
theorem b_X6_advance_169 {p : Program} {l : Launch} {e : Env} {s : State} {m : MethodId} {args : Array Value} {below : List Frame} {meth : Method} {c : Code} {dC : Nat → ClassId} {dI : Nat → Nat → Nat} {a : Nat → Nat} {k : Nat → ClassId} {A : Nat → Prop} {q : ST} (hC : CxA p s m args meth c dC dI k A cX6_advance RX6 none 2)   {x1 : Int32} {σ : ST} (h : f_X6_advance_169  x1 σ = some q) : GoA p l e ({ frames := 2, cells := 0, slots := 0, locals := 47 } : Room) s m args below meth c (MQ below (qAv dC dI a k A q) args s 0 0 A) dC dI a k A 2 169 σ [(0, .ref (a 2)), (1, .int x1)] [] := by
  have hC0 := hC
  obtain ⟨hx, hb, hr, hml, hown, hts, hlocks, hA, hN, hK⟩ := hC0
  intro H locs ls hP hD hS hl
  have hD0 : ∀ σ1 : ST, va_D A (wA a k σ1) := fun σ1 => wA_D hD
  unfold f_X6_advance_169 at h
  refine lv_aload_n hx hb dX6_advance_169 rfl (lv_at hl 0 rfl) ?_
  refine lv_iload_n hx hb dX6_advance_170 rfl (lv_at hl 1 rfl) ?_
  refine va_put (D := (dC, dI)) (ci := 6) (ty := .int) (C := RX6) (T := TX6) (N := 14) hx hb hts inlX6 tyX6 tyX6_ok nmX6 hown hK hP hD hS 2 gA_2 rfl 4 (by decide) (hts (.fieldLink RX6 22 "ShapeReader$Tokens" "kind" "I") mw_16_10) (fun _ h9 => h9) rfl (by decide +kernel) rfl rfl (Nat.le_of_ble_eq_true rfl) dX6_advance_171 (fun H locs hP hD hS => ?_)
  replace hP := uA_2_4 hP
  replace hD := hD0 ((stI σ 2 4 x1))
  refine lv_aload_n hx hb dX6_advance_174 rfl (lv_at hl 0 rfl) ?_
  refine lv_aload_n hx hb dX6_advance_175 rfl (lv_at hl 0 rfl) ?_
  refine va_get (D := (dC, dI)) (ci := 6) (C := RX6) (T := TX6) (N := 14) hx hb hts inlX6 hown hK hP 2 gA_2 rfl 5 (by decide) (hts (.fieldLink RX6 25 "ShapeReader$Tokens" "start" "I") mw_16_11) (fun _ h9 => h9) rfl dX6_advance_176 ?_
  refine lv_iconst (v := 1) hx hb dX6_advance_179 (by decide) ?_
  refine lv_iadd hx hb dX6_advance_180 ?_
  refine va_put (D := (dC, dI)) (ci := 6) (ty := .int) (C := RX6) (T := TX6) (N := 14) hx hb hts inlX6 tyX6 tyX6_ok nmX6 hown hK hP hD hS 2 gA_2 rfl 3 (by decide) (hts (.fieldLink RX6 19 "ShapeReader$Tokens" "next" "I") mw_16_9) (fun _ h9 => h9) rfl (by decide +kernel) rfl rfl (Nat.le_of_ble_eq_true rfl) dX6_advance_181 (fun H locs hP hD hS => ?_)
  replace hP := uA_2_3 hP
  replace hD := hD0 ((stI (stI σ 2 4 x1) 2 3 (((stI σ 2 4 x1).1 2 5) + 1)))
  refine lv_goto (tgt := 192) hx hb dX6_advance_184 (by decide) ?_
  obtain rfl := Option.some.inj h
  exact W.vret hx hb hr (fun t ht hW => ⟨⟨(), rfl, trivial, ⟨by rw [ht]; exact hP, va_K.moved hW.alike hK, hD⟩⟩, hS.F ht⟩) hS.2.2 dX6_advance_192

set_option maxRecDepth 100000 in
set_option maxHeartbeats 4000000 in
theorem b_X6_advance_50 {p : Program} {l : Launch} {e : Env} {s : State} {m : MethodId} {args : Array Value} {below : List Frame} {meth : Method} {c : Code} {dC : Nat → ClassId} {dI : Nat → Nat → Nat} {a : Nat → Nat} {k : Nat → ClassId} {A : Nat → Prop} {q : ST} (hC : CxA p s m args meth c dC dI k A cX6_advance RX6 none 2)    {σ : ST} (h : f_X6_advance_50   σ = some q) : GoA p l e ({ frames := 2, cells := 0, slots := 0, locals := 47 } : Room) s m args below meth c (MQ below (qAv dC dI a k A q) args s 0 0 A) dC dI a k A 2 50 σ [(0, .ref (a 2))] [] := by
  have hC0 := hC
  obtain ⟨hx, hb, hr, hml, hown, hts, hlocks, hA, hN, hK⟩ := hC0
  intro H locs ls hP hD hS hl
  have hD0 : ∀ σ1 : ST, va_D A (wA a k σ1) := fun σ1 => wA_D hD
  unfold f_X6_advance_50 at h
  refine lv_aload_n hx hb dX6_advance_50 rfl (lv_at hl 0 rfl) ?_
  refine lv_aload_n hx hb dX6_advance_51 rfl (lv_at hl 0 rfl) ?_
  refine va_get (D := (dC, dI)) (ci := 6) (C := RX6) (T := TX6) (N := 14) hx hb hts inlX6 hown hK hP 2 gA_2 rfl 3 (by decide) (hts (.fieldLink RX6 19 "ShapeReader$Tokens" "next" "I") mw_16_9) (fun _ h9 => h9) rfl dX6_advance_52 ?_
  refine va_put (D := (dC, dI)) (ci := 6) (ty := .int) (C := RX6) (T := TX6) (N := 14) hx hb hts inlX6 tyX6 tyX6_ok nmX6 hown hK hP hD hS 2 gA_2 rfl 5 (by decide) (hts (.fieldLink RX6 25 "ShapeReader$Tokens" "start" "I") mw_16_11) (fun _ h9 => h9) rfl (by decide +kernel) rfl rfl (Nat.le_of_ble_eq_true rfl) dX6_advance_55 (fun H locs hP hD hS => ?_)
  replace hP := uA_2_5 hP
  replace hD := hD0 ((stI σ 2 5 (σ.1 2 3)))
  refine lv_aload_n hx hb dX6_advance_58 rfl (lv_at hl 0 rfl) ?_
  refine lv_aload_n hx hb dX6_advance_59 rfl (lv_at hl 0 rfl) ?_
  refine va_get (D := (dC, dI)) (ci := 6) (C := RX6) (T := TX6) (N := 14) hx hb hts inlX6 hown hK hP 2 gA_2 rfl 5 (by decide) (hts (.fieldLink RX6 25 "ShapeReader$Tokens" "start" "I") mw_16_11) (fun _ h9 => h9) rfl dX6_advance_60 ?_
  obtain ⟨q1, hc, h⟩ := ib h
  have hF := va_frees hD hS hA
  refine va_calli (va_runV (As := [.int ((stI σ 2 5 (σ.1 2 3)).1 2 5)]) (rest := []) ⟨hx, hb, hml, hown, hts⟩ (s_X6_signAt hc) (cwV 1 hts (gV mw_17_0 mw_17_1 mw_17_2 mw_0_10 mw_51_7) rfl rfl rfl (by decide +kernel) ⟨(Nat.le_of_ble_eq_true rfl), (Nat.le_of_ble_eq_true rfl)⟩) (vV (ci := 6) (q0 := 2) hK hP hD hN rfl gA_2) rfl rfl hl.1 rfl (lv_room (Nat.le_of_ble_eq_true rfl)) dX6_advance_63 ⟨(Nat.le_of_ble_eq_true rfl), (Nat.le_of_ble_eq_true rfl)⟩) hS (fun q _ h => hF q h) hF (fun r2 u t H locs ht hvm hw hB _ _ hS => ?_)
  obtain rfl : r2 = q1.1 := hw
  replace hP : va_P (dC, dI) vwCl (wA a k q1.2) H := by rw [← ht]; exact hB.1
  replace hD := hD0 (q1.2)
  clear hB hF
  refine lv_istore_n (lv' := [(1, .int q1.1), (0, .ref (a 2))]) hx hb dX6_advance_66 rfl hl (by decide) rfl (fun ls hl => ?_)
  refine lv_aload_n hx hb dX6_advance_67 rfl (lv_at hl 1 rfl) ?_
  refine va_get (D := (dC, dI)) (ci := 6) (C := RX6) (T := TX6) (N := 14) hx hb hts inlX6 hown hK hP 2 gA_2 rfl 5 (by decide) (hts (.fieldLink RX6 25 "ShapeReader$Tokens" "start" "I") mw_16_11) (fun _ h9 => h9) rfl dX6_advance_68 ?_
  refine lv_aload_n hx hb dX6_advance_71 rfl (lv_at hl 1 rfl) ?_
  refine va_get (D := (dC, dI)) (ci := 6) (C := RX6) (T := TX6) (N := 14) hx hb hts inlX6 hown hK hP 2 gA_2 rfl 2 (by decide) (hts (.fieldLink RX6 15 "ShapeReader$Tokens" "end" "I") mw_16_8) (fun _ h9 => h9) rfl dX6_advance_72 ?_
  refine lv_icmp_lt (tgt := 86) hx hb dX6_advance_75 (by decide) (fun hc => ?_) (fun hc => ?_)
  · replace h := ip hc h
    refine lv_iload_n hx hb dX6_advance_86 rfl (lv_at hl 0 rfl) ?_
    obtain ⟨q3, hc, h⟩ := ib h
    have hF := va_frees hD hS hA
    refine va_calli (va_runS (As := [.int q1.1]) (rest := []) ⟨hx, hb, hml, hown, hts⟩ (s_X6_isLetter hc) (va_cwS 1 hts (gS mw_17_3 mw_17_4 mw_0_10 mw_51_9) rfl rfl rfl (by decide +kernel) ⟨(Nat.le_of_ble_eq_true rfl), (Nat.le_of_ble_eq_true rfl)⟩) (vS hK hP hD hN) rfl rfl hl.1 rfl (lv_room (Nat.le_of_ble_eq_true rfl)) dX6_advance_87 ⟨(Nat.le_of_ble_eq_true rfl), (Nat.le_of_ble_eq_true rfl)⟩) hS (fun q _ h => hF q h) hF (fun r4 u t H locs ht hvm hw hB _ _ hS => ?_)
    obtain rfl : r4 = q3.1 := hw
    replace hP : va_P (dC, dI) vwCl (wA a k q3.2) H := by rw [← ht]; exact hB.1
    replace hD := hD0 (q3.2)
    clear hB hF
    refine lv_if_eq (tgt := 100) hx hb dX6_advance_90 (by decide) (fun hc => ?_) (fun hc => ?_)
    · replace h := ip hc h
      refine lv_iload_n hx hb dX6_advance_100 rfl (lv_at hl 0 rfl) ?_
      refine lv_bipush (v := 45) hx hb dX6_advance_101 (by decide) ?_
      refine lv_icmp_eq (tgt := 113) hx hb dX6_advance_103 (by decide) (fun hc => ?_) (fun hc => ?_)
      · replace h := ip hc h
        exact b_X6_advance_113 hC h _ _ _ hP hD hS (lv_sub hl [1] rfl)
      · replace h := iq hc h
        refine lv_iload_n hx hb dX6_advance_106 rfl (lv_at hl 0 rfl) ?_
        obtain ⟨q5, hc, h⟩ := ib h
        have hF := va_frees hD hS hA
        refine va_calli (va_runS (As := [.int q1.1]) (rest := []) ⟨hx, hb, hml, hown, hts⟩ (s_X6_isDigit hc) (va_cwS 1 hts (gS mw_17_8 mw_17_9 mw_0_10 mw_51_10) rfl rfl rfl (by decide +kernel) ⟨(Nat.le_of_ble_eq_true rfl), (Nat.le_of_ble_eq_true rfl)⟩) (vS hK hP hD hN) rfl rfl hl.1 rfl (lv_room (Nat.le_of_ble_eq_true rfl)) dX6_advance_107 ⟨(Nat.le_of_ble_eq_true rfl), (Nat.le_of_ble_eq_true rfl)⟩) hS (fun q _ h => hF q h) hF (fun r6 u t H locs ht hvm hw hB _ _ hS => ?_)
        obtain rfl : r6 = q5.1 := hw
        replace hP : va_P (dC, dI) vwCl (wA a k q5.2) H := by rw [← ht]; exact hB.1
        replace hD := hD0 (q5.2)
        clear hB hF
        refine lv_if_eq (tgt := 120) hx hb dX6_advance_110 (by decide) (fun hc => ?_) (fun hc => ?_)
        · replace h := ip hc h
          refine lv_iload_n hx hb dX6_advance_120 rfl (lv_at hl 0 rfl) ?_
          refine lv_bipush (v := 34) hx hb dX6_advance_121 (by decide) ?_
          refine lv_icmp_ne (tgt := 133) hx hb dX6_advance_123 (by decide) (fun hc => ?_) (fun hc => ?_)
          · replace h := iq hc h
            refine lv_iload_n hx hb dX6_advance_133 rfl (lv_at hl 0 rfl) ?_
            refine lv_bipush (v := 123) hx hb dX6_advance_134 (by decide) ?_
            refine lv_icmp_eq (tgt := 169) hx hb dX6_advance_136 (by decide) (fun hc => ?_) (fun hc => ?_)
            · replace h := ip hc h
              exact b_X6_advance_169 hC h _ _ _ hP hD hS (lv_sub hl [1, 0] rfl)
            · replace h := iq hc h
              refine lv_iload_n hx hb dX6_advance_139 rfl (lv_at hl 0 rfl) ?_
              refine lv_bipush (v := 125) hx hb dX6_advance_140 (by decide) ?_
              refine lv_icmp_eq (tgt := 169) hx hb dX6_advance_142 (by decide) (fun hc => ?_) (fun hc => ?_)
              · replace h := ip hc h
                exact b_X6_advance_169 hC h _ _ _ hP hD hS (lv_sub hl [1, 0] rfl)
              · replace h := iq hc h
                refine lv_iload_n hx hb dX6_advance_145 rfl (lv_at hl 0 rfl) ?_
                refine lv_bipush (v := 91) hx hb dX6_advance_146 (by decide) ?_
                refine lv_icmp_eq (tgt := 169) hx hb dX6_advance_148 (by decide) (fun hc => ?_) (fun hc => ?_)
                · replace h := ip hc h
                  exact b_X6_advance_169 hC h _ _ _ hP hD hS (lv_sub hl [1, 0] rfl)
                · replace h := iq hc h
                  refine lv_iload_n hx hb dX6_advance_151 rfl (lv_at hl 0 rfl) ?_
                  refine lv_bipush (v := 93) hx hb dX6_advance_152 (by decide) ?_
                  refine lv_icmp_eq (tgt := 169) hx hb dX6_advance_154 (by decide) (fun hc => ?_) (fun hc => ?_)
                  · replace h := ip hc h
                    exact b_X6_advance_169 hC h _ _ _ hP hD hS (lv_sub hl [1, 0] rfl)
                  · replace h := iq hc h
                    refine lv_iload_n hx hb dX6_advance_157 rfl (lv_at hl 0 rfl) ?_
                    refine lv_bipush (v := 44) hx hb dX6_advance_158 (by decide) ?_
                    refine lv_icmp_eq (tgt := 169) hx hb dX6_advance_160 (by decide) (fun hc => ?_) (fun hc => ?_)
                    · replace h := ip hc h
                      exact b_X6_advance_169 hC h _ _ _ hP hD hS (lv_sub hl [1, 0] rfl)
                    · replace h := iq hc h
                      refine lv_iload_n hx hb dX6_advance_163 rfl (lv_at hl 0 rfl) ?_
                      refine lv_bipush (v := 59) hx hb dX6_advance_164 (by decide) ?_
                      refine lv_icmp_ne (tgt := 187) hx hb dX6_advance_166 (by decide) (fun hc => ?_) (fun hc => ?_)
                      · replace h := iq hc h
                        refine lv_aload_n hx hb dX6_advance_187 rfl (lv_at hl 1 rfl) ?_
                        refine lv_iconst (v := 1) hx hb dX6_advance_188 (by decide) ?_
                        refine va_put (D := (dC, dI)) (ci := 6) (ty := .int) (C := RX6) (T := TX6) (N := 14) hx hb hts inlX6 tyX6 tyX6_ok nmX6 hown hK hP hD hS 2 gA_2 rfl 4 (by decide) (hts (.fieldLink RX6 22 "ShapeReader$Tokens" "kind" "I") mw_16_10) (fun _ h9 => h9) rfl (by decide +kernel) rfl rfl (Nat.le_of_ble_eq_true rfl) dX6_advance_189 (fun H locs hP hD hS => ?_)
                        replace hP := uA_2_4 hP
                        replace hD := hD0 ((stI q5.2 2 4 1))
                        obtain rfl := Option.some.inj h
                        exact W.vret hx hb hr (fun t ht hW => ⟨⟨(), rfl, trivial, ⟨by rw [ht]; exact hP, va_K.moved hW.alike hK, hD⟩⟩, hS.F ht⟩) hS.2.2 dX6_advance_192
                      · replace h := ip hc h
                        exact b_X6_advance_169 hC h _ _ _ hP hD hS (lv_sub hl [1, 0] rfl)
          · replace h := ip hc h
            refine lv_aload_n hx hb dX6_advance_126 rfl (lv_at hl 1 rfl) ?_
            obtain ⟨q7, hc, h⟩ := ib h
            have hF := va_frees hD hS hA
            refine va_callv (va_runV (As := []) (rest := []) ⟨hx, hb, hml, hown, hts⟩ (s_X6_scanLettered hc) (cwV 0 hts (gV mw_17_13 mw_17_14 mw_17_15 mw_0_10 mw_51_13) rfl rfl rfl (by decide +kernel) ⟨(Nat.le_of_ble_eq_true rfl), (Nat.le_of_ble_eq_true rfl)⟩) (vV (ci := 6) (q0 := 2) hK hP hD hN rfl gA_2) rfl rfl hl.1 rfl (lv_room (Nat.le_of_ble_eq_true rfl)) dX6_advance_127 ⟨(Nat.le_of_ble_eq_true rfl), (Nat.le_of_ble_eq_true rfl)⟩) hS (fun q _ h => hF q h) hF (fun u t H locs ht hvm hw hB _ _ hS => ?_)
            replace hP : va_P (dC, dI) vwCl (wA a k q7) H := by rw [← ht]; exact hB.1
            replace hD := hD0 (q7)
            clear hB hF
            refine lv_goto (tgt := 192) hx hb dX6_advance_130 (by decide) ?_
            obtain rfl := Option.some.inj h
            exact W.vret hx hb hr (fun t ht hW => ⟨⟨(), rfl, trivial, ⟨by rw [ht]; exact hP, va_K.moved hW.alike hK, hD⟩⟩, hS.F ht⟩) hS.2.2 dX6_advance_192
        · replace h := iq hc h
          exact b_X6_advance_113 hC h _ _ _ hP hD hS (lv_sub hl [1] rfl)
    · replace h := iq hc h
      refine lv_aload_n hx hb dX6_advance_93 rfl (lv_at hl 1 rfl) ?_
      obtain ⟨q9, hc, h⟩ := ib h
      have hF := va_frees hD hS hA
      refine va_callv (va_runV (As := []) (rest := []) ⟨hx, hb, hml, hown, hts⟩ (s_X6_scanWord hc) (cwV 0 hts (gV mw_17_5 mw_17_6 mw_17_7 mw_0_10 mw_51_12) rfl rfl rfl (by decide +kernel) ⟨(Nat.le_of_ble_eq_true rfl), (Nat.le_of_ble_eq_true rfl)⟩) (vV (ci := 6) (q0 := 2) hK hP hD hN rfl gA_2) rfl rfl hl.1 rfl (lv_room (Nat.le_of_ble_eq_true rfl)) dX6_advance_94 ⟨(Nat.le_of_ble_eq_true rfl), (Nat.le_of_ble_eq_true rfl)⟩) hS (fun q _ h => hF q h) hF (fun u t H locs ht hvm hw hB _ _ hS => ?_)
      replace hP : va_P (dC, dI) vwCl (wA a k q9) H := by rw [← ht]; exact hB.1
      replace hD := hD0 (q9)
      clear hB hF
      refine lv_goto (tgt := 192) hx hb dX6_advance_97 (by decide) ?_
      obtain rfl := Option.some.inj h
      exact W.vret hx hb hr (fun t ht hW => ⟨⟨(), rfl, trivial, ⟨by rw [ht]; exact hP, va_K.moved hW.alike hK, hD⟩⟩, hS.F ht⟩) hS.2.2 dX6_advance_192
  · replace h := iq hc h
    refine lv_aload_n hx hb dX6_advance_78 rfl (lv_at hl 1 rfl) ?_
    refine lv_iconst (v := 0) hx hb dX6_advance_79 (by decide) ?_
    refine va_put (D := (dC, dI)) (ci := 6) (ty := .int) (C := RX6) (T := TX6) (N := 14) hx hb hts inlX6 tyX6 tyX6_ok nmX6 hown hK hP hD hS 2 gA_2 rfl 4 (by decide) (hts (.fieldLink RX6 22 "ShapeReader$Tokens" "kind" "I") mw_16_10) (fun _ h9 => h9) rfl (by decide +kernel) rfl rfl (Nat.le_of_ble_eq_true rfl) dX6_advance_80 (fun H locs hP hD hS => ?_)
    replace hP := uA_2_4 hP
    replace hD := hD0 ((stI q1.2 2 4 0))
    refine lv_goto (tgt := 192) hx hb dX6_advance_83 (by decide) ?_
    obtain rfl := Option.some.inj h
    exact W.vret hx hb hr (fun t ht hW => ⟨⟨(), rfl, trivial, ⟨by rw [ht]; exact hP, va_K.moved hW.alike hK, hD⟩⟩, hS.F ht⟩) hS.2.2 dX6_advance_192

set_option maxRecDepth 100000 in
set_option maxHeartbeats 4000000 in
theorem b_X6_advance_0 {p : Program} {l : Launch} {e : Env} {s : State} {m : MethodId} {args : Array Value} {below : List Frame} {meth : Method} {c : Code} {dC : Nat → ClassId} {dI : Nat → Nat → Nat} {a : Nat → Nat} {k : Nat → ClassId} {A : Nat → Prop} {q : ST} (hC : CxA p s m args meth c dC dI k A cX6_advance RX6 none 2)   : ∀ (n : Nat)  (σ : ST), f_X6_advance_0  n  σ = some q → GoA p l e ({ frames := 2, cells := 0, slots := 0, locals := 47 } : Room) s m args below meth c (MQ below (qAv dC dI a k A q) args s 0 0 A) dC dI a k A 2 0 σ [(0, .ref (a 2))] [] := by
  intro n
  induction n with
  | zero =>
    intro  σ h
    rw [f_X6_advance_0] at h
    cases h
  | succ n ih =>
    intro  σ h
    have hC0 := hC
    obtain ⟨hx, hb, hr, hml, hown, hts, hlocks, hA, hN, hK⟩ := hC0
    intro H locs ls hP hD hS hl
    have hD0 : ∀ σ1 : ST, va_D A (wA a k σ1) := fun σ1 => wA_D hD
    rw [f_X6_advance_0] at h
    refine lv_aload_n hx hb dX6_advance_0 rfl (lv_at hl 0 rfl) ?_
    refine va_get (D := (dC, dI)) (ci := 6) (C := RX6) (T := TX6) (N := 14) hx hb hts inlX6 hown hK hP 2 gA_2 rfl 3 (by decide) (hts (.fieldLink RX6 19 "ShapeReader$Tokens" "next" "I") mw_16_9) (fun _ h9 => h9) rfl dX6_advance_1 ?_
    refine lv_aload_n hx hb dX6_advance_4 rfl (lv_at hl 0 rfl) ?_
    refine va_get (D := (dC, dI)) (ci := 6) (C := RX6) (T := TX6) (N := 14) hx hb hts inlX6 hown hK hP 2 gA_2 rfl 2 (by decide) (hts (.fieldLink RX6 15 "ShapeReader$Tokens" "end" "I") mw_16_8) (fun _ h9 => h9) rfl dX6_advance_5 ?_
    refine lv_icmp_ge (tgt := 50) hx hb dX6_advance_8 (by decide) (fun hc => ?_) (fun hc => ?_)
    · replace h := ip hc h
      exact b_X6_advance_50 hC h _ _ _ hP hD hS (lv_sub hl [0] rfl)
    · replace h := iq hc h
      refine lv_aload_n hx hb dX6_advance_11 rfl (lv_at hl 0 rfl) ?_
      refine lv_aload_n hx hb dX6_advance_12 rfl (lv_at hl 0 rfl) ?_
      refine va_get (D := (dC, dI)) (ci := 6) (C := RX6) (T := TX6) (N := 14) hx hb hts inlX6 hown hK hP 2 gA_2 rfl 3 (by decide) (hts (.fieldLink RX6 19 "ShapeReader$Tokens" "next" "I") mw_16_9) (fun _ h9 => h9) rfl dX6_advance_13 ?_
      obtain ⟨q1, hc, h⟩ := ib h
      have hF := va_frees hD hS hA
      refine va_calli (va_runV (As := [.int (σ.1 2 3)]) (rest := []) ⟨hx, hb, hml, hown, hts⟩ (s_X6_signAt hc) (cwV 1 hts (gV mw_17_0 mw_17_1 mw_17_2 mw_0_10 mw_51_7) rfl rfl rfl (by decide +kernel) ⟨(Nat.le_of_ble_eq_true rfl), (Nat.le_of_ble_eq_true rfl)⟩) (vV (ci := 6) (q0 := 2) hK hP hD hN rfl gA_2) rfl rfl hl.1 rfl (lv_room (Nat.le_of_ble_eq_true rfl)) dX6_advance_16 ⟨(Nat.le_of_ble_eq_true rfl), (Nat.le_of_ble_eq_true rfl)⟩) hS (fun q _ h => hF q h) hF (fun r2 u t H locs ht hvm hw hB _ _ hS => ?_)
      obtain rfl : r2 = q1.1 := hw
      replace hP : va_P (dC, dI) vwCl (wA a k q1.2) H := by rw [← ht]; exact hB.1
      replace hD := hD0 (q1.2)
      clear hB hF
      refine lv_bipush (v := 32) hx hb dX6_advance_19 (by decide) ?_
      refine lv_icmp_eq (tgt := 37) hx hb dX6_advance_21 (by decide) (fun hc => ?_) (fun hc => ?_)
      · replace h := ip hc h
        exact b_X6_advance_37 hC ih h _ _ _ hP hD hS (lv_sub hl [0] rfl)
      · replace h := iq hc h
        refine lv_aload_n hx hb dX6_advance_24 rfl (lv_at hl 0 rfl) ?_
        refine lv_aload_n hx hb dX6_advance_25 rfl (lv_at hl 0 rfl) ?_
        refine va_get (D := (dC, dI)) (ci := 6) (C := RX6) (T := TX6) (N := 14) hx hb hts inlX6 hown hK hP 2 gA_2 rfl 3 (by decide) (hts (.fieldLink RX6 19 "ShapeReader$Tokens" "next" "I") mw_16_9) (fun _ h9 => h9) rfl dX6_advance_26 ?_
        obtain ⟨q3, hc, h⟩ := ib h
        have hF := va_frees hD hS hA
        refine va_calli (va_runV (As := [.int (q1.2.1 2 3)]) (rest := []) ⟨hx, hb, hml, hown, hts⟩ (s_X6_signAt hc) (cwV 1 hts (gV mw_17_0 mw_17_1 mw_17_2 mw_0_10 mw_51_7) rfl rfl rfl (by decide +kernel) ⟨(Nat.le_of_ble_eq_true rfl), (Nat.le_of_ble_eq_true rfl)⟩) (vV (ci := 6) (q0 := 2) hK hP hD hN rfl gA_2) rfl rfl hl.1 rfl (lv_room (Nat.le_of_ble_eq_true rfl)) dX6_advance_29 ⟨(Nat.le_of_ble_eq_true rfl), (Nat.le_of_ble_eq_true rfl)⟩) hS (fun q _ h => hF q h) hF (fun r4 u t H locs ht hvm hw hB _ _ hS => ?_)
        obtain rfl : r4 = q3.1 := hw
        replace hP : va_P (dC, dI) vwCl (wA a k q3.2) H := by rw [← ht]; exact hB.1
        replace hD := hD0 (q3.2)
        clear hB hF
        refine lv_bipush (v := 10) hx hb dX6_advance_32 (by decide) ?_
        refine lv_icmp_ne (tgt := 50) hx hb dX6_advance_34 (by decide) (fun hc => ?_) (fun hc => ?_)
        · replace h := iq hc h
          exact b_X6_advance_50 hC h _ _ _ hP hD hS (lv_sub hl [0] rfl)
        · replace h := ip hc h
          exact b_X6_advance_37 hC ih h _ _ _ hP hD hS (lv_sub hl [0] rfl)

set_option maxRecDepth 100000 in
set_option maxHeartbeats 4000000 in
theorem b_X6_advance_e {p : Program} {l : Launch} {e : Env} {s : State} {m : MethodId} {args : Array Value} {below : List Frame} {meth : Method} {c : Code} {dC : Nat → ClassId} {dI : Nat → Nat → Nat} {a : Nat → Nat} {k : Nat → ClassId} {A : Nat → Prop} {q : ST} (hC : CxA p s m args meth c dC dI k A cX6_advance RX6 none 2)    {σ : ST} (h : f_X6_advance   σ = some q) : GoA p l e ({ frames := 2, cells := 0, slots := 0, locals := 47 } : Room) s m args below meth c (MQ below (qAv dC dI a k A q) args s 0 0 A) dC dI a k A 2 0 σ (lv_args 0 [.ref (a 2)]) [] := by
  have hC0 := hC
  obtain ⟨hx, hb, hr, hml, hown, hts, hlocks, hA, hN, hK⟩ := hC0
  intro H locs ls hP hD hS hl
  have hD0 : ∀ σ1 : ST, va_D A (wA a k σ1) := fun σ1 => wA_D hD
  replace hl : lv_has ls 2 [(0, .ref (a 2))] := hl
  unfold f_X6_advance at h
  exact b_X6_advance_0 hC FU  _ h _ _ _ hP hD hS (lv_sub hl [0] rfl)

theorem s_X6_advance {l : Launch} {dC : Nat → ClassId} {dI : Nat → Nat → Nat} {a : Nat → Nat} {k : Nat → ClassId} {sz : Nat}  {σ : ST} {q : ST} (h : f_X6_advance   σ = some q) : Met l yX6_advance (.code yX6_advance cX6_advance 2 none :: pw) ({ frames := 2, cells := 0, slots := 0, locals := 47 } : Room) (va_Pc [.ref (a 2)] (vPre dC dI (wA a k σ) (tA k) sz)) (qAv dC dI a k (va_A (wA a k σ) sz) q) 0 0 (va_A (wA a k σ) sz) := metA (fun A => qAv dC dI a k A q) (plainFor_of_name (by decide)) (Nat.le_of_ble_eq_true rfl) (fun _ _ _ _ _ _ _ _ hC => b_X6_advance_e hC h)

def f_X6_refuseAt (p0 : Int32) (p1 : Int32) (σ : ST) : Option (Int32 × ST) := if (σ.1 2 12) = 0 then (some (0, (stI (stI σ 2 12 p0) 2 13 p1))) else (some (0, σ))

set_option maxRecDepth 100000 in
set_option maxHeartbeats 4000000 in
theorem b_X6_refuseAt_e {p : Program} {l : Launch} {e : Env} {s : State} {m : MethodId} {args : Array Value} {below : List Frame} {meth : Method} {c : Code} {dC : Nat → ClassId} {dI : Nat → Nat → Nat} {a : Nat → Nat} {k : Nat → ClassId} {A : Nat → Prop} {q : Int32 × ST} (hC : CxA p s m args meth c dC dI k A cX6_refuseAt RX6 (some .boolean) 3)   {p0 : Int32} {p1 : Int32} {σ : ST} (h : f_X6_refuseAt  p0 p1 σ = some q) : GoA p l e ({ frames := 0, cells := 0, slots := 0, locals := 0 } : Room) s m args below meth c (MQ below (qAi dC dI a k A q) args s 0 0 A) dC dI a k A 3 0 σ (lv_args 0 [.ref (a 2), .int p0, .int p1]) [] := by
  have hC0 := hC
  obtain ⟨hx, hb, hr, hml, hown, hts, hlocks, hA, hN, hK⟩ := hC0
  intro H locs ls hP hD hS hl
  have hD0 : ∀ σ1 : ST, va_D A (wA a k σ1) := fun σ1 => wA_D hD
  replace hl : lv_has ls 3 [(0, .ref (a 2)), (1, .int p0), (2, .int p1)] := hl
  unfold f_X6_refuseAt at h
  refine lv_aload_n hx hb dX6_refuseAt_0 rfl (lv_at hl 0 rfl) ?_
  refine va_get (D := (dC, dI)) (ci := 6) (C := RX6) (T := TX6) (N := 14) hx hb hts inlX6 hown hK hP 2 gA_2 rfl 12 (by decide) (hts (.fieldLink RX6 48 "ShapeReader$Tokens" "faultKind" "I") mw_16_18) (fun _ h9 => h9) rfl dX6_refuseAt_1 ?_
  refine lv_if_ne (tgt := 17) hx hb dX6_refuseAt_4 (by decide) (fun hc => ?_) (fun hc => ?_)
  · replace h := iq hc h
    refine lv_iconst (v := 0) hx hb dX6_refuseAt_17 (by decide) ?_
    obtain rfl := Option.some.inj h
    exact W.zret hx hb hr rfl (fun t ht hW => ⟨⟨_, (), rfl, rfl, ⟨by rw [ht]; exact hP, va_K.moved hW.alike hK, hD⟩⟩, hS.F ht⟩) hS.2.2 dX6_refuseAt_18
  · replace h := ip hc h
    refine lv_aload_n hx hb dX6_refuseAt_7 rfl (lv_at hl 0 rfl) ?_
    refine lv_iload_n hx hb dX6_refuseAt_8 rfl (lv_at hl 1 rfl) ?_
    refine va_put (D := (dC, dI)) (ci := 6) (ty := .int) (C := RX6) (T := TX6) (N := 14) hx hb hts inlX6 tyX6 tyX6_ok nmX6 hown hK hP hD hS 2 gA_2 rfl 12 (by decide) (hts (.fieldLink RX6 48 "ShapeReader$Tokens" "faultKind" "I") mw_16_18) (fun _ h9 => h9) rfl (by decide +kernel) rfl rfl (Nat.le_of_ble_eq_true rfl) dX6_refuseAt_9 (fun H locs hP hD hS => ?_)
    replace hP := uA_2_12 hP
    replace hD := hD0 ((stI σ 2 12 p0))
    refine lv_aload_n hx hb dX6_refuseAt_12 rfl (lv_at hl 0 rfl) ?_
    refine lv_iload_n hx hb dX6_refuseAt_13 rfl (lv_at hl 2 rfl) ?_
    refine va_put (D := (dC, dI)) (ci := 6) (ty := .int) (C := RX6) (T := TX6) (N := 14) hx hb hts inlX6 tyX6 tyX6_ok nmX6 hown hK hP hD hS 2 gA_2 rfl 13 (by decide) (hts (.fieldLink RX6 51 "ShapeReader$Tokens" "faultPlace" "I") mw_16_19) (fun _ h9 => h9) rfl (by decide +kernel) rfl rfl (Nat.le_of_ble_eq_true rfl) dX6_refuseAt_14 (fun H locs hP hD hS => ?_)
    replace hP := uA_2_13 hP
    replace hD := hD0 ((stI (stI σ 2 12 p0) 2 13 p1))
    refine lv_iconst (v := 0) hx hb dX6_refuseAt_17 (by decide) ?_
    obtain rfl := Option.some.inj h
    exact W.zret hx hb hr rfl (fun t ht hW => ⟨⟨_, (), rfl, rfl, ⟨by rw [ht]; exact hP, va_K.moved hW.alike hK, hD⟩⟩, hS.F ht⟩) hS.2.2 dX6_refuseAt_18

theorem s_X6_refuseAt {l : Launch} {dC : Nat → ClassId} {dI : Nat → Nat → Nat} {a : Nat → Nat} {k : Nat → ClassId} {sz : Nat} {p0 : Int32} {p1 : Int32} {σ : ST} {q : Int32 × ST} (h : f_X6_refuseAt  p0 p1 σ = some q) : Met l yX6_refuseAt (.code yX6_refuseAt cX6_refuseAt 3 (some .boolean) :: pw) ({ frames := 0, cells := 0, slots := 0, locals := 0 } : Room) (va_Pc [.ref (a 2), .int p0, .int p1] (vPre dC dI (wA a k σ) (tA k) sz)) (qAi dC dI a k (va_A (wA a k σ) sz) q) 0 0 (va_A (wA a k σ) sz) := metA (fun A => qAi dC dI a k A q) (plainFor_of_name (by decide)) (Nat.le_of_ble_eq_true rfl) (fun _ _ _ _ _ _ _ _ hC => b_X6_refuseAt_e hC h)

def f_X6_refuse (p0 : Int32) (σ : ST) : Option (Int32 × ST) := (f_X6_refuseAt  p0 (σ.1 2 5) σ).bind fun q1 => if q1.1 = 0 ∨ q1.1 = 1 then some (q1.1, q1.2) else none

set_option maxRecDepth 100000 in
set_option maxHeartbeats 4000000 in
theorem b_X6_refuse_e {p : Program} {l : Launch} {e : Env} {s : State} {m : MethodId} {args : Array Value} {below : List Frame} {meth : Method} {c : Code} {dC : Nat → ClassId} {dI : Nat → Nat → Nat} {a : Nat → Nat} {k : Nat → ClassId} {A : Nat → Prop} {q : Int32 × ST} (hC : CxA p s m args meth c dC dI k A cX6_refuse RX6 (some .boolean) 2)   {p0 : Int32} {σ : ST} (h : f_X6_refuse  p0 σ = some q) : GoA p l e ({ frames := 1, cells := 0, slots := 0, locals := 22 } : Room) s m args below meth c (MQ below (qAi dC dI a k A q) args s 0 0 A) dC dI a k A 2 0 σ (lv_args 0 [.ref (a 2), .int p0]) [] := by
  have hC0 := hC
  obtain ⟨hx, hb, hr, hml, hown, hts, hlocks, hA, hN, hK⟩ := hC0
  intro H locs ls hP hD hS hl
  have hD0 : ∀ σ1 : ST, va_D A (wA a k σ1) := fun σ1 => wA_D hD
  replace hl : lv_has ls 2 [(0, .ref (a 2)), (1, .int p0)] := hl
  unfold f_X6_refuse at h
  refine lv_aload_n hx hb dX6_refuse_0 rfl (lv_at hl 0 rfl) ?_
  refine lv_iload_n hx hb dX6_refuse_1 rfl (lv_at hl 1 rfl) ?_
  refine lv_aload_n hx hb dX6_refuse_2 rfl (lv_at hl 0 rfl) ?_
  refine va_get (D := (dC, dI)) (ci := 6) (C := RX6) (T := TX6) (N := 14) hx hb hts inlX6 hown hK hP 2 gA_2 rfl 5 (by decide) (hts (.fieldLink RX6 25 "ShapeReader$Tokens" "start" "I") mw_16_11) (fun _ h9 => h9) rfl dX6_refuse_3 ?_
  obtain ⟨q1, hc, h⟩ := ib h
  have hF := va_frees hD hS hA
  refine va_calli (va_runV (As := [.int p0, .int (σ.1 2 5)]) (rest := []) ⟨hx, hb, hml, hown, hts⟩ (s_X6_refuseAt hc) (cwV 2 hts (gV mw_16_29 mw_8_0 mw_8_1 mw_0_10 mw_51_5) rfl rfl rfl (by decide +kernel) ⟨(Nat.le_of_ble_eq_true rfl), (Nat.le_of_ble_eq_true rfl)⟩) (vV (ci := 6) (q0 := 2) hK hP hD hN rfl gA_2) rfl rfl hl.1 rfl (lv_room (Nat.le_of_ble_eq_true rfl)) dX6_refuse_6 ⟨(Nat.le_of_ble_eq_true rfl), (Nat.le_of_ble_eq_true rfl)⟩) hS (fun q _ h => hF q h) hF (fun r2 u t H locs ht hvm hw hB _ _ hS => ?_)
  obtain rfl : r2 = q1.1 := hw
  replace hP : va_P (dC, dI) vwCl (wA a k q1.2) H := by rw [← ht]; exact hB.1
  replace hD := hD0 (q1.2)
  clear hB hF
  obtain ⟨hg, h⟩ := ig h
  obtain rfl := Option.some.inj h
  exact W.zret hx hb hr (zn hg) (fun t ht hW => ⟨⟨_, (), rfl, rfl, ⟨by rw [ht]; exact hP, va_K.moved hW.alike hK, hD⟩⟩, hS.F ht⟩) hS.2.2 dX6_refuse_9

theorem s_X6_refuse {l : Launch} {dC : Nat → ClassId} {dI : Nat → Nat → Nat} {a : Nat → Nat} {k : Nat → ClassId} {sz : Nat} {p0 : Int32} {σ : ST} {q : Int32 × ST} (h : f_X6_refuse  p0 σ = some q) : Met l yX6_refuse (.code yX6_refuse cX6_refuse 2 (some .boolean) :: pw) ({ frames := 1, cells := 0, slots := 0, locals := 22 } : Room) (va_Pc [.ref (a 2), .int p0] (vPre dC dI (wA a k σ) (tA k) sz)) (qAi dC dI a k (va_A (wA a k σ) sz) q) 0 0 (va_A (wA a k σ) sz) := metA (fun A => qAi dC dI a k A q) (plainFor_of_name (by decide)) (Nat.le_of_ble_eq_true rfl) (fun _ _ _ _ _ _ _ _ hC => b_X6_refuse_e hC h)

def f_X3_beginPlan (p0 : Int32) (σ : ST) : Option (Int32 × ST) := if p0 < 6 then ((f_X5_addPlan 20 p0 σ).bind fun q1 => (f_X6_advance   q1).bind fun q3 => if (q3.1 2 4) = 59 then ((f_X6_advance   q3).bind fun q5 => some (1, q5)) else ((f_X6_refuse  1 q3).bind fun q7 => if q7.1 = 0 ∨ q7.1 = 1 then some (q7.1, q7.2) else none)) else ((f_X6_refuse  4 σ).bind fun q9 => if q9.1 = 0 ∨ q9.1 = 1 then some (q9.1, q9.2) else none)

set_option maxRecDepth 100000 in
set_option maxHeartbeats 4000000 in
theorem b_X3_beginPlan_e {p : Program} {l : Launch} {e : Env} {s : State} {m : MethodId} {args : Array Value} {below : List Frame} {meth : Method} {c : Code} {dC : Nat → ClassId} {dI : Nat → Nat → Nat} {a : Nat → Nat} {k : Nat → ClassId} {A : Nat → Prop} {q : Int32 × ST} (hC : CxA p s m args meth c dC dI k A cX3_beginPlan RX3 (some .boolean) 2)   {p0 : Int32} {σ : ST} (h : f_X3_beginPlan  p0 σ = some q) : GoA p l e ({ frames := 3, cells := 0, slots := 0, locals := 68 } : Room) s m args below meth c (MQ below (qAi dC dI a k A q) args s 0 0 A) dC dI a k A 2 0 σ (lv_args 0 [.ref (a 36), .int p0]) [] := by
  have hC0 := hC
  obtain ⟨hx, hb, hr, hml, hown, hts, hlocks, hA, hN, hK⟩ := hC0
  intro H locs ls hP hD hS hl
  have hD0 : ∀ σ1 : ST, va_D A (wA a k σ1) := fun σ1 => wA_D hD
  replace hl : lv_has ls 2 [(0, .ref (a 36)), (1, .int p0)] := hl
  unfold f_X3_beginPlan at h
  refine lv_iload_n hx hb dX3_beginPlan_0 rfl (lv_at hl 1 rfl) ?_
  refine lv_bipush (v := 6) hx hb dX3_beginPlan_1 (by decide) ?_
  refine lv_icmp_lt (tgt := 15) hx hb dX3_beginPlan_3 (by decide) (fun hc => ?_) (fun hc => ?_)
  · replace h := ip hc h
    refine lv_aload_n hx hb dX3_beginPlan_15 rfl (lv_at hl 0 rfl) ?_
    refine va_get (D := (dC, dI)) (ci := 3) (C := RX3) (T := TX3) (N := 2) hx hb hts inlX3 hown hK hP 36 gA_36 rfl 1 (by decide) (hts (.fieldLink RX3 15 "ShapeReader$PlanText" "draft" "LShapeReader$Shapes;") mw_7_2) (fun _ h9 => h9) rfl dX3_beginPlan_16 ?_
    refine lv_iload_n hx hb dX3_beginPlan_19 rfl (lv_at hl 1 rfl) ?_
    obtain ⟨q1, hc, h⟩ := ib h
    have hF := va_frees hD hS hA
    refine va_callv (va_runV (As := [.int p0]) (rest := []) ⟨hx, hb, hml, hown, hts⟩ (s_X5_addPlan_20 hc) (cwV 1 hts (gV mw_8_2 mw_8_3 mw_8_4 mw_0_9 mw_50_17) rfl rfl rfl (by decide +kernel) ⟨(Nat.le_of_ble_eq_true rfl), (Nat.le_of_ble_eq_true rfl)⟩) (vV (ci := 5) (q0 := 20) hK hP hD hN rfl gA_20) rfl rfl hl.1 rfl (lv_room (Nat.le_of_ble_eq_true rfl)) dX3_beginPlan_20 ⟨(Nat.le_of_ble_eq_true rfl), (Nat.le_of_ble_eq_true rfl)⟩) hS (fun q _ h => hF q h) hF (fun u t H locs ht hvm hw hB _ _ hS => ?_)
    replace hP : va_P (dC, dI) vwCl (wA a k q1) H := by rw [← ht]; exact hB.1
    replace hD := hD0 (q1)
    clear hB hF
    refine lv_aload_n hx hb dX3_beginPlan_23 rfl (lv_at hl 0 rfl) ?_
    refine va_get (D := (dC, dI)) (ci := 3) (C := RX3) (T := TX3) (N := 2) hx hb hts inlX3 hown hK hP 36 gA_36 rfl 0 (by decide) (hts (.fieldLink RX3 9 "ShapeReader$PlanText" "tokens" "LShapeReader$Tokens;") mw_7_1) (fun _ h9 => h9) rfl dX3_beginPlan_24 ?_
    obtain ⟨q3, hc, h⟩ := ib h
    have hF := va_frees hD hS hA
    refine va_callv (va_runV (As := []) (rest := []) ⟨hx, hb, hml, hown, hts⟩ (s_X6_advance hc) (cwV 0 hts (gV mw_8_5 mw_8_6 mw_8_7 mw_0_10 mw_51_8) rfl rfl rfl (by decide +kernel) ⟨(Nat.le_of_ble_eq_true rfl), (Nat.le_of_ble_eq_true rfl)⟩) (vV (ci := 6) (q0 := 2) hK hP hD hN rfl gA_2) rfl rfl hl.1 rfl (lv_room (Nat.le_of_ble_eq_true rfl)) dX3_beginPlan_27 ⟨(Nat.le_of_ble_eq_true rfl), (Nat.le_of_ble_eq_true rfl)⟩) hS (fun q _ h => hF q h) hF (fun u t H locs ht hvm hw hB _ _ hS => ?_)
    replace hP : va_P (dC, dI) vwCl (wA a k q3) H := by rw [← ht]; exact hB.1
    replace hD := hD0 (q3)
    clear hB hF
    refine lv_aload_n hx hb dX3_beginPlan_30 rfl (lv_at hl 0 rfl) ?_
    refine va_get (D := (dC, dI)) (ci := 3) (C := RX3) (T := TX3) (N := 2) hx hb hts inlX3 hown hK hP 36 gA_36 rfl 0 (by decide) (hts (.fieldLink RX3 9 "ShapeReader$PlanText" "tokens" "LShapeReader$Tokens;") mw_7_1) (fun _ h9 => h9) rfl dX3_beginPlan_31 ?_
    refine va_get (D := (dC, dI)) (ci := 6) (C := RX6) (T := TX6) (N := 14) hx hb hts inlX6 hown hK hP 2 gA_2 rfl 4 (by decide) (hts (.fieldLink RX3 37 "ShapeReader$Tokens" "kind" "I") mw_7_13) (fun _ h9 => h9) rfl dX3_beginPlan_34 ?_
    refine lv_bipush (v := 59) hx hb dX3_beginPlan_37 (by decide) ?_
    refine lv_icmp_eq (tgt := 51) hx hb dX3_beginPlan_39 (by decide) (fun hc => ?_) (fun hc => ?_)
    · replace h := ip hc h
      refine lv_aload_n hx hb dX3_beginPlan_51 rfl (lv_at hl 0 rfl) ?_
      refine va_get (D := (dC, dI)) (ci := 3) (C := RX3) (T := TX3) (N := 2) hx hb hts inlX3 hown hK hP 36 gA_36 rfl 0 (by decide) (hts (.fieldLink RX3 9 "ShapeReader$PlanText" "tokens" "LShapeReader$Tokens;") mw_7_1) (fun _ h9 => h9) rfl dX3_beginPlan_52 ?_
      obtain ⟨q5, hc, h⟩ := ib h
      have hF := va_frees hD hS hA
      refine va_callv (va_runV (As := []) (rest := []) ⟨hx, hb, hml, hown, hts⟩ (s_X6_advance hc) (cwV 0 hts (gV mw_8_5 mw_8_6 mw_8_7 mw_0_10 mw_51_8) rfl rfl rfl (by decide +kernel) ⟨(Nat.le_of_ble_eq_true rfl), (Nat.le_of_ble_eq_true rfl)⟩) (vV (ci := 6) (q0 := 2) hK hP hD hN rfl gA_2) rfl rfl hl.1 rfl (lv_room (Nat.le_of_ble_eq_true rfl)) dX3_beginPlan_55 ⟨(Nat.le_of_ble_eq_true rfl), (Nat.le_of_ble_eq_true rfl)⟩) hS (fun q _ h => hF q h) hF (fun u t H locs ht hvm hw hB _ _ hS => ?_)
      replace hP : va_P (dC, dI) vwCl (wA a k q5) H := by rw [← ht]; exact hB.1
      replace hD := hD0 (q5)
      clear hB hF
      refine lv_iconst (v := 1) hx hb dX3_beginPlan_58 (by decide) ?_
      obtain rfl := Option.some.inj h
      exact W.zret hx hb hr rfl (fun t ht hW => ⟨⟨_, (), rfl, rfl, ⟨by rw [ht]; exact hP, va_K.moved hW.alike hK, hD⟩⟩, hS.F ht⟩) hS.2.2 dX3_beginPlan_59
    · replace h := iq hc h
      refine lv_aload_n hx hb dX3_beginPlan_42 rfl (lv_at hl 0 rfl) ?_
      refine va_get (D := (dC, dI)) (ci := 3) (C := RX3) (T := TX3) (N := 2) hx hb hts inlX3 hown hK hP 36 gA_36 rfl 0 (by decide) (hts (.fieldLink RX3 9 "ShapeReader$PlanText" "tokens" "LShapeReader$Tokens;") mw_7_1) (fun _ h9 => h9) rfl dX3_beginPlan_43 ?_
      refine lv_iconst (v := 1) hx hb dX3_beginPlan_46 (by decide) ?_
      obtain ⟨q7, hc, h⟩ := ib h
      have hF := va_frees hD hS hA
      refine va_calli (va_runV (As := [.int 1]) (rest := []) ⟨hx, hb, hml, hown, hts⟩ (s_X6_refuse hc) (cwV 1 hts (gV mw_7_14 mw_7_15 mw_7_16 mw_0_10 mw_51_4) rfl rfl rfl (by decide +kernel) ⟨(Nat.le_of_ble_eq_true rfl), (Nat.le_of_ble_eq_true rfl)⟩) (vV (ci := 6) (q0 := 2) hK hP hD hN rfl gA_2) rfl rfl hl.1 rfl (lv_room (Nat.le_of_ble_eq_true rfl)) dX3_beginPlan_47 ⟨(Nat.le_of_ble_eq_true rfl), (Nat.le_of_ble_eq_true rfl)⟩) hS (fun q _ h => hF q h) hF (fun r8 u t H locs ht hvm hw hB _ _ hS => ?_)
      obtain rfl : r8 = q7.1 := hw
      replace hP : va_P (dC, dI) vwCl (wA a k q7.2) H := by rw [← ht]; exact hB.1
      replace hD := hD0 (q7.2)
      clear hB hF
      obtain ⟨hg, h⟩ := ig h
      obtain rfl := Option.some.inj h
      exact W.zret hx hb hr (zn hg) (fun t ht hW => ⟨⟨_, (), rfl, rfl, ⟨by rw [ht]; exact hP, va_K.moved hW.alike hK, hD⟩⟩, hS.F ht⟩) hS.2.2 dX3_beginPlan_50
  · replace h := iq hc h
    refine lv_aload_n hx hb dX3_beginPlan_6 rfl (lv_at hl 0 rfl) ?_
    refine va_get (D := (dC, dI)) (ci := 3) (C := RX3) (T := TX3) (N := 2) hx hb hts inlX3 hown hK hP 36 gA_36 rfl 0 (by decide) (hts (.fieldLink RX3 9 "ShapeReader$PlanText" "tokens" "LShapeReader$Tokens;") mw_7_1) (fun _ h9 => h9) rfl dX3_beginPlan_7 ?_
    refine lv_iconst (v := 4) hx hb dX3_beginPlan_10 (by decide) ?_
    obtain ⟨q9, hc, h⟩ := ib h
    have hF := va_frees hD hS hA
    refine va_calli (va_runV (As := [.int 4]) (rest := []) ⟨hx, hb, hml, hown, hts⟩ (s_X6_refuse hc) (cwV 1 hts (gV mw_7_14 mw_7_15 mw_7_16 mw_0_10 mw_51_4) rfl rfl rfl (by decide +kernel) ⟨(Nat.le_of_ble_eq_true rfl), (Nat.le_of_ble_eq_true rfl)⟩) (vV (ci := 6) (q0 := 2) hK hP hD hN rfl gA_2) rfl rfl hl.1 rfl (lv_room (Nat.le_of_ble_eq_true rfl)) dX3_beginPlan_11 ⟨(Nat.le_of_ble_eq_true rfl), (Nat.le_of_ble_eq_true rfl)⟩) hS (fun q _ h => hF q h) hF (fun r10 u t H locs ht hvm hw hB _ _ hS => ?_)
    obtain rfl : r10 = q9.1 := hw
    replace hP : va_P (dC, dI) vwCl (wA a k q9.2) H := by rw [← ht]; exact hB.1
    replace hD := hD0 (q9.2)
    clear hB hF
    obtain ⟨hg, h⟩ := ig h
    obtain rfl := Option.some.inj h
    exact W.zret hx hb hr (zn hg) (fun t ht hW => ⟨⟨_, (), rfl, rfl, ⟨by rw [ht]; exact hP, va_K.moved hW.alike hK, hD⟩⟩, hS.F ht⟩) hS.2.2 dX3_beginPlan_14

theorem s_X3_beginPlan {l : Launch} {dC : Nat → ClassId} {dI : Nat → Nat → Nat} {a : Nat → Nat} {k : Nat → ClassId} {sz : Nat} {p0 : Int32} {σ : ST} {q : Int32 × ST} (h : f_X3_beginPlan  p0 σ = some q) : Met l yX3_beginPlan (.code yX3_beginPlan cX3_beginPlan 2 (some .boolean) :: pw) ({ frames := 3, cells := 0, slots := 0, locals := 68 } : Room) (va_Pc [.ref (a 36), .int p0] (vPre dC dI (wA a k σ) (tA k) sz)) (qAi dC dI a k (va_A (wA a k σ) sz) q) 0 0 (va_A (wA a k σ) sz) := metA (fun A => qAi dC dI a k A q) (plainFor_of_name (by decide)) (Nat.le_of_ble_eq_true rfl) (fun _ _ _ _ _ _ _ _ hC => b_X3_beginPlan_e hC h)

def f_X5_setElse (b : Nat) (p0 : Int32) (p1 : Int32) (p2 : Int64) (σ : ST) : Option (ST) := (f_X5_isFieldOf  p0 p1 σ).bind fun q1 => if q1.1 = 0 then (some q1.2) else (if 0 ≤ p0.toInt ∧ p0.toInt < 36 then ((some (stI q1.2 (b + 5) p0.toNatClampNeg ((q1.2.1 (b + 5) p0.toNatClampNeg) ||| (1 <<< (p1 &&& 31))))).bind fun z4 => if 0 ≤ ((p0 * 8) + p1).toInt ∧ ((p0 * 8) + p1).toInt < 288 then (some (stL z4 (b + 10) ((p0 * 8) + p1).toNatClampNeg p2)) else none) else none)

set_option maxRecDepth 100000 in
set_option maxHeartbeats 4000000 in
theorem b_X5_setElse_e_20 {p : Program} {l : Launch} {e : Env} {s : State} {m : MethodId} {args : Array Value} {below : List Frame} {meth : Method} {c : Code} {dC : Nat → ClassId} {dI : Nat → Nat → Nat} {a : Nat → Nat} {k : Nat → ClassId} {A : Nat → Prop} {q : ST} (hC : CxA p s m args meth c dC dI k A cX5_setElse RX5 none 5)   {p0 : Int32} {p1 : Int32} {p2 : Int64} {σ : ST} (h : f_X5_setElse 20 p0 p1 p2 σ = some q) : GoA p l e ({ frames := 1, cells := 0, slots := 0, locals := 21 } : Room) s m args below meth c (MQ below (qAv dC dI a k A q) args s 0 0 A) dC dI a k A 5 0 σ (lv_args 0 [.ref (a 20), .int p0, .int p1, .long p2]) [] := by
  have hC0 := hC
  obtain ⟨hx, hb, hr, hml, hown, hts, hlocks, hA, hN, hK⟩ := hC0
  intro H locs ls hP hD hS hl
  have hD0 : ∀ σ1 : ST, va_D A (wA a k σ1) := fun σ1 => wA_D hD
  replace hl : lv_has ls 5 [(0, .ref (a 20)), (1, .int p0), (2, .int p1), (3, .long p2)] := hl
  unfold f_X5_setElse at h
  refine lv_iload_n hx hb dX5_setElse_0 rfl (lv_at hl 1 rfl) ?_
  refine lv_iload_n hx hb dX5_setElse_1 rfl (lv_at hl 2 rfl) ?_
  obtain ⟨q1, hc, h⟩ := ib h
  have hF := va_frees hD hS hA
  refine va_calli (va_runS (As := [.int p0, .int p1]) (rest := []) ⟨hx, hb, hml, hown, hts⟩ (s_X5_isFieldOf hc) (va_cwS 2 hts (gS mw_15_7 mw_15_8 mw_0_9 mw_49_25) rfl rfl rfl (by decide +kernel) ⟨(Nat.le_of_ble_eq_true rfl), (Nat.le_of_ble_eq_true rfl)⟩) (vS hK hP hD hN) rfl rfl hl.1 rfl (lv_room (Nat.le_of_ble_eq_true rfl)) dX5_setElse_2 ⟨(Nat.le_of_ble_eq_true rfl), (Nat.le_of_ble_eq_true rfl)⟩) hS (fun q _ h => hF q h) hF (fun r2 u t H locs ht hvm hw hB _ _ hS => ?_)
  obtain rfl : r2 = q1.1 := hw
  replace hP : va_P (dC, dI) vwCl (wA a k q1.2) H := by rw [← ht]; exact hB.1
  replace hD := hD0 (q1.2)
  clear hB hF
  refine lv_if_eq (tgt := 32) hx hb dX5_setElse_5 (by decide) (fun hc => ?_) (fun hc => ?_)
  · replace h := ip hc h
    obtain rfl := Option.some.inj h
    exact W.vret hx hb hr (fun t ht hW => ⟨⟨(), rfl, trivial, ⟨by rw [ht]; exact hP, va_K.moved hW.alike hK, hD⟩⟩, hS.F ht⟩) hS.2.2 dX5_setElse_32
  · replace h := iq hc h
    refine lv_aload_n hx hb dX5_setElse_8 rfl (lv_at hl 0 rfl) ?_
    refine va_get (D := (dC, dI)) (ci := 5) (C := RX5) (T := TX5) (N := 17) hx hb hts inlX5 hown hK hP 20 gA_20 rfl 6 (by decide) (hts (.fieldLink RX5 32 "ShapeReader$Shapes" "elseBits" "[I") mw_14_23) (fun _ h9 => h9) rfl dX5_setElse_9 ?_
    refine lv_iload_n hx hb dX5_setElse_12 rfl (lv_at hl 1 rfl) ?_
    refine lv_dup2_11 hx hb dX5_setElse_13 rfl rfl ?_
    obtain ⟨hg3, h⟩ := ig h
    refine va_iald hx hb hK hP 25 21 gA_25 yA_25 (vp_in_iff.mpr hg3) dX5_setElse_14 ?_
    refine lv_iconst (v := 1) hx hb dX5_setElse_15 (by decide) ?_
    refine lv_iload_n hx hb dX5_setElse_16 rfl (lv_at hl 2 rfl) ?_
    refine lv_ishl hx hb dX5_setElse_17 ?_
    refine lv_ior hx hb dX5_setElse_18 ?_
    refine va_iast hx hb hK hP hD hS 25 21 gA_25 yA_25 (vp_in_iff.mpr hg3) dX5_setElse_19 (fun H locs hP hD hS => ?_)
    replace hP := uA_25 hP
    replace hD := hD0 ((stI q1.2 25 p0.toNatClampNeg ((q1.2.1 25 p0.toNatClampNeg) ||| (1 <<< (p1 &&& 31)))))
    obtain ⟨z4, hs, h⟩ := ib h
    replace hs := Option.some.inj hs
    replace hP : va_P (dC, dI) vwCl (wA a k z4) H := by rw [← hs]; exact hP
    replace hD := hD0 z4
    clear hs
    refine lv_aload_n hx hb dX5_setElse_20 rfl (lv_at hl 0 rfl) ?_
    refine va_get (D := (dC, dI)) (ci := 5) (C := RX5) (T := TX5) (N := 17) hx hb hts inlX5 hown hK hP 20 gA_20 rfl 11 (by decide) (hts (.fieldLink RX5 47 "ShapeReader$Shapes" "elseWorths" "[J") mw_14_28) (fun _ h9 => h9) rfl dX5_setElse_21 ?_
    refine lv_iload_n hx hb dX5_setElse_24 rfl (lv_at hl 1 rfl) ?_
    refine lv_bipush (v := 8) hx hb dX5_setElse_25 (by decide) ?_
    refine lv_imul hx hb dX5_setElse_27 ?_
    refine lv_iload_n hx hb dX5_setElse_28 rfl (lv_at hl 2 rfl) ?_
    refine lv_iadd hx hb dX5_setElse_29 ?_
    refine lv_lload_n hx hb dX5_setElse_30 rfl (lv_at hl 3 rfl) ?_
    obtain ⟨hg5, h⟩ := ig h
    refine va_last hx hb hK hP hD hS 30 26 gA_30 yA_30 (vp_in_iff.mpr hg5) dX5_setElse_31 (fun H locs hP hD hS => ?_)
    replace hP := uA_30 hP
    replace hD := hD0 ((stL z4 30 ((p0 * 8) + p1).toNatClampNeg p2))
    obtain rfl := Option.some.inj h
    exact W.vret hx hb hr (fun t ht hW => ⟨⟨(), rfl, trivial, ⟨by rw [ht]; exact hP, va_K.moved hW.alike hK, hD⟩⟩, hS.F ht⟩) hS.2.2 dX5_setElse_32

theorem s_X5_setElse_20 {l : Launch} {dC : Nat → ClassId} {dI : Nat → Nat → Nat} {a : Nat → Nat} {k : Nat → ClassId} {sz : Nat} {p0 : Int32} {p1 : Int32} {p2 : Int64} {σ : ST} {q : ST} (h : f_X5_setElse 20 p0 p1 p2 σ = some q) : Met l yX5_setElse (.code yX5_setElse cX5_setElse 5 none :: pw) ({ frames := 1, cells := 0, slots := 0, locals := 21 } : Room) (va_Pc [.ref (a 20), .int p0, .int p1, .long p2] (vPre dC dI (wA a k σ) (tA k) sz)) (qAv dC dI a k (va_A (wA a k σ) sz) q) 0 0 (va_A (wA a k σ) sz) := metA (fun A => qAv dC dI a k A q) (plainFor_of_name (by decide)) (Nat.le_of_ble_eq_true rfl) (fun _ _ _ _ _ _ _ _ hC => b_X5_setElse_e_20 hC h)

def f_X6_isKeyword (p0 : Int32) (σ : ST) : Option (Int32 × ST) := if (σ.1 2 4) = 2 then (if (σ.1 2 6) = p0 then (some (1, σ)) else (some (0, σ))) else (some (0, σ))

set_option maxRecDepth 100000 in
set_option maxHeartbeats 4000000 in
theorem b_X6_isKeyword_e {p : Program} {l : Launch} {e : Env} {s : State} {m : MethodId} {args : Array Value} {below : List Frame} {meth : Method} {c : Code} {dC : Nat → ClassId} {dI : Nat → Nat → Nat} {a : Nat → Nat} {k : Nat → ClassId} {A : Nat → Prop} {q : Int32 × ST} (hC : CxA p s m args meth c dC dI k A cX6_isKeyword RX6 (some .boolean) 2)   {p0 : Int32} {σ : ST} (h : f_X6_isKeyword  p0 σ = some q) : GoA p l e ({ frames := 0, cells := 0, slots := 0, locals := 0 } : Room) s m args below meth c (MQ below (qAi dC dI a k A q) args s 0 0 A) dC dI a k A 2 0 σ (lv_args 0 [.ref (a 2), .int p0]) [] := by
  have hC0 := hC
  obtain ⟨hx, hb, hr, hml, hown, hts, hlocks, hA, hN, hK⟩ := hC0
  intro H locs ls hP hD hS hl
  have hD0 : ∀ σ1 : ST, va_D A (wA a k σ1) := fun σ1 => wA_D hD
  replace hl : lv_has ls 2 [(0, .ref (a 2)), (1, .int p0)] := hl
  unfold f_X6_isKeyword at h
  refine lv_aload_n hx hb dX6_isKeyword_0 rfl (lv_at hl 0 rfl) ?_
  refine va_get (D := (dC, dI)) (ci := 6) (C := RX6) (T := TX6) (N := 14) hx hb hts inlX6 hown hK hP 2 gA_2 rfl 4 (by decide) (hts (.fieldLink RX6 22 "ShapeReader$Tokens" "kind" "I") mw_16_10) (fun _ h9 => h9) rfl dX6_isKeyword_1 ?_
  refine lv_iconst (v := 2) hx hb dX6_isKeyword_4 (by decide) ?_
  refine lv_icmp_ne (tgt := 20) hx hb dX6_isKeyword_5 (by decide) (fun hc => ?_) (fun hc => ?_)
  · replace h := iq hc h
    refine lv_iconst (v := 0) hx hb dX6_isKeyword_20 (by decide) ?_
    obtain rfl := Option.some.inj h
    exact W.zret hx hb hr rfl (fun t ht hW => ⟨⟨_, (), rfl, rfl, ⟨by rw [ht]; exact hP, va_K.moved hW.alike hK, hD⟩⟩, hS.F ht⟩) hS.2.2 dX6_isKeyword_21
  · replace h := ip hc h
    refine lv_aload_n hx hb dX6_isKeyword_8 rfl (lv_at hl 0 rfl) ?_
    refine va_get (D := (dC, dI)) (ci := 6) (C := RX6) (T := TX6) (N := 14) hx hb hts inlX6 hown hK hP 2 gA_2 rfl 6 (by decide) (hts (.fieldLink RX6 28 "ShapeReader$Tokens" "keyword" "I") mw_16_12) (fun _ h9 => h9) rfl dX6_isKeyword_9 ?_
    refine lv_iload_n hx hb dX6_isKeyword_12 rfl (lv_at hl 1 rfl) ?_
    refine lv_icmp_ne (tgt := 20) hx hb dX6_isKeyword_13 (by decide) (fun hc => ?_) (fun hc => ?_)
    · replace h := iq hc h
      refine lv_iconst (v := 0) hx hb dX6_isKeyword_20 (by decide) ?_
      obtain rfl := Option.some.inj h
      exact W.zret hx hb hr rfl (fun t ht hW => ⟨⟨_, (), rfl, rfl, ⟨by rw [ht]; exact hP, va_K.moved hW.alike hK, hD⟩⟩, hS.F ht⟩) hS.2.2 dX6_isKeyword_21
    · replace h := ip hc h
      refine lv_iconst (v := 1) hx hb dX6_isKeyword_16 (by decide) ?_
      refine lv_goto (tgt := 21) hx hb dX6_isKeyword_17 (by decide) ?_
      obtain rfl := Option.some.inj h
      exact W.zret hx hb hr rfl (fun t ht hW => ⟨⟨_, (), rfl, rfl, ⟨by rw [ht]; exact hP, va_K.moved hW.alike hK, hD⟩⟩, hS.F ht⟩) hS.2.2 dX6_isKeyword_21

theorem s_X6_isKeyword {l : Launch} {dC : Nat → ClassId} {dI : Nat → Nat → Nat} {a : Nat → Nat} {k : Nat → ClassId} {sz : Nat} {p0 : Int32} {σ : ST} {q : Int32 × ST} (h : f_X6_isKeyword  p0 σ = some q) : Met l yX6_isKeyword (.code yX6_isKeyword cX6_isKeyword 2 (some .boolean) :: pw) ({ frames := 0, cells := 0, slots := 0, locals := 0 } : Room) (va_Pc [.ref (a 2), .int p0] (vPre dC dI (wA a k σ) (tA k) sz)) (qAi dC dI a k (va_A (wA a k σ) sz) q) 0 0 (va_A (wA a k σ) sz) := metA (fun A => qAi dC dI a k A q) (plainFor_of_name (by decide)) (Nat.le_of_ble_eq_true rfl) (fun _ _ _ _ _ _ _ _ hC => b_X6_isKeyword_e hC h)

def f_X6_beginsLiteral_52 (σ : ST) : Option (Int32 × ST) := some (1, σ)
def f_X6_beginsLiteral (σ : ST) : Option (Int32 × ST) := if (σ.1 2 4) = 4 then (f_X6_beginsLiteral_52   σ) else (if (σ.1 2 4) = 5 then (f_X6_beginsLiteral_52   σ) else (if (σ.1 2 4) = 91 then (f_X6_beginsLiteral_52   σ) else ((f_X6_isKeyword  7 σ).bind fun q1 => if q1.1 = 0 then ((f_X6_isKeyword  13 q1.2).bind fun q3 => if q3.1 = 0 then ((f_X6_isKeyword  14 q3.2).bind fun q5 => if q5.1 = 0 then (some (0, q5.2)) else (f_X6_beginsLiteral_52   q5.2)) else (f_X6_beginsLiteral_52   q3.2)) else (f_X6_beginsLiteral_52   q1.2))))

set_option maxRecDepth 100000 in
set_option maxHeartbeats 4000000 in
theorem b_X6_beginsLiteral_52 {p : Program} {l : Launch} {e : Env} {s : State} {m : MethodId} {args : Array Value} {below : List Frame} {meth : Method} {c : Code} {dC : Nat → ClassId} {dI : Nat → Nat → Nat} {a : Nat → Nat} {k : Nat → ClassId} {A : Nat → Prop} {q : Int32 × ST} (hC : CxA p s m args meth c dC dI k A cX6_beginsLiteral RX6 (some .boolean) 1)    {σ : ST} (h : f_X6_beginsLiteral_52   σ = some q) : GoA p l e ({ frames := 1, cells := 0, slots := 0, locals := 21 } : Room) s m args below meth c (MQ below (qAi dC dI a k A q) args s 0 0 A) dC dI a k A 1 52 σ [] [] := by
  have hC0 := hC
  obtain ⟨hx, hb, hr, hml, hown, hts, hlocks, hA, hN, hK⟩ := hC0
  intro H locs ls hP hD hS hl
  have hD0 : ∀ σ1 : ST, va_D A (wA a k σ1) := fun σ1 => wA_D hD
  unfold f_X6_beginsLiteral_52 at h
  refine lv_iconst (v := 1) hx hb dX6_beginsLiteral_52 (by decide) ?_
  refine lv_goto (tgt := 57) hx hb dX6_beginsLiteral_53 (by decide) ?_
  obtain rfl := Option.some.inj h
  exact W.zret hx hb hr rfl (fun t ht hW => ⟨⟨_, (), rfl, rfl, ⟨by rw [ht]; exact hP, va_K.moved hW.alike hK, hD⟩⟩, hS.F ht⟩) hS.2.2 dX6_beginsLiteral_57

set_option maxRecDepth 100000 in
set_option maxHeartbeats 4000000 in
theorem b_X6_beginsLiteral_e {p : Program} {l : Launch} {e : Env} {s : State} {m : MethodId} {args : Array Value} {below : List Frame} {meth : Method} {c : Code} {dC : Nat → ClassId} {dI : Nat → Nat → Nat} {a : Nat → Nat} {k : Nat → ClassId} {A : Nat → Prop} {q : Int32 × ST} (hC : CxA p s m args meth c dC dI k A cX6_beginsLiteral RX6 (some .boolean) 1)    {σ : ST} (h : f_X6_beginsLiteral   σ = some q) : GoA p l e ({ frames := 1, cells := 0, slots := 0, locals := 21 } : Room) s m args below meth c (MQ below (qAi dC dI a k A q) args s 0 0 A) dC dI a k A 1 0 σ (lv_args 0 [.ref (a 2)]) [] := by
  have hC0 := hC
  obtain ⟨hx, hb, hr, hml, hown, hts, hlocks, hA, hN, hK⟩ := hC0
  intro H locs ls hP hD hS hl
  have hD0 : ∀ σ1 : ST, va_D A (wA a k σ1) := fun σ1 => wA_D hD
  replace hl : lv_has ls 1 [(0, .ref (a 2))] := hl
  unfold f_X6_beginsLiteral at h
  refine lv_aload_n hx hb dX6_beginsLiteral_0 rfl (lv_at hl 0 rfl) ?_
  refine va_get (D := (dC, dI)) (ci := 6) (C := RX6) (T := TX6) (N := 14) hx hb hts inlX6 hown hK hP 2 gA_2 rfl 4 (by decide) (hts (.fieldLink RX6 22 "ShapeReader$Tokens" "kind" "I") mw_16_10) (fun _ h9 => h9) rfl dX6_beginsLiteral_1 ?_
  refine lv_iconst (v := 4) hx hb dX6_beginsLiteral_4 (by decide) ?_
  refine lv_icmp_eq (tgt := 52) hx hb dX6_beginsLiteral_5 (by decide) (fun hc => ?_) (fun hc => ?_)
  · replace h := ip hc h
    exact b_X6_beginsLiteral_52 hC h _ _ _ hP hD hS (lv_sub hl [] rfl)
  · replace h := iq hc h
    refine lv_aload_n hx hb dX6_beginsLiteral_8 rfl (lv_at hl 0 rfl) ?_
    refine va_get (D := (dC, dI)) (ci := 6) (C := RX6) (T := TX6) (N := 14) hx hb hts inlX6 hown hK hP 2 gA_2 rfl 4 (by decide) (hts (.fieldLink RX6 22 "ShapeReader$Tokens" "kind" "I") mw_16_10) (fun _ h9 => h9) rfl dX6_beginsLiteral_9 ?_
    refine lv_iconst (v := 5) hx hb dX6_beginsLiteral_12 (by decide) ?_
    refine lv_icmp_eq (tgt := 52) hx hb dX6_beginsLiteral_13 (by decide) (fun hc => ?_) (fun hc => ?_)
    · replace h := ip hc h
      exact b_X6_beginsLiteral_52 hC h _ _ _ hP hD hS (lv_sub hl [] rfl)
    · replace h := iq hc h
      refine lv_aload_n hx hb dX6_beginsLiteral_16 rfl (lv_at hl 0 rfl) ?_
      refine va_get (D := (dC, dI)) (ci := 6) (C := RX6) (T := TX6) (N := 14) hx hb hts inlX6 hown hK hP 2 gA_2 rfl 4 (by decide) (hts (.fieldLink RX6 22 "ShapeReader$Tokens" "kind" "I") mw_16_10) (fun _ h9 => h9) rfl dX6_beginsLiteral_17 ?_
      refine lv_bipush (v := 91) hx hb dX6_beginsLiteral_20 (by decide) ?_
      refine lv_icmp_eq (tgt := 52) hx hb dX6_beginsLiteral_22 (by decide) (fun hc => ?_) (fun hc => ?_)
      · replace h := ip hc h
        exact b_X6_beginsLiteral_52 hC h _ _ _ hP hD hS (lv_sub hl [] rfl)
      · replace h := iq hc h
        refine lv_aload_n hx hb dX6_beginsLiteral_25 rfl (lv_at hl 0 rfl) ?_
        refine lv_bipush (v := 7) hx hb dX6_beginsLiteral_26 (by decide) ?_
        obtain ⟨q1, hc, h⟩ := ib h
        have hF := va_frees hD hS hA
        refine va_calli (va_runV (As := [.int 7]) (rest := []) ⟨hx, hb, hml, hown, hts⟩ (s_X6_isKeyword hc) (cwV 1 hts (gV mw_17_20 mw_7_8 mw_7_9 mw_0_10 mw_51_15) rfl rfl rfl (by decide +kernel) ⟨(Nat.le_of_ble_eq_true rfl), (Nat.le_of_ble_eq_true rfl)⟩) (vV (ci := 6) (q0 := 2) hK hP hD hN rfl gA_2) rfl rfl hl.1 rfl (lv_room (Nat.le_of_ble_eq_true rfl)) dX6_beginsLiteral_28 ⟨(Nat.le_of_ble_eq_true rfl), (Nat.le_of_ble_eq_true rfl)⟩) hS (fun q _ h => hF q h) hF (fun r2 u t H locs ht hvm hw hB _ _ hS => ?_)
        obtain rfl : r2 = q1.1 := hw
        replace hP : va_P (dC, dI) vwCl (wA a k q1.2) H := by rw [← ht]; exact hB.1
        replace hD := hD0 (q1.2)
        clear hB hF
        refine lv_if_ne (tgt := 52) hx hb dX6_beginsLiteral_31 (by decide) (fun hc => ?_) (fun hc => ?_)
        · replace h := iq hc h
          exact b_X6_beginsLiteral_52 hC h _ _ _ hP hD hS (lv_sub hl [] rfl)
        · replace h := ip hc h
          refine lv_aload_n hx hb dX6_beginsLiteral_34 rfl (lv_at hl 0 rfl) ?_
          refine lv_bipush (v := 13) hx hb dX6_beginsLiteral_35 (by decide) ?_
          obtain ⟨q3, hc, h⟩ := ib h
          have hF := va_frees hD hS hA
          refine va_calli (va_runV (As := [.int 13]) (rest := []) ⟨hx, hb, hml, hown, hts⟩ (s_X6_isKeyword hc) (cwV 1 hts (gV mw_17_20 mw_7_8 mw_7_9 mw_0_10 mw_51_15) rfl rfl rfl (by decide +kernel) ⟨(Nat.le_of_ble_eq_true rfl), (Nat.le_of_ble_eq_true rfl)⟩) (vV (ci := 6) (q0 := 2) hK hP hD hN rfl gA_2) rfl rfl hl.1 rfl (lv_room (Nat.le_of_ble_eq_true rfl)) dX6_beginsLiteral_37 ⟨(Nat.le_of_ble_eq_true rfl), (Nat.le_of_ble_eq_true rfl)⟩) hS (fun q _ h => hF q h) hF (fun r4 u t H locs ht hvm hw hB _ _ hS => ?_)
          obtain rfl : r4 = q3.1 := hw
          replace hP : va_P (dC, dI) vwCl (wA a k q3.2) H := by rw [← ht]; exact hB.1
          replace hD := hD0 (q3.2)
          clear hB hF
          refine lv_if_ne (tgt := 52) hx hb dX6_beginsLiteral_40 (by decide) (fun hc => ?_) (fun hc => ?_)
          · replace h := iq hc h
            exact b_X6_beginsLiteral_52 hC h _ _ _ hP hD hS (lv_sub hl [] rfl)
          · replace h := ip hc h
            refine lv_aload_n hx hb dX6_beginsLiteral_43 rfl (lv_at hl 0 rfl) ?_
            refine lv_bipush (v := 14) hx hb dX6_beginsLiteral_44 (by decide) ?_
            obtain ⟨q5, hc, h⟩ := ib h
            have hF := va_frees hD hS hA
            refine va_calli (va_runV (As := [.int 14]) (rest := []) ⟨hx, hb, hml, hown, hts⟩ (s_X6_isKeyword hc) (cwV 1 hts (gV mw_17_20 mw_7_8 mw_7_9 mw_0_10 mw_51_15) rfl rfl rfl (by decide +kernel) ⟨(Nat.le_of_ble_eq_true rfl), (Nat.le_of_ble_eq_true rfl)⟩) (vV (ci := 6) (q0 := 2) hK hP hD hN rfl gA_2) rfl rfl hl.1 rfl (lv_room (Nat.le_of_ble_eq_true rfl)) dX6_beginsLiteral_46 ⟨(Nat.le_of_ble_eq_true rfl), (Nat.le_of_ble_eq_true rfl)⟩) hS (fun q _ h => hF q h) hF (fun r6 u t H locs ht hvm hw hB _ _ hS => ?_)
            obtain rfl : r6 = q5.1 := hw
            replace hP : va_P (dC, dI) vwCl (wA a k q5.2) H := by rw [← ht]; exact hB.1
            replace hD := hD0 (q5.2)
            clear hB hF
            refine lv_if_eq (tgt := 56) hx hb dX6_beginsLiteral_49 (by decide) (fun hc => ?_) (fun hc => ?_)
            · replace h := ip hc h
              refine lv_iconst (v := 0) hx hb dX6_beginsLiteral_56 (by decide) ?_
              obtain rfl := Option.some.inj h
              exact W.zret hx hb hr rfl (fun t ht hW => ⟨⟨_, (), rfl, rfl, ⟨by rw [ht]; exact hP, va_K.moved hW.alike hK, hD⟩⟩, hS.F ht⟩) hS.2.2 dX6_beginsLiteral_57
            · replace h := iq hc h
              exact b_X6_beginsLiteral_52 hC h _ _ _ hP hD hS (lv_sub hl [] rfl)

theorem s_X6_beginsLiteral {l : Launch} {dC : Nat → ClassId} {dI : Nat → Nat → Nat} {a : Nat → Nat} {k : Nat → ClassId} {sz : Nat}  {σ : ST} {q : Int32 × ST} (h : f_X6_beginsLiteral   σ = some q) : Met l yX6_beginsLiteral (.code yX6_beginsLiteral cX6_beginsLiteral 1 (some .boolean) :: pw) ({ frames := 1, cells := 0, slots := 0, locals := 21 } : Room) (va_Pc [.ref (a 2)] (vPre dC dI (wA a k σ) (tA k) sz)) (qAi dC dI a k (va_A (wA a k σ) sz) q) 0 0 (va_A (wA a k σ) sz) := metA (fun A => qAi dC dI a k A q) (plainFor_of_name (by decide)) (Nat.le_of_ble_eq_true rfl) (fun _ _ _ _ _ _ _ _ hC => b_X6_beginsLiteral_e hC h)

def f_X6_whole (σ : ST) : Option (Int64 × ST) := if (σ.1 2 9) = 0 then (some ((σ.2.1 2 8), σ)) else (some ((-(σ.2.1 2 8)), σ))

set_option maxRecDepth 100000 in
set_option maxHeartbeats 4000000 in
theorem b_X6_whole_e {p : Program} {l : Launch} {e : Env} {s : State} {m : MethodId} {args : Array Value} {below : List Frame} {meth : Method} {c : Code} {dC : Nat → ClassId} {dI : Nat → Nat → Nat} {a : Nat → Nat} {k : Nat → ClassId} {A : Nat → Prop} {q : Int64 × ST} (hC : CxA p s m args meth c dC dI k A cX6_whole RX6 (some .long) 1)    {σ : ST} (h : f_X6_whole   σ = some q) : GoA p l e ({ frames := 0, cells := 0, slots := 0, locals := 0 } : Room) s m args below meth c (MQ below (qAl dC dI a k A q) args s 0 0 A) dC dI a k A 1 0 σ (lv_args 0 [.ref (a 2)]) [] := by
  have hC0 := hC
  obtain ⟨hx, hb, hr, hml, hown, hts, hlocks, hA, hN, hK⟩ := hC0
  intro H locs ls hP hD hS hl
  have hD0 : ∀ σ1 : ST, va_D A (wA a k σ1) := fun σ1 => wA_D hD
  replace hl : lv_has ls 1 [(0, .ref (a 2))] := hl
  unfold f_X6_whole at h
  refine lv_aload_n hx hb dX6_whole_0 rfl (lv_at hl 0 rfl) ?_
  refine va_get (D := (dC, dI)) (ci := 6) (C := RX6) (T := TX6) (N := 14) hx hb hts inlX6 hown hK hP 2 gA_2 rfl 9 (by decide) (hts (.fieldLink RX6 38 "ShapeReader$Tokens" "minus" "Z") mw_16_15) (fun _ h9 => h9) rfl dX6_whole_1 ?_
  refine lv_if_eq (tgt := 15) hx hb dX6_whole_4 (by decide) (fun hc => ?_) (fun hc => ?_)
  · replace h := ip hc h
    refine lv_aload_n hx hb dX6_whole_15 rfl (lv_at hl 0 rfl) ?_
    refine va_get (D := (dC, dI)) (ci := 6) (C := RX6) (T := TX6) (N := 14) hx hb hts inlX6 hown hK hP 2 gA_2 rfl 8 (by decide) (hts (.fieldLink RX6 35 "ShapeReader$Tokens" "digits" "J") mw_16_14) (fun _ h9 => h9) rfl dX6_whole_16 ?_
    obtain rfl := Option.some.inj h
    exact W.lret hx hb hr (fun t ht hW => ⟨⟨_, (), rfl, rfl, ⟨by rw [ht]; exact hP, va_K.moved hW.alike hK, hD⟩⟩, hS.F ht⟩) hS.2.2 dX6_whole_19
  · replace h := iq hc h
    refine lv_aload_n hx hb dX6_whole_7 rfl (lv_at hl 0 rfl) ?_
    refine va_get (D := (dC, dI)) (ci := 6) (C := RX6) (T := TX6) (N := 14) hx hb hts inlX6 hown hK hP 2 gA_2 rfl 8 (by decide) (hts (.fieldLink RX6 35 "ShapeReader$Tokens" "digits" "J") mw_16_14) (fun _ h9 => h9) rfl dX6_whole_8 ?_
    refine lv_lneg hx hb dX6_whole_11 ?_
    refine lv_goto (tgt := 19) hx hb dX6_whole_12 (by decide) ?_
    obtain rfl := Option.some.inj h
    exact W.lret hx hb hr (fun t ht hW => ⟨⟨_, (), rfl, rfl, ⟨by rw [ht]; exact hP, va_K.moved hW.alike hK, hD⟩⟩, hS.F ht⟩) hS.2.2 dX6_whole_19

theorem s_X6_whole {l : Launch} {dC : Nat → ClassId} {dI : Nat → Nat → Nat} {a : Nat → Nat} {k : Nat → ClassId} {sz : Nat}  {σ : ST} {q : Int64 × ST} (h : f_X6_whole   σ = some q) : Met l yX6_whole (.code yX6_whole cX6_whole 1 (some .long) :: pw) ({ frames := 0, cells := 0, slots := 0, locals := 0 } : Room) (va_Pc [.ref (a 2)] (vPre dC dI (wA a k σ) (tA k) sz)) (qAl dC dI a k (va_A (wA a k σ) sz) q) 0 0 (va_A (wA a k σ) sz) := metA (fun A => qAl dC dI a k A q) (plainFor_of_name (by decide)) (Nat.le_of_ble_eq_true rfl) (fun _ _ _ _ _ _ _ _ hC => b_X6_whole_e hC h)

def f_X6_fits_73 (σ : ST) : Option (Int32 × ST) := some (1, σ)
def f_X6_fits (p0 : Int32) (σ : ST) : Option (Int32 × ST) := if p0 = 0 then ((f_X6_isKeyword  7 σ).bind fun q9 => if q9.1 = 0 ∨ q9.1 = 1 then some (q9.1, q9.2) else none) else (if p0 = 1 then ((f_X6_isKeyword  13 σ).bind fun q11 => if q11.1 = 0 then ((f_X6_isKeyword  14 q11.2).bind fun q13 => if q13.1 = 0 then (some (0, q13.2)) else (f_X6_fits_73   q13.2)) else (f_X6_fits_73   q11.2)) else (if p0 = 2 then (if (σ.1 2 4) = 4 then (if (σ.1 2 10) = 0 then ((f_X6_whole   σ).bind fun q15 => (f_X10_isInt  q15.1 q15.2).bind fun q17 => if q17.1 = 0 then (some (0, q17.2)) else (some (1, q17.2))) else (some (0, σ))) else (some (0, σ))) else (if p0 = 3 then (if (σ.1 2 4) = 4 then (if (σ.1 2 10) = 0 then (some (1, σ)) else (some (0, σ))) else (some (0, σ))) else (if p0 = 4 then (if (σ.1 2 4) = 4 then (some (1, σ)) else (some (0, σ))) else (if p0 = 5 then (if (σ.1 2 4) = 5 then (some (1, σ)) else (some (0, σ))) else (if p0 = 6 then (if (σ.1 2 4) = 91 then (some (1, σ)) else (some (0, σ))) else (if p0 = 7 then (if (σ.1 2 4) = 123 then (some (1, σ)) else (some (0, σ))) else (some (0, σ)))))))))

set_option maxRecDepth 100000 in
set_option maxHeartbeats 4000000 in
theorem b_X6_fits_73 {p : Program} {l : Launch} {e : Env} {s : State} {m : MethodId} {args : Array Value} {below : List Frame} {meth : Method} {c : Code} {dC : Nat → ClassId} {dI : Nat → Nat → Nat} {a : Nat → Nat} {k : Nat → ClassId} {A : Nat → Prop} {q : Int32 × ST} (hC : CxA p s m args meth c dC dI k A cX6_fits RX6 (some .boolean) 2)    {σ : ST} (h : f_X6_fits_73   σ = some q) : GoA p l e ({ frames := 1, cells := 0, slots := 0, locals := 21 } : Room) s m args below meth c (MQ below (qAi dC dI a k A q) args s 0 0 A) dC dI a k A 2 73 σ [] [] := by
  have hC0 := hC
  obtain ⟨hx, hb, hr, hml, hown, hts, hlocks, hA, hN, hK⟩ := hC0
  intro H locs ls hP hD hS hl
  have hD0 : ∀ σ1 : ST, va_D A (wA a k σ1) := fun σ1 => wA_D hD
  unfold f_X6_fits_73 at h
  refine lv_iconst (v := 1) hx hb dX6_fits_73 (by decide) ?_
  refine lv_goto (tgt := 78) hx hb dX6_fits_74 (by decide) ?_
  obtain rfl := Option.some.inj h
  exact W.zret hx hb hr rfl (fun t ht hW => ⟨⟨_, (), rfl, rfl, ⟨by rw [ht]; exact hP, va_K.moved hW.alike hK, hD⟩⟩, hS.F ht⟩) hS.2.2 dX6_fits_78

set_option maxRecDepth 100000 in
set_option maxHeartbeats 4000000 in
theorem b_X6_fits_e {p : Program} {l : Launch} {e : Env} {s : State} {m : MethodId} {args : Array Value} {below : List Frame} {meth : Method} {c : Code} {dC : Nat → ClassId} {dI : Nat → Nat → Nat} {a : Nat → Nat} {k : Nat → ClassId} {A : Nat → Prop} {q : Int32 × ST} (hC : CxA p s m args meth c dC dI k A cX6_fits RX6 (some .boolean) 2)   {p0 : Int32} {σ : ST} (h : f_X6_fits  p0 σ = some q) : GoA p l e ({ frames := 1, cells := 0, slots := 0, locals := 21 } : Room) s m args below meth c (MQ below (qAi dC dI a k A q) args s 0 0 A) dC dI a k A 2 0 σ (lv_args 0 [.ref (a 2), .int p0]) [] := by
  have hC0 := hC
  obtain ⟨hx, hb, hr, hml, hown, hts, hlocks, hA, hN, hK⟩ := hC0
  intro H locs ls hP hD hS hl
  have hD0 : ∀ σ1 : ST, va_D A (wA a k σ1) := fun σ1 => wA_D hD
  replace hl : lv_has ls 2 [(0, .ref (a 2)), (1, .int p0)] := hl
  unfold f_X6_fits at h
  refine lv_iload_n hx hb dX6_fits_0 rfl (lv_at hl 1 rfl) ?_
  rcases (il_sw8 p0 (0) (1) (2) (3) (4) (5) (6) (7)) with s1 | s2 | s3 | s4 | s5 | s6 | s7 | s8 | ⟨s1, s2, s3, s4, s5, s6, s7, s8⟩
  · replace h := ip s1 h
    refine lv_tableIn (off := 47) (tgt := 48) hx hb dX6_fits_1 (by rw [s1]; decide) (by rw [s1]; decide) (by rw [s1]; rfl) (by decide) ?_
    refine lv_aload_n hx hb dX6_fits_48 rfl (lv_at hl 0 rfl) ?_
    refine lv_bipush (v := 7) hx hb dX6_fits_49 (by decide) ?_
    obtain ⟨q9, hc, h⟩ := ib h
    have hF := va_frees hD hS hA
    refine va_calli (va_runV (As := [.int 7]) (rest := []) ⟨hx, hb, hml, hown, hts⟩ (s_X6_isKeyword hc) (cwV 1 hts (gV mw_17_20 mw_7_8 mw_7_9 mw_0_10 mw_51_15) rfl rfl rfl (by decide +kernel) ⟨(Nat.le_of_ble_eq_true rfl), (Nat.le_of_ble_eq_true rfl)⟩) (vV (ci := 6) (q0 := 2) hK hP hD hN rfl gA_2) rfl rfl hl.1 rfl (lv_room (Nat.le_of_ble_eq_true rfl)) dX6_fits_51 ⟨(Nat.le_of_ble_eq_true rfl), (Nat.le_of_ble_eq_true rfl)⟩) hS (fun q _ h => hF q h) hF (fun r10 u t H locs ht hvm hw hB _ _ hS => ?_)
    obtain rfl : r10 = q9.1 := hw
    replace hP : va_P (dC, dI) vwCl (wA a k q9.2) H := by rw [← ht]; exact hB.1
    replace hD := hD0 (q9.2)
    clear hB hF
    obtain ⟨hg, h⟩ := ig h
    obtain rfl := Option.some.inj h
    exact W.zret hx hb hr (zn hg) (fun t ht hW => ⟨⟨_, (), rfl, rfl, ⟨by rw [ht]; exact hP, va_K.moved hW.alike hK, hD⟩⟩, hS.F ht⟩) hS.2.2 dX6_fits_54
  · replace h := ip s2 (iq (by rw [s2]; decide) h)
    refine lv_tableIn (off := 54) (tgt := 55) hx hb dX6_fits_1 (by rw [s2]; decide) (by rw [s2]; decide) (by rw [s2]; rfl) (by decide) ?_
    refine lv_aload_n hx hb dX6_fits_55 rfl (lv_at hl 0 rfl) ?_
    refine lv_bipush (v := 13) hx hb dX6_fits_56 (by decide) ?_
    obtain ⟨q11, hc, h⟩ := ib h
    have hF := va_frees hD hS hA
    refine va_calli (va_runV (As := [.int 13]) (rest := []) ⟨hx, hb, hml, hown, hts⟩ (s_X6_isKeyword hc) (cwV 1 hts (gV mw_17_20 mw_7_8 mw_7_9 mw_0_10 mw_51_15) rfl rfl rfl (by decide +kernel) ⟨(Nat.le_of_ble_eq_true rfl), (Nat.le_of_ble_eq_true rfl)⟩) (vV (ci := 6) (q0 := 2) hK hP hD hN rfl gA_2) rfl rfl hl.1 rfl (lv_room (Nat.le_of_ble_eq_true rfl)) dX6_fits_58 ⟨(Nat.le_of_ble_eq_true rfl), (Nat.le_of_ble_eq_true rfl)⟩) hS (fun q _ h => hF q h) hF (fun r12 u t H locs ht hvm hw hB _ _ hS => ?_)
    obtain rfl : r12 = q11.1 := hw
    replace hP : va_P (dC, dI) vwCl (wA a k q11.2) H := by rw [← ht]; exact hB.1
    replace hD := hD0 (q11.2)
    clear hB hF
    refine lv_if_ne (tgt := 73) hx hb dX6_fits_61 (by decide) (fun hc => ?_) (fun hc => ?_)
    · replace h := iq hc h
      exact b_X6_fits_73 hC h _ _ _ hP hD hS (lv_sub hl [] rfl)
    · replace h := ip hc h
      refine lv_aload_n hx hb dX6_fits_64 rfl (lv_at hl 0 rfl) ?_
      refine lv_bipush (v := 14) hx hb dX6_fits_65 (by decide) ?_
      obtain ⟨q13, hc, h⟩ := ib h
      have hF := va_frees hD hS hA
      refine va_calli (va_runV (As := [.int 14]) (rest := []) ⟨hx, hb, hml, hown, hts⟩ (s_X6_isKeyword hc) (cwV 1 hts (gV mw_17_20 mw_7_8 mw_7_9 mw_0_10 mw_51_15) rfl rfl rfl (by decide +kernel) ⟨(Nat.le_of_ble_eq_true rfl), (Nat.le_of_ble_eq_true rfl)⟩) (vV (ci := 6) (q0 := 2) hK hP hD hN rfl gA_2) rfl rfl hl.1 rfl (lv_room (Nat.le_of_ble_eq_true rfl)) dX6_fits_67 ⟨(Nat.le_of_ble_eq_true rfl), (Nat.le_of_ble_eq_true rfl)⟩) hS (fun q _ h => hF q h) hF (fun r14 u t H locs ht hvm hw hB _ _ hS => ?_)
      obtain rfl : r14 = q13.1 := hw
      replace hP : va_P (dC, dI) vwCl (wA a k q13.2) H := by rw [← ht]; exact hB.1
      replace hD := hD0 (q13.2)
      clear hB hF
      refine lv_if_eq (tgt := 77) hx hb dX6_fits_70 (by decide) (fun hc => ?_) (fun hc => ?_)
      · replace h := ip hc h
        refine lv_iconst (v := 0) hx hb dX6_fits_77 (by decide) ?_
        obtain rfl := Option.some.inj h
        exact W.zret hx hb hr rfl (fun t ht hW => ⟨⟨_, (), rfl, rfl, ⟨by rw [ht]; exact hP, va_K.moved hW.alike hK, hD⟩⟩, hS.F ht⟩) hS.2.2 dX6_fits_78
      · replace h := iq hc h
        exact b_X6_fits_73 hC h _ _ _ hP hD hS (lv_sub hl [] rfl)
  · replace h := ip s3 (iq (by rw [s3]; decide) (iq (by rw [s3]; decide) h))
    refine lv_tableIn (off := 78) (tgt := 79) hx hb dX6_fits_1 (by rw [s3]; decide) (by rw [s3]; decide) (by rw [s3]; rfl) (by decide) ?_
    refine lv_aload_n hx hb dX6_fits_79 rfl (lv_at hl 0 rfl) ?_
    refine va_get (D := (dC, dI)) (ci := 6) (C := RX6) (T := TX6) (N := 14) hx hb hts inlX6 hown hK hP 2 gA_2 rfl 4 (by decide) (hts (.fieldLink RX6 22 "ShapeReader$Tokens" "kind" "I") mw_16_10) (fun _ h9 => h9) rfl dX6_fits_80 ?_
    refine lv_iconst (v := 4) hx hb dX6_fits_83 (by decide) ?_
    refine lv_icmp_ne (tgt := 108) hx hb dX6_fits_84 (by decide) (fun hc => ?_) (fun hc => ?_)
    · replace h := iq hc h
      refine lv_iconst (v := 0) hx hb dX6_fits_108 (by decide) ?_
      obtain rfl := Option.some.inj h
      exact W.zret hx hb hr rfl (fun t ht hW => ⟨⟨_, (), rfl, rfl, ⟨by rw [ht]; exact hP, va_K.moved hW.alike hK, hD⟩⟩, hS.F ht⟩) hS.2.2 dX6_fits_109
    · replace h := ip hc h
      refine lv_aload_n hx hb dX6_fits_87 rfl (lv_at hl 0 rfl) ?_
      refine va_get (D := (dC, dI)) (ci := 6) (C := RX6) (T := TX6) (N := 14) hx hb hts inlX6 hown hK hP 2 gA_2 rfl 10 (by decide) (hts (.fieldLink RX6 42 "ShapeReader$Tokens" "dotted" "Z") mw_16_16) (fun _ h9 => h9) rfl dX6_fits_88 ?_
      refine lv_if_ne (tgt := 108) hx hb dX6_fits_91 (by decide) (fun hc => ?_) (fun hc => ?_)
      · replace h := iq hc h
        refine lv_iconst (v := 0) hx hb dX6_fits_108 (by decide) ?_
        obtain rfl := Option.some.inj h
        exact W.zret hx hb hr rfl (fun t ht hW => ⟨⟨_, (), rfl, rfl, ⟨by rw [ht]; exact hP, va_K.moved hW.alike hK, hD⟩⟩, hS.F ht⟩) hS.2.2 dX6_fits_109
      · replace h := ip hc h
        refine lv_aload_n hx hb dX6_fits_94 rfl (lv_at hl 0 rfl) ?_
        obtain ⟨q15, hc, h⟩ := ib h
        have hF := va_frees hD hS hA
        refine va_calll (va_runV (As := []) (rest := []) ⟨hx, hb, hml, hown, hts⟩ (s_X6_whole hc) (cwV 0 hts (gV mw_17_21 mw_17_22 mw_17_23 mw_0_10 mw_51_19) rfl rfl rfl (by decide +kernel) ⟨(Nat.le_of_ble_eq_true rfl), (Nat.le_of_ble_eq_true rfl)⟩) (vV (ci := 6) (q0 := 2) hK hP hD hN rfl gA_2) rfl rfl hl.1 rfl (lv_room (Nat.le_of_ble_eq_true rfl)) dX6_fits_95 ⟨(Nat.le_of_ble_eq_true rfl), (Nat.le_of_ble_eq_true rfl)⟩) hS (fun q _ h => hF q h) hF (fun r16 u t H locs ht hvm hw hB _ _ hS => ?_)
        obtain rfl : r16 = q15.1 := hw
        replace hP : va_P (dC, dI) vwCl (wA a k q15.2) H := by rw [← ht]; exact hB.1
        replace hD := hD0 (q15.2)
        clear hB hF
        obtain ⟨q17, hc, h⟩ := ib h
        have hF := va_frees hD hS hA
        refine va_calli (va_runSN (As := [.long q15.1]) (rest := []) ⟨hx, hb, hml, hown, hts⟩ (s_X10_isInt hc) ⟨va_cnB 1 hts (gI mw_53_24) rfl rfl rfl (hN _ (List.mem_of_getElem? (i := 2) rfl)) (hts (.initialized RX10) mw_0_14) (by decide +kernel) ⟨(Nat.le_of_ble_eq_true rfl), (Nat.le_of_ble_eq_true rfl)⟩, (hts (.static yX10_isInt) mw_14_4), trivial⟩ (vS hK hP hD hN) rfl rfl hl.1 rfl (lv_room (Nat.le_of_ble_eq_true rfl)) dX6_fits_98 ⟨(Nat.le_of_ble_eq_true rfl), (Nat.le_of_ble_eq_true rfl)⟩) hS (fun q _ h => hF q h) hF (fun r18 u t H locs ht hvm hw hB _ _ hS => ?_)
        obtain rfl : r18 = q17.1 := hw
        replace hP : va_P (dC, dI) vwCl (wA a k q17.2) H := by rw [← ht]; exact hB.1
        replace hD := hD0 (q17.2)
        clear hB hF
        refine lv_if_eq (tgt := 108) hx hb dX6_fits_101 (by decide) (fun hc => ?_) (fun hc => ?_)
        · replace h := ip hc h
          refine lv_iconst (v := 0) hx hb dX6_fits_108 (by decide) ?_
          obtain rfl := Option.some.inj h
          exact W.zret hx hb hr rfl (fun t ht hW => ⟨⟨_, (), rfl, rfl, ⟨by rw [ht]; exact hP, va_K.moved hW.alike hK, hD⟩⟩, hS.F ht⟩) hS.2.2 dX6_fits_109
        · replace h := iq hc h
          refine lv_iconst (v := 1) hx hb dX6_fits_104 (by decide) ?_
          refine lv_goto (tgt := 109) hx hb dX6_fits_105 (by decide) ?_
          obtain rfl := Option.some.inj h
          exact W.zret hx hb hr rfl (fun t ht hW => ⟨⟨_, (), rfl, rfl, ⟨by rw [ht]; exact hP, va_K.moved hW.alike hK, hD⟩⟩, hS.F ht⟩) hS.2.2 dX6_fits_109
  · replace h := ip s4 (iq (by rw [s4]; decide) (iq (by rw [s4]; decide) (iq (by rw [s4]; decide) h)))
    refine lv_tableIn (off := 109) (tgt := 110) hx hb dX6_fits_1 (by rw [s4]; decide) (by rw [s4]; decide) (by rw [s4]; rfl) (by decide) ?_
    refine lv_aload_n hx hb dX6_fits_110 rfl (lv_at hl 0 rfl) ?_
    refine va_get (D := (dC, dI)) (ci := 6) (C := RX6) (T := TX6) (N := 14) hx hb hts inlX6 hown hK hP 2 gA_2 rfl 4 (by decide) (hts (.fieldLink RX6 22 "ShapeReader$Tokens" "kind" "I") mw_16_10) (fun _ h9 => h9) rfl dX6_fits_111 ?_
    refine lv_iconst (v := 4) hx hb dX6_fits_114 (by decide) ?_
    refine lv_icmp_ne (tgt := 129) hx hb dX6_fits_115 (by decide) (fun hc => ?_) (fun hc => ?_)
    · replace h := iq hc h
      refine lv_iconst (v := 0) hx hb dX6_fits_129 (by decide) ?_
      obtain rfl := Option.some.inj h
      exact W.zret hx hb hr rfl (fun t ht hW => ⟨⟨_, (), rfl, rfl, ⟨by rw [ht]; exact hP, va_K.moved hW.alike hK, hD⟩⟩, hS.F ht⟩) hS.2.2 dX6_fits_130
    · replace h := ip hc h
      refine lv_aload_n hx hb dX6_fits_118 rfl (lv_at hl 0 rfl) ?_
      refine va_get (D := (dC, dI)) (ci := 6) (C := RX6) (T := TX6) (N := 14) hx hb hts inlX6 hown hK hP 2 gA_2 rfl 10 (by decide) (hts (.fieldLink RX6 42 "ShapeReader$Tokens" "dotted" "Z") mw_16_16) (fun _ h9 => h9) rfl dX6_fits_119 ?_
      refine lv_if_ne (tgt := 129) hx hb dX6_fits_122 (by decide) (fun hc => ?_) (fun hc => ?_)
      · replace h := iq hc h
        refine lv_iconst (v := 0) hx hb dX6_fits_129 (by decide) ?_
        obtain rfl := Option.some.inj h
        exact W.zret hx hb hr rfl (fun t ht hW => ⟨⟨_, (), rfl, rfl, ⟨by rw [ht]; exact hP, va_K.moved hW.alike hK, hD⟩⟩, hS.F ht⟩) hS.2.2 dX6_fits_130
      · replace h := ip hc h
        refine lv_iconst (v := 1) hx hb dX6_fits_125 (by decide) ?_
        refine lv_goto (tgt := 130) hx hb dX6_fits_126 (by decide) ?_
        obtain rfl := Option.some.inj h
        exact W.zret hx hb hr rfl (fun t ht hW => ⟨⟨_, (), rfl, rfl, ⟨by rw [ht]; exact hP, va_K.moved hW.alike hK, hD⟩⟩, hS.F ht⟩) hS.2.2 dX6_fits_130
  · replace h := ip s5 (iq (by rw [s5]; decide) (iq (by rw [s5]; decide) (iq (by rw [s5]; decide) (iq (by rw [s5]; decide) h))))
    refine lv_tableIn (off := 130) (tgt := 131) hx hb dX6_fits_1 (by rw [s5]; decide) (by rw [s5]; decide) (by rw [s5]; rfl) (by decide) ?_
    refine lv_aload_n hx hb dX6_fits_131 rfl (lv_at hl 0 rfl) ?_
    refine va_get (D := (dC, dI)) (ci := 6) (C := RX6) (T := TX6) (N := 14) hx hb hts inlX6 hown hK hP 2 gA_2 rfl 4 (by decide) (hts (.fieldLink RX6 22 "ShapeReader$Tokens" "kind" "I") mw_16_10) (fun _ h9 => h9) rfl dX6_fits_132 ?_
    refine lv_iconst (v := 4) hx hb dX6_fits_135 (by decide) ?_
    refine lv_icmp_ne (tgt := 143) hx hb dX6_fits_136 (by decide) (fun hc => ?_) (fun hc => ?_)
    · replace h := iq hc h
      refine lv_iconst (v := 0) hx hb dX6_fits_143 (by decide) ?_
      obtain rfl := Option.some.inj h
      exact W.zret hx hb hr rfl (fun t ht hW => ⟨⟨_, (), rfl, rfl, ⟨by rw [ht]; exact hP, va_K.moved hW.alike hK, hD⟩⟩, hS.F ht⟩) hS.2.2 dX6_fits_144
    · replace h := ip hc h
      refine lv_iconst (v := 1) hx hb dX6_fits_139 (by decide) ?_
      refine lv_goto (tgt := 144) hx hb dX6_fits_140 (by decide) ?_
      obtain rfl := Option.some.inj h
      exact W.zret hx hb hr rfl (fun t ht hW => ⟨⟨_, (), rfl, rfl, ⟨by rw [ht]; exact hP, va_K.moved hW.alike hK, hD⟩⟩, hS.F ht⟩) hS.2.2 dX6_fits_144
  · replace h := ip s6 (iq (by rw [s6]; decide) (iq (by rw [s6]; decide) (iq (by rw [s6]; decide) (iq (by rw [s6]; decide) (iq (by rw [s6]; decide) h)))))
    refine lv_tableIn (off := 144) (tgt := 145) hx hb dX6_fits_1 (by rw [s6]; decide) (by rw [s6]; decide) (by rw [s6]; rfl) (by decide) ?_
    refine lv_aload_n hx hb dX6_fits_145 rfl (lv_at hl 0 rfl) ?_
    refine va_get (D := (dC, dI)) (ci := 6) (C := RX6) (T := TX6) (N := 14) hx hb hts inlX6 hown hK hP 2 gA_2 rfl 4 (by decide) (hts (.fieldLink RX6 22 "ShapeReader$Tokens" "kind" "I") mw_16_10) (fun _ h9 => h9) rfl dX6_fits_146 ?_
    refine lv_iconst (v := 5) hx hb dX6_fits_149 (by decide) ?_
    refine lv_icmp_ne (tgt := 157) hx hb dX6_fits_150 (by decide) (fun hc => ?_) (fun hc => ?_)
    · replace h := iq hc h
      refine lv_iconst (v := 0) hx hb dX6_fits_157 (by decide) ?_
      obtain rfl := Option.some.inj h
      exact W.zret hx hb hr rfl (fun t ht hW => ⟨⟨_, (), rfl, rfl, ⟨by rw [ht]; exact hP, va_K.moved hW.alike hK, hD⟩⟩, hS.F ht⟩) hS.2.2 dX6_fits_158
    · replace h := ip hc h
      refine lv_iconst (v := 1) hx hb dX6_fits_153 (by decide) ?_
      refine lv_goto (tgt := 158) hx hb dX6_fits_154 (by decide) ?_
      obtain rfl := Option.some.inj h
      exact W.zret hx hb hr rfl (fun t ht hW => ⟨⟨_, (), rfl, rfl, ⟨by rw [ht]; exact hP, va_K.moved hW.alike hK, hD⟩⟩, hS.F ht⟩) hS.2.2 dX6_fits_158
  · replace h := ip s7 (iq (by rw [s7]; decide) (iq (by rw [s7]; decide) (iq (by rw [s7]; decide) (iq (by rw [s7]; decide) (iq (by rw [s7]; decide) (iq (by rw [s7]; decide) h))))))
    refine lv_tableIn (off := 158) (tgt := 159) hx hb dX6_fits_1 (by rw [s7]; decide) (by rw [s7]; decide) (by rw [s7]; rfl) (by decide) ?_
    refine lv_aload_n hx hb dX6_fits_159 rfl (lv_at hl 0 rfl) ?_
    refine va_get (D := (dC, dI)) (ci := 6) (C := RX6) (T := TX6) (N := 14) hx hb hts inlX6 hown hK hP 2 gA_2 rfl 4 (by decide) (hts (.fieldLink RX6 22 "ShapeReader$Tokens" "kind" "I") mw_16_10) (fun _ h9 => h9) rfl dX6_fits_160 ?_
    refine lv_bipush (v := 91) hx hb dX6_fits_163 (by decide) ?_
    refine lv_icmp_ne (tgt := 172) hx hb dX6_fits_165 (by decide) (fun hc => ?_) (fun hc => ?_)
    · replace h := iq hc h
      refine lv_iconst (v := 0) hx hb dX6_fits_172 (by decide) ?_
      obtain rfl := Option.some.inj h
      exact W.zret hx hb hr rfl (fun t ht hW => ⟨⟨_, (), rfl, rfl, ⟨by rw [ht]; exact hP, va_K.moved hW.alike hK, hD⟩⟩, hS.F ht⟩) hS.2.2 dX6_fits_173
    · replace h := ip hc h
      refine lv_iconst (v := 1) hx hb dX6_fits_168 (by decide) ?_
      refine lv_goto (tgt := 173) hx hb dX6_fits_169 (by decide) ?_
      obtain rfl := Option.some.inj h
      exact W.zret hx hb hr rfl (fun t ht hW => ⟨⟨_, (), rfl, rfl, ⟨by rw [ht]; exact hP, va_K.moved hW.alike hK, hD⟩⟩, hS.F ht⟩) hS.2.2 dX6_fits_173
  · replace h := ip s8 (iq (by rw [s8]; decide) (iq (by rw [s8]; decide) (iq (by rw [s8]; decide) (iq (by rw [s8]; decide) (iq (by rw [s8]; decide) (iq (by rw [s8]; decide) (iq (by rw [s8]; decide) h)))))))
    refine lv_tableIn (off := 173) (tgt := 174) hx hb dX6_fits_1 (by rw [s8]; decide) (by rw [s8]; decide) (by rw [s8]; rfl) (by decide) ?_
    refine lv_aload_n hx hb dX6_fits_174 rfl (lv_at hl 0 rfl) ?_
    refine va_get (D := (dC, dI)) (ci := 6) (C := RX6) (T := TX6) (N := 14) hx hb hts inlX6 hown hK hP 2 gA_2 rfl 4 (by decide) (hts (.fieldLink RX6 22 "ShapeReader$Tokens" "kind" "I") mw_16_10) (fun _ h9 => h9) rfl dX6_fits_175 ?_
    refine lv_bipush (v := 123) hx hb dX6_fits_178 (by decide) ?_
    refine lv_icmp_ne (tgt := 187) hx hb dX6_fits_180 (by decide) (fun hc => ?_) (fun hc => ?_)
    · replace h := iq hc h
      refine lv_iconst (v := 0) hx hb dX6_fits_187 (by decide) ?_
      obtain rfl := Option.some.inj h
      exact W.zret hx hb hr rfl (fun t ht hW => ⟨⟨_, (), rfl, rfl, ⟨by rw [ht]; exact hP, va_K.moved hW.alike hK, hD⟩⟩, hS.F ht⟩) hS.2.2 dX6_fits_188
    · replace h := ip hc h
      refine lv_iconst (v := 1) hx hb dX6_fits_183 (by decide) ?_
      refine lv_goto (tgt := 188) hx hb dX6_fits_184 (by decide) ?_
      obtain rfl := Option.some.inj h
      exact W.zret hx hb hr rfl (fun t ht hW => ⟨⟨_, (), rfl, rfl, ⟨by rw [ht]; exact hP, va_K.moved hW.alike hK, hD⟩⟩, hS.F ht⟩) hS.2.2 dX6_fits_188
  · replace h := (iq s8 (iq s7 (iq s6 (iq s5 (iq s4 (iq s3 (iq s2 (iq s1 h))))))))
    refine lv_tableOut (tgt := 189) hx hb dX6_fits_1 (by have a0 := il_ne s1; have e0 : (0 : Int32).toInt = 0 := (by decide); have a1 := il_ne s2; have e1 : (1 : Int32).toInt = 1 := (by decide); have a2 := il_ne s3; have e2 : (2 : Int32).toInt = 2 := (by decide); have a3 := il_ne s4; have e3 : (3 : Int32).toInt = 3 := (by decide); have a4 := il_ne s5; have e4 : (4 : Int32).toInt = 4 := (by decide); have a5 := il_ne s6; have e5 : (5 : Int32).toInt = 5 := (by decide); have a6 := il_ne s7; have e6 : (6 : Int32).toInt = 6 := (by decide); have a7 := il_ne s8; have e7 : (7 : Int32).toInt = 7 := (by decide); omega) (by decide) ?_
    refine lv_iconst (v := 0) hx hb dX6_fits_189 (by decide) ?_
    obtain rfl := Option.some.inj h
    exact W.zret hx hb hr rfl (fun t ht hW => ⟨⟨_, (), rfl, rfl, ⟨by rw [ht]; exact hP, va_K.moved hW.alike hK, hD⟩⟩, hS.F ht⟩) hS.2.2 dX6_fits_190

theorem s_X6_fits {l : Launch} {dC : Nat → ClassId} {dI : Nat → Nat → Nat} {a : Nat → Nat} {k : Nat → ClassId} {sz : Nat} {p0 : Int32} {σ : ST} {q : Int32 × ST} (h : f_X6_fits  p0 σ = some q) : Met l yX6_fits (.code yX6_fits cX6_fits 2 (some .boolean) :: pw) ({ frames := 1, cells := 0, slots := 0, locals := 21 } : Room) (va_Pc [.ref (a 2), .int p0] (vPre dC dI (wA a k σ) (tA k) sz)) (qAi dC dI a k (va_A (wA a k σ) sz) q) 0 0 (va_A (wA a k σ) sz) := metA (fun A => qAi dC dI a k A q) (plainFor_of_name (by decide)) (Nat.le_of_ble_eq_true rfl) (fun _ _ _ _ _ _ _ _ hC => b_X6_fits_e hC h)

def f_X6_realBits_42 (x1 : Int64) (σ : ST) : Option (Int64 × ST) := some ((x1 ||| (-9223372036854775808)), σ)
def f_X6_realBits (σ : ST) : Option (Int64 × ST) := if (FP.ddiv (FP.i2d (σ.1 2 11)) 4621819117588971520) &&& 0x7fffffffffffffff ≤ 0x7ff0000000000000 then (if (FP.dadd (FP.l2d (σ.2.1 2 8)) (FP.ddiv (FP.i2d (σ.1 2 11)) 4621819117588971520)) &&& 0x7fffffffffffffff ≤ 0x7ff0000000000000 then ((f_X10_bitsOfPositive  (FP.dadd (FP.l2d (σ.2.1 2 8)) (FP.ddiv (FP.i2d (σ.1 2 11)) 4621819117588971520)) σ).bind fun q3 => if (q3.2.1 2 9) = 0 then (some (q3.1, q3.2)) else (if (q3.2.1 2 10) = 0 then (if (lg_cmp (q3.2.2.1 2 8) 0) = 0 then (some (q3.1, q3.2)) else (f_X6_realBits_42  q3.1 q3.2)) else (f_X6_realBits_42  q3.1 q3.2))) else none) else none

set_option maxRecDepth 100000 in
set_option maxHeartbeats 4000000 in
theorem b_X6_realBits_42 {p : Program} {l : Launch} {e : Env} {s : State} {m : MethodId} {args : Array Value} {below : List Frame} {meth : Method} {c : Code} {dC : Nat → ClassId} {dI : Nat → Nat → Nat} {a : Nat → Nat} {k : Nat → ClassId} {A : Nat → Prop} {q : Int64 × ST} (hC : CxA p s m args meth c dC dI k A cX6_realBits RX6 (some .long) 3)   {x1 : Int64} {σ : ST} (h : f_X6_realBits_42  x1 σ = some q) : GoA p l e ({ frames := 1, cells := 0, slots := 0, locals := 25 } : Room) s m args below meth c (MQ below (qAl dC dI a k A q) args s 0 0 A) dC dI a k A 3 42 σ [(1, .long x1)] [] := by
  have hC0 := hC
  obtain ⟨hx, hb, hr, hml, hown, hts, hlocks, hA, hN, hK⟩ := hC0
  intro H locs ls hP hD hS hl
  have hD0 : ∀ σ1 : ST, va_D A (wA a k σ1) := fun σ1 => wA_D hD
  unfold f_X6_realBits_42 at h
  refine lv_lload_n hx hb dX6_realBits_42 rfl (lv_at hl 0 rfl) ?_
  refine lv_ldc2 (v := (-9223372036854775808)) hx hb hown (hts (.constantLong RX6 125 (-9223372036854775808)) mw_17_29) dX6_realBits_43 ?_
  refine lv_lor hx hb dX6_realBits_46 ?_
  refine lv_goto (tgt := 51) hx hb dX6_realBits_47 (by decide) ?_
  obtain rfl := Option.some.inj h
  exact W.lret hx hb hr (fun t ht hW => ⟨⟨_, (), rfl, rfl, ⟨by rw [ht]; exact hP, va_K.moved hW.alike hK, hD⟩⟩, hS.F ht⟩) hS.2.2 dX6_realBits_51

set_option maxRecDepth 100000 in
set_option maxHeartbeats 4000000 in
theorem b_X6_realBits_e {p : Program} {l : Launch} {e : Env} {s : State} {m : MethodId} {args : Array Value} {below : List Frame} {meth : Method} {c : Code} {dC : Nat → ClassId} {dI : Nat → Nat → Nat} {a : Nat → Nat} {k : Nat → ClassId} {A : Nat → Prop} {q : Int64 × ST} (hC : CxA p s m args meth c dC dI k A cX6_realBits RX6 (some .long) 3)    {σ : ST} (h : f_X6_realBits   σ = some q) : GoA p l e ({ frames := 1, cells := 0, slots := 0, locals := 25 } : Room) s m args below meth c (MQ below (qAl dC dI a k A q) args s 0 0 A) dC dI a k A 3 0 σ (lv_args 0 [.ref (a 2)]) [] := by
  have hC0 := hC
  obtain ⟨hx, hb, hr, hml, hown, hts, hlocks, hA, hN, hK⟩ := hC0
  intro H locs ls hP hD hS hl
  have hD0 : ∀ σ1 : ST, va_D A (wA a k σ1) := fun σ1 => wA_D hD
  replace hl : lv_has ls 3 [(0, .ref (a 2))] := hl
  unfold f_X6_realBits at h
  refine lv_aload_n hx hb dX6_realBits_0 rfl (lv_at hl 0 rfl) ?_
  refine va_get (D := (dC, dI)) (ci := 6) (C := RX6) (T := TX6) (N := 14) hx hb hts inlX6 hown hK hP 2 gA_2 rfl 8 (by decide) (hts (.fieldLink RX6 35 "ShapeReader$Tokens" "digits" "J") mw_16_14) (fun _ h9 => h9) rfl dX6_realBits_1 ?_
  refine lv_l2d hx hb dX6_realBits_4 ?_
  refine lv_aload_n hx hb dX6_realBits_5 rfl (lv_at hl 0 rfl) ?_
  refine va_get (D := (dC, dI)) (ci := 6) (C := RX6) (T := TX6) (N := 14) hx hb hts inlX6 hown hK hP 2 gA_2 rfl 11 (by decide) (hts (.fieldLink RX6 45 "ShapeReader$Tokens" "tenths" "I") mw_16_17) (fun _ h9 => h9) rfl dX6_realBits_6 ?_
  refine lv_i2d hx hb dX6_realBits_9 ?_
  refine lv_ldc2d (v := 4621819117588971520) hx hb hown (hts (.constantDouble RX6 117 (4621819117588971520)) mw_17_27) dX6_realBits_10 ?_
  obtain ⟨hg1, h⟩ := ig h
  refine lv_ddiv hx hb dX6_realBits_13 hg1 ?_
  obtain ⟨hg2, h⟩ := ig h
  refine lv_dadd hx hb dX6_realBits_14 hg2 ?_
  obtain ⟨q3, hc, h⟩ := ib h
  have hF := va_frees hD hS hA
  refine va_calll (va_runSN (As := [.double (FP.dadd (FP.l2d (σ.2.1 2 8)) (FP.ddiv (FP.i2d (σ.1 2 11)) 4621819117588971520))]) (rest := []) ⟨hx, hb, hml, hown, hts⟩ (s_X10_bitsOfPositive hc) ⟨va_cnB 1 hts (gI mw_53_22) rfl rfl rfl (hN _ (List.mem_of_getElem? (i := 3) rfl)) (hts (.initialized RX10) mw_0_14) (by decide +kernel) ⟨(Nat.le_of_ble_eq_true rfl), (Nat.le_of_ble_eq_true rfl)⟩, (hts (.static yX10_bitsOfPositive) mw_17_28), trivial⟩ (vS hK hP hD hN) rfl rfl hl.1 rfl (lv_room (Nat.le_of_ble_eq_true rfl)) dX6_realBits_15 ⟨(Nat.le_of_ble_eq_true rfl), (Nat.le_of_ble_eq_true rfl)⟩) hS (fun q _ h => hF q h) hF (fun r4 u t H locs ht hvm hw hB _ _ hS => ?_)
  obtain rfl : r4 = q3.1 := hw
  replace hP : va_P (dC, dI) vwCl (wA a k q3.2) H := by rw [← ht]; exact hB.1
  replace hD := hD0 (q3.2)
  clear hB hF
  refine lv_lstore_n (lv' := [(1, .long q3.1), (0, .ref (a 2))]) hx hb dX6_realBits_18 rfl hl (by decide) rfl (fun ls hl => ?_)
  refine lv_aload_n hx hb dX6_realBits_19 rfl (lv_at hl 1 rfl) ?_
  refine va_get (D := (dC, dI)) (ci := 6) (C := RX6) (T := TX6) (N := 14) hx hb hts inlX6 hown hK hP 2 gA_2 rfl 9 (by decide) (hts (.fieldLink RX6 38 "ShapeReader$Tokens" "minus" "Z") mw_16_15) (fun _ h9 => h9) rfl dX6_realBits_20 ?_
  refine lv_if_eq (tgt := 50) hx hb dX6_realBits_23 (by decide) (fun hc => ?_) (fun hc => ?_)
  · replace h := ip hc h
    refine lv_lload_n hx hb dX6_realBits_50 rfl (lv_at hl 0 rfl) ?_
    obtain rfl := Option.some.inj h
    exact W.lret hx hb hr (fun t ht hW => ⟨⟨_, (), rfl, rfl, ⟨by rw [ht]; exact hP, va_K.moved hW.alike hK, hD⟩⟩, hS.F ht⟩) hS.2.2 dX6_realBits_51
  · replace h := iq hc h
    refine lv_aload_n hx hb dX6_realBits_26 rfl (lv_at hl 1 rfl) ?_
    refine va_get (D := (dC, dI)) (ci := 6) (C := RX6) (T := TX6) (N := 14) hx hb hts inlX6 hown hK hP 2 gA_2 rfl 10 (by decide) (hts (.fieldLink RX6 42 "ShapeReader$Tokens" "dotted" "Z") mw_16_16) (fun _ h9 => h9) rfl dX6_realBits_27 ?_
    refine lv_if_ne (tgt := 42) hx hb dX6_realBits_30 (by decide) (fun hc => ?_) (fun hc => ?_)
    · replace h := iq hc h
      exact b_X6_realBits_42 hC h _ _ _ hP hD hS (lv_sub hl [0] rfl)
    · replace h := ip hc h
      refine lv_aload_n hx hb dX6_realBits_33 rfl (lv_at hl 1 rfl) ?_
      refine va_get (D := (dC, dI)) (ci := 6) (C := RX6) (T := TX6) (N := 14) hx hb hts inlX6 hown hK hP 2 gA_2 rfl 8 (by decide) (hts (.fieldLink RX6 35 "ShapeReader$Tokens" "digits" "J") mw_16_14) (fun _ h9 => h9) rfl dX6_realBits_34 ?_
      refine lv_lconst (v := 0) hx hb dX6_realBits_37 (by decide) ?_
      refine W.lcmp hx hb dX6_realBits_38 ?_
      refine lv_if_eq (tgt := 50) hx hb dX6_realBits_39 (by decide) (fun hc => ?_) (fun hc => ?_)
      · replace h := ip hc h
        refine lv_lload_n hx hb dX6_realBits_50 rfl (lv_at hl 0 rfl) ?_
        obtain rfl := Option.some.inj h
        exact W.lret hx hb hr (fun t ht hW => ⟨⟨_, (), rfl, rfl, ⟨by rw [ht]; exact hP, va_K.moved hW.alike hK, hD⟩⟩, hS.F ht⟩) hS.2.2 dX6_realBits_51
      · replace h := iq hc h
        exact b_X6_realBits_42 hC h _ _ _ hP hD hS (lv_sub hl [0] rfl)

theorem s_X6_realBits {l : Launch} {dC : Nat → ClassId} {dI : Nat → Nat → Nat} {a : Nat → Nat} {k : Nat → ClassId} {sz : Nat}  {σ : ST} {q : Int64 × ST} (h : f_X6_realBits   σ = some q) : Met l yX6_realBits (.code yX6_realBits cX6_realBits 3 (some .long) :: pw) ({ frames := 1, cells := 0, slots := 0, locals := 25 } : Room) (va_Pc [.ref (a 2)] (vPre dC dI (wA a k σ) (tA k) sz)) (qAl dC dI a k (va_A (wA a k σ) sz) q) 0 0 (va_A (wA a k σ) sz) := metA (fun A => qAl dC dI a k A q) (plainFor_of_name (by decide)) (Nat.le_of_ble_eq_true rfl) (fun _ _ _ _ _ _ _ _ hC => b_X6_realBits_e hC h)

def f_X6_worth (p0 : Int32) (σ : ST) : Option (Int64 × ST) := if p0 = 1 then ((f_X6_isKeyword  13 σ).bind fun q6 => if q6.1 = 0 then (some (0, q6.2)) else (some (1, q6.2))) else (if p0 = 2 then ((f_X6_whole   σ).bind fun q8 => some (q8.1, q8.2)) else (if p0 = 3 then ((f_X6_whole   σ).bind fun q10 => some (q10.1, q10.2)) else (if p0 = 4 then ((f_X6_realBits   σ).bind fun q12 => some (q12.1, q12.2)) else (if p0 = 5 then (some ((σ.2.1 2 7), σ)) else (some (0, σ))))))

set_option maxRecDepth 100000 in
set_option maxHeartbeats 4000000 in
theorem b_X6_worth_e {p : Program} {l : Launch} {e : Env} {s : State} {m : MethodId} {args : Array Value} {below : List Frame} {meth : Method} {c : Code} {dC : Nat → ClassId} {dI : Nat → Nat → Nat} {a : Nat → Nat} {k : Nat → ClassId} {A : Nat → Prop} {q : Int64 × ST} (hC : CxA p s m args meth c dC dI k A cX6_worth RX6 (some .long) 2)   {p0 : Int32} {σ : ST} (h : f_X6_worth  p0 σ = some q) : GoA p l e ({ frames := 2, cells := 0, slots := 0, locals := 47 } : Room) s m args below meth c (MQ below (qAl dC dI a k A q) args s 0 0 A) dC dI a k A 2 0 σ (lv_args 0 [.ref (a 2), .int p0]) [] := by
  have hC0 := hC
  obtain ⟨hx, hb, hr, hml, hown, hts, hlocks, hA, hN, hK⟩ := hC0
  intro H locs ls hP hD hS hl
  have hD0 : ∀ σ1 : ST, va_D A (wA a k σ1) := fun σ1 => wA_D hD
  replace hl : lv_has ls 2 [(0, .ref (a 2)), (1, .int p0)] := hl
  unfold f_X6_worth at h
  refine lv_iload_n hx hb dX6_worth_0 rfl (lv_at hl 1 rfl) ?_
  rcases (il_sw5 p0 (1) (2) (3) (4) (5)) with s1 | s2 | s3 | s4 | s5 | ⟨s1, s2, s3, s4, s5⟩
  · replace h := ip s1 h
    refine lv_tableIn (off := 35) (tgt := 36) hx hb dX6_worth_1 (by rw [s1]; decide) (by rw [s1]; decide) (by rw [s1]; rfl) (by decide) ?_
    refine lv_aload_n hx hb dX6_worth_36 rfl (lv_at hl 0 rfl) ?_
    refine lv_bipush (v := 13) hx hb dX6_worth_37 (by decide) ?_
    obtain ⟨q6, hc, h⟩ := ib h
    have hF := va_frees hD hS hA
    refine va_calli (va_runV (As := [.int 13]) (rest := []) ⟨hx, hb, hml, hown, hts⟩ (s_X6_isKeyword hc) (cwV 1 hts (gV mw_17_20 mw_7_8 mw_7_9 mw_0_10 mw_51_15) rfl rfl rfl (by decide +kernel) ⟨(Nat.le_of_ble_eq_true rfl), (Nat.le_of_ble_eq_true rfl)⟩) (vV (ci := 6) (q0 := 2) hK hP hD hN rfl gA_2) rfl rfl hl.1 rfl (lv_room (Nat.le_of_ble_eq_true rfl)) dX6_worth_39 ⟨(Nat.le_of_ble_eq_true rfl), (Nat.le_of_ble_eq_true rfl)⟩) hS (fun q _ h => hF q h) hF (fun r7 u t H locs ht hvm hw hB _ _ hS => ?_)
    obtain rfl : r7 = q6.1 := hw
    replace hP : va_P (dC, dI) vwCl (wA a k q6.2) H := by rw [← ht]; exact hB.1
    replace hD := hD0 (q6.2)
    clear hB hF
    refine lv_if_eq (tgt := 49) hx hb dX6_worth_42 (by decide) (fun hc => ?_) (fun hc => ?_)
    · replace h := ip hc h
      refine lv_lconst (v := 0) hx hb dX6_worth_49 (by decide) ?_
      obtain rfl := Option.some.inj h
      exact W.lret hx hb hr (fun t ht hW => ⟨⟨_, (), rfl, rfl, ⟨by rw [ht]; exact hP, va_K.moved hW.alike hK, hD⟩⟩, hS.F ht⟩) hS.2.2 dX6_worth_50
    · replace h := iq hc h
      refine lv_lconst (v := 1) hx hb dX6_worth_45 (by decide) ?_
      refine lv_goto (tgt := 50) hx hb dX6_worth_46 (by decide) ?_
      obtain rfl := Option.some.inj h
      exact W.lret hx hb hr (fun t ht hW => ⟨⟨_, (), rfl, rfl, ⟨by rw [ht]; exact hP, va_K.moved hW.alike hK, hD⟩⟩, hS.F ht⟩) hS.2.2 dX6_worth_50
  · replace h := ip s2 (iq (by rw [s2]; decide) h)
    refine lv_tableIn (off := 50) (tgt := 51) hx hb dX6_worth_1 (by rw [s2]; decide) (by rw [s2]; decide) (by rw [s2]; rfl) (by decide) ?_
    refine lv_aload_n hx hb dX6_worth_51 rfl (lv_at hl 0 rfl) ?_
    obtain ⟨q8, hc, h⟩ := ib h
    have hF := va_frees hD hS hA
    refine va_calll (va_runV (As := []) (rest := []) ⟨hx, hb, hml, hown, hts⟩ (s_X6_whole hc) (cwV 0 hts (gV mw_17_21 mw_17_22 mw_17_23 mw_0_10 mw_51_19) rfl rfl rfl (by decide +kernel) ⟨(Nat.le_of_ble_eq_true rfl), (Nat.le_of_ble_eq_true rfl)⟩) (vV (ci := 6) (q0 := 2) hK hP hD hN rfl gA_2) rfl rfl hl.1 rfl (lv_room (Nat.le_of_ble_eq_true rfl)) dX6_worth_52 ⟨(Nat.le_of_ble_eq_true rfl), (Nat.le_of_ble_eq_true rfl)⟩) hS (fun q _ h => hF q h) hF (fun r9 u t H locs ht hvm hw hB _ _ hS => ?_)
    obtain rfl : r9 = q8.1 := hw
    replace hP : va_P (dC, dI) vwCl (wA a k q8.2) H := by rw [← ht]; exact hB.1
    replace hD := hD0 (q8.2)
    clear hB hF
    obtain rfl := Option.some.inj h
    exact W.lret hx hb hr (fun t ht hW => ⟨⟨_, (), rfl, rfl, ⟨by rw [ht]; exact hP, va_K.moved hW.alike hK, hD⟩⟩, hS.F ht⟩) hS.2.2 dX6_worth_55
  · replace h := ip s3 (iq (by rw [s3]; decide) (iq (by rw [s3]; decide) h))
    refine lv_tableIn (off := 50) (tgt := 51) hx hb dX6_worth_1 (by rw [s3]; decide) (by rw [s3]; decide) (by rw [s3]; rfl) (by decide) ?_
    refine lv_aload_n hx hb dX6_worth_51 rfl (lv_at hl 0 rfl) ?_
    obtain ⟨q10, hc, h⟩ := ib h
    have hF := va_frees hD hS hA
    refine va_calll (va_runV (As := []) (rest := []) ⟨hx, hb, hml, hown, hts⟩ (s_X6_whole hc) (cwV 0 hts (gV mw_17_21 mw_17_22 mw_17_23 mw_0_10 mw_51_19) rfl rfl rfl (by decide +kernel) ⟨(Nat.le_of_ble_eq_true rfl), (Nat.le_of_ble_eq_true rfl)⟩) (vV (ci := 6) (q0 := 2) hK hP hD hN rfl gA_2) rfl rfl hl.1 rfl (lv_room (Nat.le_of_ble_eq_true rfl)) dX6_worth_52 ⟨(Nat.le_of_ble_eq_true rfl), (Nat.le_of_ble_eq_true rfl)⟩) hS (fun q _ h => hF q h) hF (fun r11 u t H locs ht hvm hw hB _ _ hS => ?_)
    obtain rfl : r11 = q10.1 := hw
    replace hP : va_P (dC, dI) vwCl (wA a k q10.2) H := by rw [← ht]; exact hB.1
    replace hD := hD0 (q10.2)
    clear hB hF
    obtain rfl := Option.some.inj h
    exact W.lret hx hb hr (fun t ht hW => ⟨⟨_, (), rfl, rfl, ⟨by rw [ht]; exact hP, va_K.moved hW.alike hK, hD⟩⟩, hS.F ht⟩) hS.2.2 dX6_worth_55
  · replace h := ip s4 (iq (by rw [s4]; decide) (iq (by rw [s4]; decide) (iq (by rw [s4]; decide) h)))
    refine lv_tableIn (off := 55) (tgt := 56) hx hb dX6_worth_1 (by rw [s4]; decide) (by rw [s4]; decide) (by rw [s4]; rfl) (by decide) ?_
    refine lv_aload_n hx hb dX6_worth_56 rfl (lv_at hl 0 rfl) ?_
    obtain ⟨q12, hc, h⟩ := ib h
    have hF := va_frees hD hS hA
    refine va_calll (va_runV (As := []) (rest := []) ⟨hx, hb, hml, hown, hts⟩ (s_X6_realBits hc) (cwV 0 hts (gV mw_17_24 mw_17_25 mw_17_26 mw_0_10 mw_51_21) rfl rfl rfl (by decide +kernel) ⟨(Nat.le_of_ble_eq_true rfl), (Nat.le_of_ble_eq_true rfl)⟩) (vV (ci := 6) (q0 := 2) hK hP hD hN rfl gA_2) rfl rfl hl.1 rfl (lv_room (Nat.le_of_ble_eq_true rfl)) dX6_worth_57 ⟨(Nat.le_of_ble_eq_true rfl), (Nat.le_of_ble_eq_true rfl)⟩) hS (fun q _ h => hF q h) hF (fun r13 u t H locs ht hvm hw hB _ _ hS => ?_)
    obtain rfl : r13 = q12.1 := hw
    replace hP : va_P (dC, dI) vwCl (wA a k q12.2) H := by rw [← ht]; exact hB.1
    replace hD := hD0 (q12.2)
    clear hB hF
    obtain rfl := Option.some.inj h
    exact W.lret hx hb hr (fun t ht hW => ⟨⟨_, (), rfl, rfl, ⟨by rw [ht]; exact hP, va_K.moved hW.alike hK, hD⟩⟩, hS.F ht⟩) hS.2.2 dX6_worth_60
  · replace h := ip s5 (iq (by rw [s5]; decide) (iq (by rw [s5]; decide) (iq (by rw [s5]; decide) (iq (by rw [s5]; decide) h))))
    refine lv_tableIn (off := 60) (tgt := 61) hx hb dX6_worth_1 (by rw [s5]; decide) (by rw [s5]; decide) (by rw [s5]; rfl) (by decide) ?_
    refine lv_aload_n hx hb dX6_worth_61 rfl (lv_at hl 0 rfl) ?_
    refine va_get (D := (dC, dI)) (ci := 6) (C := RX6) (T := TX6) (N := 14) hx hb hts inlX6 hown hK hP 2 gA_2 rfl 7 (by decide) (hts (.fieldLink RX6 31 "ShapeReader$Tokens" "letters" "J") mw_16_13) (fun _ h9 => h9) rfl dX6_worth_62 ?_
    obtain rfl := Option.some.inj h
    exact W.lret hx hb hr (fun t ht hW => ⟨⟨_, (), rfl, rfl, ⟨by rw [ht]; exact hP, va_K.moved hW.alike hK, hD⟩⟩, hS.F ht⟩) hS.2.2 dX6_worth_65
  · replace h := (iq s5 (iq s4 (iq s3 (iq s2 (iq s1 h)))))
    refine lv_tableOut (tgt := 66) hx hb dX6_worth_1 (by have a0 := il_ne s1; have e0 : (1 : Int32).toInt = 1 := (by decide); have a1 := il_ne s2; have e1 : (2 : Int32).toInt = 2 := (by decide); have a2 := il_ne s3; have e2 : (3 : Int32).toInt = 3 := (by decide); have a3 := il_ne s4; have e3 : (4 : Int32).toInt = 4 := (by decide); have a4 := il_ne s5; have e4 : (5 : Int32).toInt = 5 := (by decide); omega) (by decide) ?_
    refine lv_lconst (v := 0) hx hb dX6_worth_66 (by decide) ?_
    obtain rfl := Option.some.inj h
    exact W.lret hx hb hr (fun t ht hW => ⟨⟨_, (), rfl, rfl, ⟨by rw [ht]; exact hP, va_K.moved hW.alike hK, hD⟩⟩, hS.F ht⟩) hS.2.2 dX6_worth_67

theorem s_X6_worth {l : Launch} {dC : Nat → ClassId} {dI : Nat → Nat → Nat} {a : Nat → Nat} {k : Nat → ClassId} {sz : Nat} {p0 : Int32} {σ : ST} {q : Int64 × ST} (h : f_X6_worth  p0 σ = some q) : Met l yX6_worth (.code yX6_worth cX6_worth 2 (some .long) :: pw) ({ frames := 2, cells := 0, slots := 0, locals := 47 } : Room) (va_Pc [.ref (a 2), .int p0] (vPre dC dI (wA a k σ) (tA k) sz)) (qAl dC dI a k (va_A (wA a k σ) sz) q) 0 0 (va_A (wA a k σ) sz) := metA (fun A => qAl dC dI a k A q) (plainFor_of_name (by decide)) (Nat.le_of_ble_eq_true rfl) (fun _ _ _ _ _ _ _ _ hC => b_X6_worth_e hC h)

def f_X3_parseElse (p0 : Int32) (p1 : Int32) (σ : ST) : Option (Int32 × ST) := (f_X6_isKeyword  3 σ).bind fun q1 => if q1.1 = 0 then (some (1, q1.2)) else ((f_X6_advance   q1.2).bind fun q3 => (f_X6_beginsLiteral   q3).bind fun q5 => if q5.1 = 0 then ((f_X6_refuse  1 q5.2).bind fun q27 => if q27.1 = 0 ∨ q27.1 = 1 then some (q27.1, q27.2) else none) else ((f_X5_typeOf 20 p0 p1 q5.2).bind fun q7 => (f_X5_firstChoice 20 q7.1 q7.2).bind fun q9 => (f_X5_sortOf 20 q9.1 q9.2).bind fun q11 => (f_X6_fits  q11.1 q11.2).bind fun q13 => if q13.1 = 0 then ((f_X6_refuse  2 q13.2).bind fun q25 => if q25.1 = 0 ∨ q25.1 = 1 then some (q25.1, q25.2) else none) else ((f_X6_worth  q11.1 q13.2).bind fun q15 => (f_X5_setElse 20 p0 p1 q15.1 q15.2).bind fun q17 => (f_X6_advance   q17).bind fun q19 => if q11.1 = 6 then (if (q19.1 2 4) = 93 then ((f_X6_advance   q19).bind fun q21 => some (1, q21)) else ((f_X6_refuse  1 q19).bind fun q23 => if q23.1 = 0 ∨ q23.1 = 1 then some (q23.1, q23.2) else none)) else (some (1, q19)))))

set_option maxRecDepth 100000 in
set_option maxHeartbeats 4000000 in
theorem b_X3_parseElse_e {p : Program} {l : Launch} {e : Env} {s : State} {m : MethodId} {args : Array Value} {below : List Frame} {meth : Method} {c : Code} {dC : Nat → ClassId} {dI : Nat → Nat → Nat} {a : Nat → Nat} {k : Nat → ClassId} {A : Nat → Prop} {q : Int32 × ST} (hC : CxA p s m args meth c dC dI k A cX3_parseElse RX3 (some .boolean) 4)   {p0 : Int32} {p1 : Int32} {σ : ST} (h : f_X3_parseElse  p0 p1 σ = some q) : GoA p l e ({ frames := 3, cells := 0, slots := 0, locals := 68 } : Room) s m args below meth c (MQ below (qAi dC dI a k A q) args s 0 0 A) dC dI a k A 4 0 σ (lv_args 0 [.ref (a 36), .int p0, .int p1]) [] := by
  have hC0 := hC
  obtain ⟨hx, hb, hr, hml, hown, hts, hlocks, hA, hN, hK⟩ := hC0
  intro H locs ls hP hD hS hl
  have hD0 : ∀ σ1 : ST, va_D A (wA a k σ1) := fun σ1 => wA_D hD
  replace hl : lv_has ls 4 [(0, .ref (a 36)), (1, .int p0), (2, .int p1)] := hl
  unfold f_X3_parseElse at h
  refine lv_aload_n hx hb dX3_parseElse_0 rfl (lv_at hl 0 rfl) ?_
  refine va_get (D := (dC, dI)) (ci := 3) (C := RX3) (T := TX3) (N := 2) hx hb hts inlX3 hown hK hP 36 gA_36 rfl 0 (by decide) (hts (.fieldLink RX3 9 "ShapeReader$PlanText" "tokens" "LShapeReader$Tokens;") mw_7_1) (fun _ h9 => h9) rfl dX3_parseElse_1 ?_
  refine lv_iconst (v := 3) hx hb dX3_parseElse_4 (by decide) ?_
  obtain ⟨q1, hc, h⟩ := ib h
  have hF := va_frees hD hS hA
  refine va_calli (va_runV (As := [.int 3]) (rest := []) ⟨hx, hb, hml, hown, hts⟩ (s_X6_isKeyword hc) (cwV 1 hts (gV mw_7_7 mw_7_8 mw_7_9 mw_0_10 mw_51_15) rfl rfl rfl (by decide +kernel) ⟨(Nat.le_of_ble_eq_true rfl), (Nat.le_of_ble_eq_true rfl)⟩) (vV (ci := 6) (q0 := 2) hK hP hD hN rfl gA_2) rfl rfl hl.1 rfl (lv_room (Nat.le_of_ble_eq_true rfl)) dX3_parseElse_5 ⟨(Nat.le_of_ble_eq_true rfl), (Nat.le_of_ble_eq_true rfl)⟩) hS (fun q _ h => hF q h) hF (fun r2 u t H locs ht hvm hw hB _ _ hS => ?_)
  obtain rfl : r2 = q1.1 := hw
  replace hP : va_P (dC, dI) vwCl (wA a k q1.2) H := by rw [← ht]; exact hB.1
  replace hD := hD0 (q1.2)
  clear hB hF
  refine lv_if_ne (tgt := 13) hx hb dX3_parseElse_8 (by decide) (fun hc => ?_) (fun hc => ?_)
  · replace h := iq hc h
    refine lv_aload_n hx hb dX3_parseElse_13 rfl (lv_at hl 0 rfl) ?_
    refine va_get (D := (dC, dI)) (ci := 3) (C := RX3) (T := TX3) (N := 2) hx hb hts inlX3 hown hK hP 36 gA_36 rfl 0 (by decide) (hts (.fieldLink RX3 9 "ShapeReader$PlanText" "tokens" "LShapeReader$Tokens;") mw_7_1) (fun _ h9 => h9) rfl dX3_parseElse_14 ?_
    obtain ⟨q3, hc, h⟩ := ib h
    have hF := va_frees hD hS hA
    refine va_callv (va_runV (As := []) (rest := []) ⟨hx, hb, hml, hown, hts⟩ (s_X6_advance hc) (cwV 0 hts (gV mw_8_5 mw_8_6 mw_8_7 mw_0_10 mw_51_8) rfl rfl rfl (by decide +kernel) ⟨(Nat.le_of_ble_eq_true rfl), (Nat.le_of_ble_eq_true rfl)⟩) (vV (ci := 6) (q0 := 2) hK hP hD hN rfl gA_2) rfl rfl hl.1 rfl (lv_room (Nat.le_of_ble_eq_true rfl)) dX3_parseElse_17 ⟨(Nat.le_of_ble_eq_true rfl), (Nat.le_of_ble_eq_true rfl)⟩) hS (fun q _ h => hF q h) hF (fun u t H locs ht hvm hw hB _ _ hS => ?_)
    replace hP : va_P (dC, dI) vwCl (wA a k q3) H := by rw [← ht]; exact hB.1
    replace hD := hD0 (q3)
    clear hB hF
    refine lv_aload_n hx hb dX3_parseElse_20 rfl (lv_at hl 0 rfl) ?_
    refine va_get (D := (dC, dI)) (ci := 3) (C := RX3) (T := TX3) (N := 2) hx hb hts inlX3 hown hK hP 36 gA_36 rfl 0 (by decide) (hts (.fieldLink RX3 9 "ShapeReader$PlanText" "tokens" "LShapeReader$Tokens;") mw_7_1) (fun _ h9 => h9) rfl dX3_parseElse_21 ?_
    obtain ⟨q5, hc, h⟩ := ib h
    have hF := va_frees hD hS hA
    refine va_calli (va_runV (As := []) (rest := []) ⟨hx, hb, hml, hown, hts⟩ (s_X6_beginsLiteral hc) (cwV 0 hts (gV mw_10_5 mw_10_6 mw_10_7 mw_0_10 mw_51_16) rfl rfl rfl (by decide +kernel) ⟨(Nat.le_of_ble_eq_true rfl), (Nat.le_of_ble_eq_true rfl)⟩) (vV (ci := 6) (q0 := 2) hK hP hD hN rfl gA_2) rfl rfl hl.1 rfl (lv_room (Nat.le_of_ble_eq_true rfl)) dX3_parseElse_24 ⟨(Nat.le_of_ble_eq_true rfl), (Nat.le_of_ble_eq_true rfl)⟩) hS (fun q _ h => hF q h) hF (fun r6 u t H locs ht hvm hw hB _ _ hS => ?_)
    obtain rfl : r6 = q5.1 := hw
    replace hP : va_P (dC, dI) vwCl (wA a k q5.2) H := by rw [← ht]; exact hB.1
    replace hD := hD0 (q5.2)
    clear hB hF
    refine lv_if_ne (tgt := 39) hx hb dX3_parseElse_27 (by decide) (fun hc => ?_) (fun hc => ?_)
    · replace h := iq hc h
      refine lv_aload_n hx hb dX3_parseElse_39 rfl (lv_at hl 0 rfl) ?_
      refine va_get (D := (dC, dI)) (ci := 3) (C := RX3) (T := TX3) (N := 2) hx hb hts inlX3 hown hK hP 36 gA_36 rfl 1 (by decide) (hts (.fieldLink RX3 15 "ShapeReader$PlanText" "draft" "LShapeReader$Shapes;") mw_7_2) (fun _ h9 => h9) rfl dX3_parseElse_40 ?_
      refine lv_aload_n hx hb dX3_parseElse_43 rfl (lv_at hl 0 rfl) ?_
      refine va_get (D := (dC, dI)) (ci := 3) (C := RX3) (T := TX3) (N := 2) hx hb hts inlX3 hown hK hP 36 gA_36 rfl 1 (by decide) (hts (.fieldLink RX3 15 "ShapeReader$PlanText" "draft" "LShapeReader$Shapes;") mw_7_2) (fun _ h9 => h9) rfl dX3_parseElse_44 ?_
      refine lv_aload_n hx hb dX3_parseElse_47 rfl (lv_at hl 0 rfl) ?_
      refine va_get (D := (dC, dI)) (ci := 3) (C := RX3) (T := TX3) (N := 2) hx hb hts inlX3 hown hK hP 36 gA_36 rfl 1 (by decide) (hts (.fieldLink RX3 15 "ShapeReader$PlanText" "draft" "LShapeReader$Shapes;") mw_7_2) (fun _ h9 => h9) rfl dX3_parseElse_48 ?_
      refine lv_iload_n hx hb dX3_parseElse_51 rfl (lv_at hl 1 rfl) ?_
      refine lv_iload_n hx hb dX3_parseElse_52 rfl (lv_at hl 2 rfl) ?_
      obtain ⟨q7, hc, h⟩ := ib h
      have hF := va_frees hD hS hA
      refine va_calli (va_runV (As := [.int p0, .int p1]) (rest := [.ref (a 20), .ref (a 20)]) ⟨hx, hb, hml, hown, hts⟩ (s_X5_typeOf_20 hc) (cwV 2 hts (gV mw_10_8 mw_2_7 mw_2_8 mw_0_9 mw_50_3) rfl rfl rfl (by decide +kernel) ⟨(Nat.le_of_ble_eq_true rfl), (Nat.le_of_ble_eq_true rfl)⟩) (vV (ci := 5) (q0 := 20) hK hP hD hN rfl gA_20) rfl rfl hl.1 rfl (lv_room (Nat.le_of_ble_eq_true rfl)) dX3_parseElse_53 ⟨(Nat.le_of_ble_eq_true rfl), (Nat.le_of_ble_eq_true rfl)⟩) hS (fun q _ h => hF q h) hF (fun r8 u t H locs ht hvm hw hB _ _ hS => ?_)
      obtain rfl : r8 = q7.1 := hw
      replace hP : va_P (dC, dI) vwCl (wA a k q7.2) H := by rw [← ht]; exact hB.1
      replace hD := hD0 (q7.2)
      clear hB hF
      obtain ⟨q9, hc, h⟩ := ib h
      have hF := va_frees hD hS hA
      refine va_calli (va_runV (As := [.int q7.1]) (rest := [.ref (a 20)]) ⟨hx, hb, hml, hown, hts⟩ (s_X5_firstChoice_20 hc) (cwV 1 hts (gV mw_10_9 mw_6_15 mw_6_16 mw_0_9 mw_50_11) rfl rfl rfl (by decide +kernel) ⟨(Nat.le_of_ble_eq_true rfl), (Nat.le_of_ble_eq_true rfl)⟩) (vV (ci := 5) (q0 := 20) hK hP hD hN rfl gA_20) rfl rfl hl.1 rfl (lv_room (Nat.le_of_ble_eq_true rfl)) dX3_parseElse_56 ⟨(Nat.le_of_ble_eq_true rfl), (Nat.le_of_ble_eq_true rfl)⟩) hS (fun q _ h => hF q h) hF (fun r10 u t H locs ht hvm hw hB _ _ hS => ?_)
      obtain rfl : r10 = q9.1 := hw
      replace hP : va_P (dC, dI) vwCl (wA a k q9.2) H := by rw [← ht]; exact hB.1
      replace hD := hD0 (q9.2)
      clear hB hF
      obtain ⟨q11, hc, h⟩ := ib h
      have hF := va_frees hD hS hA
      refine va_calli (va_runV (As := [.int q9.1]) (rest := []) ⟨hx, hb, hml, hown, hts⟩ (s_X5_sortOf_20 hc) (cwV 1 hts (gV mw_9_28 mw_2_13 mw_2_14 mw_0_9 mw_50_6) rfl rfl rfl (by decide +kernel) ⟨(Nat.le_of_ble_eq_true rfl), (Nat.le_of_ble_eq_true rfl)⟩) (vV (ci := 5) (q0 := 20) hK hP hD hN rfl gA_20) rfl rfl hl.1 rfl (lv_room (Nat.le_of_ble_eq_true rfl)) dX3_parseElse_59 ⟨(Nat.le_of_ble_eq_true rfl), (Nat.le_of_ble_eq_true rfl)⟩) hS (fun q _ h => hF q h) hF (fun r12 u t H locs ht hvm hw hB _ _ hS => ?_)
      obtain rfl : r12 = q11.1 := hw
      replace hP : va_P (dC, dI) vwCl (wA a k q11.2) H := by rw [← ht]; exact hB.1
      replace hD := hD0 (q11.2)
      clear hB hF
      refine lv_istore_n (lv' := [(3, .int q11.1), (0, .ref (a 36)), (1, .int p0), (2, .int p1)]) hx hb dX3_parseElse_62 rfl hl (by decide) rfl (fun ls hl => ?_)
      refine lv_aload_n hx hb dX3_parseElse_63 rfl (lv_at hl 1 rfl) ?_
      refine va_get (D := (dC, dI)) (ci := 3) (C := RX3) (T := TX3) (N := 2) hx hb hts inlX3 hown hK hP 36 gA_36 rfl 0 (by decide) (hts (.fieldLink RX3 9 "ShapeReader$PlanText" "tokens" "LShapeReader$Tokens;") mw_7_1) (fun _ h9 => h9) rfl dX3_parseElse_64 ?_
      refine lv_iload_n hx hb dX3_parseElse_67 rfl (lv_at hl 0 rfl) ?_
      obtain ⟨q13, hc, h⟩ := ib h
      have hF := va_frees hD hS hA
      refine va_calli (va_runV (As := [.int q11.1]) (rest := []) ⟨hx, hb, hml, hown, hts⟩ (s_X6_fits hc) (cwV 1 hts (gV mw_10_10 mw_10_11 mw_10_12 mw_0_10 mw_51_18) rfl rfl rfl (by decide +kernel) ⟨(Nat.le_of_ble_eq_true rfl), (Nat.le_of_ble_eq_true rfl)⟩) (vV (ci := 6) (q0 := 2) hK hP hD hN rfl gA_2) rfl rfl hl.1 rfl (lv_room (Nat.le_of_ble_eq_true rfl)) dX3_parseElse_68 ⟨(Nat.le_of_ble_eq_true rfl), (Nat.le_of_ble_eq_true rfl)⟩) hS (fun q _ h => hF q h) hF (fun r14 u t H locs ht hvm hw hB _ _ hS => ?_)
      obtain rfl : r14 = q13.1 := hw
      replace hP : va_P (dC, dI) vwCl (wA a k q13.2) H := by rw [← ht]; exact hB.1
      replace hD := hD0 (q13.2)
      clear hB hF
      refine lv_if_ne (tgt := 83) hx hb dX3_parseElse_71 (by decide) (fun hc => ?_) (fun hc => ?_)
      · replace h := iq hc h
        refine lv_aload_n hx hb dX3_parseElse_83 rfl (lv_at hl 1 rfl) ?_
        refine va_get (D := (dC, dI)) (ci := 3) (C := RX3) (T := TX3) (N := 2) hx hb hts inlX3 hown hK hP 36 gA_36 rfl 1 (by decide) (hts (.fieldLink RX3 15 "ShapeReader$PlanText" "draft" "LShapeReader$Shapes;") mw_7_2) (fun _ h9 => h9) rfl dX3_parseElse_84 ?_
        refine lv_iload_n hx hb dX3_parseElse_87 rfl (lv_at hl 2 rfl) ?_
        refine lv_iload_n hx hb dX3_parseElse_88 rfl (lv_at hl 3 rfl) ?_
        refine lv_aload_n hx hb dX3_parseElse_89 rfl (lv_at hl 1 rfl) ?_
        refine va_get (D := (dC, dI)) (ci := 3) (C := RX3) (T := TX3) (N := 2) hx hb hts inlX3 hown hK hP 36 gA_36 rfl 0 (by decide) (hts (.fieldLink RX3 9 "ShapeReader$PlanText" "tokens" "LShapeReader$Tokens;") mw_7_1) (fun _ h9 => h9) rfl dX3_parseElse_90 ?_
        refine lv_iload_n hx hb dX3_parseElse_93 rfl (lv_at hl 0 rfl) ?_
        obtain ⟨q15, hc, h⟩ := ib h
        have hF := va_frees hD hS hA
        refine va_calll (va_runV (As := [.int q11.1]) (rest := [.int p1, .int p0, .ref (a 20)]) ⟨hx, hb, hml, hown, hts⟩ (s_X6_worth hc) (cwV 1 hts (gV mw_10_13 mw_10_14 mw_10_15 mw_0_10 mw_51_20) rfl rfl rfl (by decide +kernel) ⟨(Nat.le_of_ble_eq_true rfl), (Nat.le_of_ble_eq_true rfl)⟩) (vV (ci := 6) (q0 := 2) hK hP hD hN rfl gA_2) rfl rfl hl.1 rfl (lv_room (Nat.le_of_ble_eq_true rfl)) dX3_parseElse_94 ⟨(Nat.le_of_ble_eq_true rfl), (Nat.le_of_ble_eq_true rfl)⟩) hS (fun q _ h => hF q h) hF (fun r16 u t H locs ht hvm hw hB _ _ hS => ?_)
        obtain rfl : r16 = q15.1 := hw
        replace hP : va_P (dC, dI) vwCl (wA a k q15.2) H := by rw [← ht]; exact hB.1
        replace hD := hD0 (q15.2)
        clear hB hF
        obtain ⟨q17, hc, h⟩ := ib h
        have hF := va_frees hD hS hA
        refine va_callv (va_runV (As := [.int p0, .int p1, .long q15.1]) (rest := []) ⟨hx, hb, hml, hown, hts⟩ (s_X5_setElse_20 hc) (cwV 3 hts (gV mw_10_16 mw_10_17 mw_10_18 mw_0_9 mw_50_22) rfl rfl rfl (by decide +kernel) ⟨(Nat.le_of_ble_eq_true rfl), (Nat.le_of_ble_eq_true rfl)⟩) (vV (ci := 5) (q0 := 20) hK hP hD hN rfl gA_20) rfl rfl hl.1 rfl (lv_room (Nat.le_of_ble_eq_true rfl)) dX3_parseElse_97 ⟨(Nat.le_of_ble_eq_true rfl), (Nat.le_of_ble_eq_true rfl)⟩) hS (fun q _ h => hF q h) hF (fun u t H locs ht hvm hw hB _ _ hS => ?_)
        replace hP : va_P (dC, dI) vwCl (wA a k q17) H := by rw [← ht]; exact hB.1
        replace hD := hD0 (q17)
        clear hB hF
        refine lv_aload_n hx hb dX3_parseElse_100 rfl (lv_at hl 1 rfl) ?_
        refine va_get (D := (dC, dI)) (ci := 3) (C := RX3) (T := TX3) (N := 2) hx hb hts inlX3 hown hK hP 36 gA_36 rfl 0 (by decide) (hts (.fieldLink RX3 9 "ShapeReader$PlanText" "tokens" "LShapeReader$Tokens;") mw_7_1) (fun _ h9 => h9) rfl dX3_parseElse_101 ?_
        obtain ⟨q19, hc, h⟩ := ib h
        have hF := va_frees hD hS hA
        refine va_callv (va_runV (As := []) (rest := []) ⟨hx, hb, hml, hown, hts⟩ (s_X6_advance hc) (cwV 0 hts (gV mw_8_5 mw_8_6 mw_8_7 mw_0_10 mw_51_8) rfl rfl rfl (by decide +kernel) ⟨(Nat.le_of_ble_eq_true rfl), (Nat.le_of_ble_eq_true rfl)⟩) (vV (ci := 6) (q0 := 2) hK hP hD hN rfl gA_2) rfl rfl hl.1 rfl (lv_room (Nat.le_of_ble_eq_true rfl)) dX3_parseElse_104 ⟨(Nat.le_of_ble_eq_true rfl), (Nat.le_of_ble_eq_true rfl)⟩) hS (fun q _ h => hF q h) hF (fun u t H locs ht hvm hw hB _ _ hS => ?_)
        replace hP : va_P (dC, dI) vwCl (wA a k q19) H := by rw [← ht]; exact hB.1
        replace hD := hD0 (q19)
        clear hB hF
        refine lv_iload_n hx hb dX3_parseElse_107 rfl (lv_at hl 0 rfl) ?_
        refine lv_bipush (v := 6) hx hb dX3_parseElse_108 (by decide) ?_
        refine lv_icmp_ne (tgt := 141) hx hb dX3_parseElse_110 (by decide) (fun hc => ?_) (fun hc => ?_)
        · replace h := iq hc h
          refine lv_iconst (v := 1) hx hb dX3_parseElse_141 (by decide) ?_
          obtain rfl := Option.some.inj h
          exact W.zret hx hb hr rfl (fun t ht hW => ⟨⟨_, (), rfl, rfl, ⟨by rw [ht]; exact hP, va_K.moved hW.alike hK, hD⟩⟩, hS.F ht⟩) hS.2.2 dX3_parseElse_142
        · replace h := ip hc h
          refine lv_aload_n hx hb dX3_parseElse_113 rfl (lv_at hl 1 rfl) ?_
          refine va_get (D := (dC, dI)) (ci := 3) (C := RX3) (T := TX3) (N := 2) hx hb hts inlX3 hown hK hP 36 gA_36 rfl 0 (by decide) (hts (.fieldLink RX3 9 "ShapeReader$PlanText" "tokens" "LShapeReader$Tokens;") mw_7_1) (fun _ h9 => h9) rfl dX3_parseElse_114 ?_
          refine va_get (D := (dC, dI)) (ci := 6) (C := RX6) (T := TX6) (N := 14) hx hb hts inlX6 hown hK hP 2 gA_2 rfl 4 (by decide) (hts (.fieldLink RX3 37 "ShapeReader$Tokens" "kind" "I") mw_7_13) (fun _ h9 => h9) rfl dX3_parseElse_117 ?_
          refine lv_bipush (v := 93) hx hb dX3_parseElse_120 (by decide) ?_
          refine lv_icmp_eq (tgt := 134) hx hb dX3_parseElse_122 (by decide) (fun hc => ?_) (fun hc => ?_)
          · replace h := ip hc h
            refine lv_aload_n hx hb dX3_parseElse_134 rfl (lv_at hl 1 rfl) ?_
            refine va_get (D := (dC, dI)) (ci := 3) (C := RX3) (T := TX3) (N := 2) hx hb hts inlX3 hown hK hP 36 gA_36 rfl 0 (by decide) (hts (.fieldLink RX3 9 "ShapeReader$PlanText" "tokens" "LShapeReader$Tokens;") mw_7_1) (fun _ h9 => h9) rfl dX3_parseElse_135 ?_
            obtain ⟨q21, hc, h⟩ := ib h
            have hF := va_frees hD hS hA
            refine va_callv (va_runV (As := []) (rest := []) ⟨hx, hb, hml, hown, hts⟩ (s_X6_advance hc) (cwV 0 hts (gV mw_8_5 mw_8_6 mw_8_7 mw_0_10 mw_51_8) rfl rfl rfl (by decide +kernel) ⟨(Nat.le_of_ble_eq_true rfl), (Nat.le_of_ble_eq_true rfl)⟩) (vV (ci := 6) (q0 := 2) hK hP hD hN rfl gA_2) rfl rfl hl.1 rfl (lv_room (Nat.le_of_ble_eq_true rfl)) dX3_parseElse_138 ⟨(Nat.le_of_ble_eq_true rfl), (Nat.le_of_ble_eq_true rfl)⟩) hS (fun q _ h => hF q h) hF (fun u t H locs ht hvm hw hB _ _ hS => ?_)
            replace hP : va_P (dC, dI) vwCl (wA a k q21) H := by rw [← ht]; exact hB.1
            replace hD := hD0 (q21)
            clear hB hF
            refine lv_iconst (v := 1) hx hb dX3_parseElse_141 (by decide) ?_
            obtain rfl := Option.some.inj h
            exact W.zret hx hb hr rfl (fun t ht hW => ⟨⟨_, (), rfl, rfl, ⟨by rw [ht]; exact hP, va_K.moved hW.alike hK, hD⟩⟩, hS.F ht⟩) hS.2.2 dX3_parseElse_142
          · replace h := iq hc h
            refine lv_aload_n hx hb dX3_parseElse_125 rfl (lv_at hl 1 rfl) ?_
            refine va_get (D := (dC, dI)) (ci := 3) (C := RX3) (T := TX3) (N := 2) hx hb hts inlX3 hown hK hP 36 gA_36 rfl 0 (by decide) (hts (.fieldLink RX3 9 "ShapeReader$PlanText" "tokens" "LShapeReader$Tokens;") mw_7_1) (fun _ h9 => h9) rfl dX3_parseElse_126 ?_
            refine lv_iconst (v := 1) hx hb dX3_parseElse_129 (by decide) ?_
            obtain ⟨q23, hc, h⟩ := ib h
            have hF := va_frees hD hS hA
            refine va_calli (va_runV (As := [.int 1]) (rest := []) ⟨hx, hb, hml, hown, hts⟩ (s_X6_refuse hc) (cwV 1 hts (gV mw_7_14 mw_7_15 mw_7_16 mw_0_10 mw_51_4) rfl rfl rfl (by decide +kernel) ⟨(Nat.le_of_ble_eq_true rfl), (Nat.le_of_ble_eq_true rfl)⟩) (vV (ci := 6) (q0 := 2) hK hP hD hN rfl gA_2) rfl rfl hl.1 rfl (lv_room (Nat.le_of_ble_eq_true rfl)) dX3_parseElse_130 ⟨(Nat.le_of_ble_eq_true rfl), (Nat.le_of_ble_eq_true rfl)⟩) hS (fun q _ h => hF q h) hF (fun r24 u t H locs ht hvm hw hB _ _ hS => ?_)
            obtain rfl : r24 = q23.1 := hw
            replace hP : va_P (dC, dI) vwCl (wA a k q23.2) H := by rw [← ht]; exact hB.1
            replace hD := hD0 (q23.2)
            clear hB hF
            obtain ⟨hg, h⟩ := ig h
            obtain rfl := Option.some.inj h
            exact W.zret hx hb hr (zn hg) (fun t ht hW => ⟨⟨_, (), rfl, rfl, ⟨by rw [ht]; exact hP, va_K.moved hW.alike hK, hD⟩⟩, hS.F ht⟩) hS.2.2 dX3_parseElse_133
      · replace h := ip hc h
        refine lv_aload_n hx hb dX3_parseElse_74 rfl (lv_at hl 1 rfl) ?_
        refine va_get (D := (dC, dI)) (ci := 3) (C := RX3) (T := TX3) (N := 2) hx hb hts inlX3 hown hK hP 36 gA_36 rfl 0 (by decide) (hts (.fieldLink RX3 9 "ShapeReader$PlanText" "tokens" "LShapeReader$Tokens;") mw_7_1) (fun _ h9 => h9) rfl dX3_parseElse_75 ?_
        refine lv_iconst (v := 2) hx hb dX3_parseElse_78 (by decide) ?_
        obtain ⟨q25, hc, h⟩ := ib h
        have hF := va_frees hD hS hA
        refine va_calli (va_runV (As := [.int 2]) (rest := []) ⟨hx, hb, hml, hown, hts⟩ (s_X6_refuse hc) (cwV 1 hts (gV mw_7_14 mw_7_15 mw_7_16 mw_0_10 mw_51_4) rfl rfl rfl (by decide +kernel) ⟨(Nat.le_of_ble_eq_true rfl), (Nat.le_of_ble_eq_true rfl)⟩) (vV (ci := 6) (q0 := 2) hK hP hD hN rfl gA_2) rfl rfl hl.1 rfl (lv_room (Nat.le_of_ble_eq_true rfl)) dX3_parseElse_79 ⟨(Nat.le_of_ble_eq_true rfl), (Nat.le_of_ble_eq_true rfl)⟩) hS (fun q _ h => hF q h) hF (fun r26 u t H locs ht hvm hw hB _ _ hS => ?_)
        obtain rfl : r26 = q25.1 := hw
        replace hP : va_P (dC, dI) vwCl (wA a k q25.2) H := by rw [← ht]; exact hB.1
        replace hD := hD0 (q25.2)
        clear hB hF
        obtain ⟨hg, h⟩ := ig h
        obtain rfl := Option.some.inj h
        exact W.zret hx hb hr (zn hg) (fun t ht hW => ⟨⟨_, (), rfl, rfl, ⟨by rw [ht]; exact hP, va_K.moved hW.alike hK, hD⟩⟩, hS.F ht⟩) hS.2.2 dX3_parseElse_82
    · replace h := ip hc h
      refine lv_aload_n hx hb dX3_parseElse_30 rfl (lv_at hl 0 rfl) ?_
      refine va_get (D := (dC, dI)) (ci := 3) (C := RX3) (T := TX3) (N := 2) hx hb hts inlX3 hown hK hP 36 gA_36 rfl 0 (by decide) (hts (.fieldLink RX3 9 "ShapeReader$PlanText" "tokens" "LShapeReader$Tokens;") mw_7_1) (fun _ h9 => h9) rfl dX3_parseElse_31 ?_
      refine lv_iconst (v := 1) hx hb dX3_parseElse_34 (by decide) ?_
      obtain ⟨q27, hc, h⟩ := ib h
      have hF := va_frees hD hS hA
      refine va_calli (va_runV (As := [.int 1]) (rest := []) ⟨hx, hb, hml, hown, hts⟩ (s_X6_refuse hc) (cwV 1 hts (gV mw_7_14 mw_7_15 mw_7_16 mw_0_10 mw_51_4) rfl rfl rfl (by decide +kernel) ⟨(Nat.le_of_ble_eq_true rfl), (Nat.le_of_ble_eq_true rfl)⟩) (vV (ci := 6) (q0 := 2) hK hP hD hN rfl gA_2) rfl rfl hl.1 rfl (lv_room (Nat.le_of_ble_eq_true rfl)) dX3_parseElse_35 ⟨(Nat.le_of_ble_eq_true rfl), (Nat.le_of_ble_eq_true rfl)⟩) hS (fun q _ h => hF q h) hF (fun r28 u t H locs ht hvm hw hB _ _ hS => ?_)
      obtain rfl : r28 = q27.1 := hw
      replace hP : va_P (dC, dI) vwCl (wA a k q27.2) H := by rw [← ht]; exact hB.1
      replace hD := hD0 (q27.2)
      clear hB hF
      obtain ⟨hg, h⟩ := ig h
      obtain rfl := Option.some.inj h
      exact W.zret hx hb hr (zn hg) (fun t ht hW => ⟨⟨_, (), rfl, rfl, ⟨by rw [ht]; exact hP, va_K.moved hW.alike hK, hD⟩⟩, hS.F ht⟩) hS.2.2 dX3_parseElse_38
  · replace h := ip hc h
    refine lv_iconst (v := 1) hx hb dX3_parseElse_11 (by decide) ?_
    obtain rfl := Option.some.inj h
    exact W.zret hx hb hr rfl (fun t ht hW => ⟨⟨_, (), rfl, rfl, ⟨by rw [ht]; exact hP, va_K.moved hW.alike hK, hD⟩⟩, hS.F ht⟩) hS.2.2 dX3_parseElse_12

theorem s_X3_parseElse {l : Launch} {dC : Nat → ClassId} {dI : Nat → Nat → Nat} {a : Nat → Nat} {k : Nat → ClassId} {sz : Nat} {p0 : Int32} {p1 : Int32} {σ : ST} {q : Int32 × ST} (h : f_X3_parseElse  p0 p1 σ = some q) : Met l yX3_parseElse (.code yX3_parseElse cX3_parseElse 4 (some .boolean) :: pw) ({ frames := 3, cells := 0, slots := 0, locals := 68 } : Room) (va_Pc [.ref (a 36), .int p0, .int p1] (vPre dC dI (wA a k σ) (tA k) sz)) (qAi dC dI a k (va_A (wA a k σ) sz) q) 0 0 (va_A (wA a k σ) sz) := metA (fun A => qAi dC dI a k A q) (plainFor_of_name (by decide)) (Nat.le_of_ble_eq_true rfl) (fun _ _ _ _ _ _ _ _ hC => b_X3_parseElse_e hC h)

def f_X5_setFormerName (b : Nat) (p0 : Int32) (p1 : Int32) (p2 : Int64) (σ : ST) : Option (ST) := (f_X5_isFieldOf  p0 p1 σ).bind fun q1 => if q1.1 = 0 then (some q1.2) else (if 0 ≤ ((p0 * 8) + p1).toInt ∧ ((p0 * 8) + p1).toInt < 288 then (some (stL q1.2 (b + 8) ((p0 * 8) + p1).toNatClampNeg p2)) else none)

set_option maxRecDepth 100000 in
set_option maxHeartbeats 4000000 in
theorem b_X5_setFormerName_e_20 {p : Program} {l : Launch} {e : Env} {s : State} {m : MethodId} {args : Array Value} {below : List Frame} {meth : Method} {c : Code} {dC : Nat → ClassId} {dI : Nat → Nat → Nat} {a : Nat → Nat} {k : Nat → ClassId} {A : Nat → Prop} {q : ST} (hC : CxA p s m args meth c dC dI k A cX5_setFormerName RX5 none 5)   {p0 : Int32} {p1 : Int32} {p2 : Int64} {σ : ST} (h : f_X5_setFormerName 20 p0 p1 p2 σ = some q) : GoA p l e ({ frames := 1, cells := 0, slots := 0, locals := 21 } : Room) s m args below meth c (MQ below (qAv dC dI a k A q) args s 0 0 A) dC dI a k A 5 0 σ (lv_args 0 [.ref (a 20), .int p0, .int p1, .long p2]) [] := by
  have hC0 := hC
  obtain ⟨hx, hb, hr, hml, hown, hts, hlocks, hA, hN, hK⟩ := hC0
  intro H locs ls hP hD hS hl
  have hD0 : ∀ σ1 : ST, va_D A (wA a k σ1) := fun σ1 => wA_D hD
  replace hl : lv_has ls 5 [(0, .ref (a 20)), (1, .int p0), (2, .int p1), (3, .long p2)] := hl
  unfold f_X5_setFormerName at h
  refine lv_iload_n hx hb dX5_setFormerName_0 rfl (lv_at hl 1 rfl) ?_
  refine lv_iload_n hx hb dX5_setFormerName_1 rfl (lv_at hl 2 rfl) ?_
  obtain ⟨q1, hc, h⟩ := ib h
  have hF := va_frees hD hS hA
  refine va_calli (va_runS (As := [.int p0, .int p1]) (rest := []) ⟨hx, hb, hml, hown, hts⟩ (s_X5_isFieldOf hc) (va_cwS 2 hts (gS mw_15_7 mw_15_8 mw_0_9 mw_49_25) rfl rfl rfl (by decide +kernel) ⟨(Nat.le_of_ble_eq_true rfl), (Nat.le_of_ble_eq_true rfl)⟩) (vS hK hP hD hN) rfl rfl hl.1 rfl (lv_room (Nat.le_of_ble_eq_true rfl)) dX5_setFormerName_2 ⟨(Nat.le_of_ble_eq_true rfl), (Nat.le_of_ble_eq_true rfl)⟩) hS (fun q _ h => hF q h) hF (fun r2 u t H locs ht hvm hw hB _ _ hS => ?_)
  obtain rfl : r2 = q1.1 := hw
  replace hP : va_P (dC, dI) vwCl (wA a k q1.2) H := by rw [← ht]; exact hB.1
  replace hD := hD0 (q1.2)
  clear hB hF
  refine lv_if_eq (tgt := 20) hx hb dX5_setFormerName_5 (by decide) (fun hc => ?_) (fun hc => ?_)
  · replace h := ip hc h
    obtain rfl := Option.some.inj h
    exact W.vret hx hb hr (fun t ht hW => ⟨⟨(), rfl, trivial, ⟨by rw [ht]; exact hP, va_K.moved hW.alike hK, hD⟩⟩, hS.F ht⟩) hS.2.2 dX5_setFormerName_20
  · replace h := iq hc h
    refine lv_aload_n hx hb dX5_setFormerName_8 rfl (lv_at hl 0 rfl) ?_
    refine va_get (D := (dC, dI)) (ci := 5) (C := RX5) (T := TX5) (N := 17) hx hb hts inlX5 hown hK hP 20 gA_20 rfl 9 (by decide) (hts (.fieldLink RX5 41 "ShapeReader$Shapes" "formerNames" "[J") mw_14_26) (fun _ h9 => h9) rfl dX5_setFormerName_9 ?_
    refine lv_iload_n hx hb dX5_setFormerName_12 rfl (lv_at hl 1 rfl) ?_
    refine lv_bipush (v := 8) hx hb dX5_setFormerName_13 (by decide) ?_
    refine lv_imul hx hb dX5_setFormerName_15 ?_
    refine lv_iload_n hx hb dX5_setFormerName_16 rfl (lv_at hl 2 rfl) ?_
    refine lv_iadd hx hb dX5_setFormerName_17 ?_
    refine lv_lload_n hx hb dX5_setFormerName_18 rfl (lv_at hl 3 rfl) ?_
    obtain ⟨hg3, h⟩ := ig h
    refine va_last hx hb hK hP hD hS 28 24 gA_28 yA_28 (vp_in_iff.mpr hg3) dX5_setFormerName_19 (fun H locs hP hD hS => ?_)
    replace hP := uA_28 hP
    replace hD := hD0 ((stL q1.2 28 ((p0 * 8) + p1).toNatClampNeg p2))
    obtain rfl := Option.some.inj h
    exact W.vret hx hb hr (fun t ht hW => ⟨⟨(), rfl, trivial, ⟨by rw [ht]; exact hP, va_K.moved hW.alike hK, hD⟩⟩, hS.F ht⟩) hS.2.2 dX5_setFormerName_20

theorem s_X5_setFormerName_20 {l : Launch} {dC : Nat → ClassId} {dI : Nat → Nat → Nat} {a : Nat → Nat} {k : Nat → ClassId} {sz : Nat} {p0 : Int32} {p1 : Int32} {p2 : Int64} {σ : ST} {q : ST} (h : f_X5_setFormerName 20 p0 p1 p2 σ = some q) : Met l yX5_setFormerName (.code yX5_setFormerName cX5_setFormerName 5 none :: pw) ({ frames := 1, cells := 0, slots := 0, locals := 21 } : Room) (va_Pc [.ref (a 20), .int p0, .int p1, .long p2] (vPre dC dI (wA a k σ) (tA k) sz)) (qAv dC dI a k (va_A (wA a k σ) sz) q) 0 0 (va_A (wA a k σ) sz) := metA (fun A => qAv dC dI a k A q) (plainFor_of_name (by decide)) (Nat.le_of_ble_eq_true rfl) (fun _ _ _ _ _ _ _ _ hC => b_X5_setFormerName_e_20 hC h)
