theorem dX11_moved_0 : decode cX11_moved 0 = .ok (.iload_n 0, 1) := by decide +kernel
theorem dX11_moved_1 : decode cX11_moved 1 = .ok (.ifCond .ge 7, 3) := by decide +kernel
theorem dX11_moved_4 : decode cX11_moved 4 = .ok (.iload_n 0, 1) := by decide +kernel
theorem dX11_moved_5 : decode cX11_moved 5 = .ok (.goto 8, 3) := by decide +kernel
theorem dX11_moved_8 : decode cX11_moved 8 = .ok (.iload_n 0, 1) := by decide +kernel
theorem dX11_moved_9 : decode cX11_moved 9 = .ok (.sipush 400, 3) := by decide +kernel
theorem dX11_moved_12 : decode cX11_moved 12 = .ok (.isub, 1) := by decide +kernel
theorem dX11_moved_13 : decode cX11_moved 13 = .ok (.ireturn, 1) := by decide +kernel
theorem dX11_node_0 : decode cX11_node 0 = .ok (.aload_n 0, 1) := by decide +kernel
theorem dX11_node_1 : decode cX11_node 1 = .ok (.iload_n 1, 1) := by decide +kernel
theorem dX11_node_2 : decode cX11_node 2 = .ok (.i2l, 1) := by decide +kernel
theorem dX11_node_3 : decode cX11_node 3 = .ok (.lconst 0, 1) := by decide +kernel
theorem dX11_node_4 : decode cX11_node 4 = .ok (.aload_n 0, 1) := by decide +kernel
theorem dX11_node_5 : decode cX11_node 5 = .ok (.getfield 392, 3) := by decide +kernel
theorem dX11_node_8 : decode cX11_node 8 = .ok (.iconst 1, 1) := by decide +kernel
theorem dX11_node_9 : decode cX11_node 9 = .ok (.isub, 1) := by decide +kernel
theorem dX11_node_10 : decode cX11_node 10 = .ok (.i2l, 1) := by decide +kernel
theorem dX11_node_11 : decode cX11_node 11 = .ok (.invokestatic 196, 3) := by decide +kernel
theorem dX11_node_14 : decode cX11_node 14 = .ok (.ifCond .eq 19, 3) := by decide +kernel
theorem dX11_node_17 : decode cX11_node 17 = .ok (.iload_n 2, 1) := by decide +kernel
theorem dX11_node_18 : decode cX11_node 18 = .ok (.i2l, 1) := by decide +kernel
theorem dX11_node_19 : decode cX11_node 19 = .ok (.lconst 0, 1) := by decide +kernel
theorem dX11_node_20 : decode cX11_node 20 = .ok (.ldc2_w 627, 3) := by decide +kernel
theorem dX11_node_23 : decode cX11_node 23 = .ok (.invokestatic 196, 3) := by decide +kernel
theorem dX11_node_26 : decode cX11_node 26 = .ok (.ifCond .eq 7, 3) := by decide +kernel
theorem dX11_node_29 : decode cX11_node 29 = .ok (.iconst 0, 1) := by decide +kernel
theorem dX11_node_30 : decode cX11_node 30 = .ok (.goto 4, 3) := by decide +kernel
theorem dX11_node_33 : decode cX11_node 33 = .ok (.iconst 1, 1) := by decide +kernel
theorem dX11_node_34 : decode cX11_node 34 = .ok (.putfield 178, 3) := by decide +kernel
theorem dX11_node_37 : decode cX11_node 37 = .ok (.aload_n 0, 1) := by decide +kernel
theorem dX11_node_38 : decode cX11_node 38 = .ok (.getfield 178, 3) := by decide +kernel
theorem dX11_node_41 : decode cX11_node 41 = .ok (.ifCond .le 5, 3) := by decide +kernel
theorem dX11_node_44 : decode cX11_node 44 = .ok (.iconst 0, 1) := by decide +kernel
theorem dX11_node_45 : decode cX11_node 45 = .ok (.ireturn, 1) := by decide +kernel
theorem dX11_node_46 : decode cX11_node 46 = .ok (.iload_n 2, 1) := by decide +kernel
theorem dX11_node_47 : decode cX11_node 47 = .ok (.tableswitch 57 0 3 #[29, 36, 43, 50], 29) := by decide +kernel
theorem dX11_node_76 : decode cX11_node 76 = .ok (.aload_n 0, 1) := by decide +kernel
theorem dX11_node_77 : decode cX11_node 77 = .ok (.getfield 136, 3) := by decide +kernel
theorem dX11_node_80 : decode cX11_node 80 = .ok (.iload_n 1, 1) := by decide +kernel
theorem dX11_node_81 : decode cX11_node 81 = .ok (.iaload, 1) := by decide +kernel
theorem dX11_node_82 : decode cX11_node 82 = .ok (.ireturn, 1) := by decide +kernel
theorem dX11_node_83 : decode cX11_node 83 = .ok (.aload_n 0, 1) := by decide +kernel
theorem dX11_node_84 : decode cX11_node 84 = .ok (.getfield 139, 3) := by decide +kernel
theorem dX11_node_87 : decode cX11_node 87 = .ok (.iload_n 1, 1) := by decide +kernel
theorem dX11_node_88 : decode cX11_node 88 = .ok (.iaload, 1) := by decide +kernel
theorem dX11_node_89 : decode cX11_node 89 = .ok (.ireturn, 1) := by decide +kernel
theorem dX11_node_90 : decode cX11_node 90 = .ok (.aload_n 0, 1) := by decide +kernel
theorem dX11_node_91 : decode cX11_node 91 = .ok (.getfield 142, 3) := by decide +kernel
theorem dX11_node_94 : decode cX11_node 94 = .ok (.iload_n 1, 1) := by decide +kernel
theorem dX11_node_95 : decode cX11_node 95 = .ok (.iaload, 1) := by decide +kernel
theorem dX11_node_96 : decode cX11_node 96 = .ok (.ireturn, 1) := by decide +kernel
theorem dX11_node_97 : decode cX11_node 97 = .ok (.aload_n 0, 1) := by decide +kernel
theorem dX11_node_98 : decode cX11_node 98 = .ok (.getfield 145, 3) := by decide +kernel
theorem dX11_node_101 : decode cX11_node 101 = .ok (.iload_n 1, 1) := by decide +kernel
theorem dX11_node_102 : decode cX11_node 102 = .ok (.iaload, 1) := by decide +kernel
theorem dX11_node_103 : decode cX11_node 103 = .ok (.ireturn, 1) := by decide +kernel
theorem dX11_node_104 : decode cX11_node 104 = .ok (.aload_n 0, 1) := by decide +kernel
theorem dX11_node_105 : decode cX11_node 105 = .ok (.getfield 148, 3) := by decide +kernel
theorem dX11_node_108 : decode cX11_node 108 = .ok (.iload_n 1, 1) := by decide +kernel
theorem dX11_node_109 : decode cX11_node 109 = .ok (.baload, 1) := by decide +kernel
theorem dX11_node_110 : decode cX11_node 110 = .ok (.ifCond .eq 7, 3) := by decide +kernel
theorem dX11_node_113 : decode cX11_node 113 = .ok (.iconst 1, 1) := by decide +kernel
theorem dX11_node_114 : decode cX11_node 114 = .ok (.goto 4, 3) := by decide +kernel
theorem dX11_node_117 : decode cX11_node 117 = .ok (.iconst 0, 1) := by decide +kernel
theorem dX11_node_118 : decode cX11_node 118 = .ok (.ireturn, 1) := by decide +kernel
theorem dX11_plan_0 : decode cX11_plan 0 = .ok (.aload_n 0, 1) := by decide +kernel
theorem dX11_plan_1 : decode cX11_plan 1 = .ok (.invokevirtual 290, 3) := by decide +kernel
theorem dX11_plan_4 : decode cX11_plan 4 = .ok (.ifCond .ne 9, 3) := by decide +kernel
theorem dX11_plan_7 : decode cX11_plan 7 = .ok (.aload_n 0, 1) := by decide +kernel
theorem dX11_plan_8 : decode cX11_plan 8 = .ok (.iconst 1, 1) := by decide +kernel
theorem dX11_plan_9 : decode cX11_plan 9 = .ok (.invokevirtual 272, 3) := by decide +kernel
theorem dX11_plan_12 : decode cX11_plan 12 = .ok (.ireturn, 1) := by decide +kernel
theorem dX11_plan_13 : decode cX11_plan 13 = .ok (.aload_n 0, 1) := by decide +kernel
theorem dX11_plan_14 : decode cX11_plan 14 = .ok (.getfield 368, 3) := by decide +kernel
theorem dX11_plan_17 : decode cX11_plan 17 = .ok (.bipush 6, 2) := by decide +kernel
theorem dX11_plan_19 : decode cX11_plan 19 = .ok (.if_icmp .ne 9, 3) := by decide +kernel
theorem dX11_plan_22 : decode cX11_plan 22 = .ok (.aload_n 0, 1) := by decide +kernel
theorem dX11_plan_23 : decode cX11_plan 23 = .ok (.iconst 4, 1) := by decide +kernel
theorem dX11_plan_24 : decode cX11_plan 24 = .ok (.invokevirtual 272, 3) := by decide +kernel
theorem dX11_plan_27 : decode cX11_plan 27 = .ok (.ireturn, 1) := by decide +kernel
theorem dX11_plan_28 : decode cX11_plan 28 = .ok (.bipush 6, 2) := by decide +kernel
theorem dX11_plan_30 : decode cX11_plan 30 = .ok (.aload_n 0, 1) := by decide +kernel
theorem dX11_plan_31 : decode cX11_plan 31 = .ok (.getfield 368, 3) := by decide +kernel
theorem dX11_plan_34 : decode cX11_plan 34 = .ok (.iadd, 1) := by decide +kernel
theorem dX11_plan_35 : decode cX11_plan 35 = .ok (.istore_n 1, 1) := by decide +kernel
theorem dX11_plan_36 : decode cX11_plan 36 = .ok (.aload_n 0, 1) := by decide +kernel
theorem dX11_plan_37 : decode cX11_plan 37 = .ok (.getfield 318, 3) := by decide +kernel
theorem dX11_plan_40 : decode cX11_plan 40 = .ok (.istore_n 2, 1) := by decide +kernel
theorem dX11_plan_41 : decode cX11_plan 41 = .ok (.aload_n 0, 1) := by decide +kernel
theorem dX11_plan_42 : decode cX11_plan 42 = .ok (.getfield 33, 3) := by decide +kernel
theorem dX11_plan_45 : decode cX11_plan 45 = .ok (.iload_n 1, 1) := by decide +kernel
theorem dX11_plan_46 : decode cX11_plan 46 = .ok (.iconst 0, 1) := by decide +kernel
theorem dX11_plan_47 : decode cX11_plan 47 = .ok (.iastore, 1) := by decide +kernel
theorem dX11_plan_48 : decode cX11_plan 48 = .ok (.aload_n 0, 1) := by decide +kernel
theorem dX11_plan_49 : decode cX11_plan 49 = .ok (.invokevirtual 275, 3) := by decide +kernel
theorem dX11_plan_52 : decode cX11_plan 52 = .ok (.aload_n 0, 1) := by decide +kernel
theorem dX11_plan_53 : decode cX11_plan 53 = .ok (.bipush 59, 2) := by decide +kernel
theorem dX11_plan_55 : decode cX11_plan 55 = .ok (.invokevirtual 352, 3) := by decide +kernel
theorem dX11_plan_58 : decode cX11_plan 58 = .ok (.ifCond .eq 15, 3) := by decide +kernel
theorem dX11_plan_61 : decode cX11_plan 61 = .ok (.aload_n 0, 1) := by decide +kernel
theorem dX11_plan_62 : decode cX11_plan 62 = .ok (.iload_n 1, 1) := by decide +kernel
theorem dX11_plan_63 : decode cX11_plan 63 = .ok (.invokevirtual 371, 3) := by decide +kernel
theorem dX11_plan_66 : decode cX11_plan 66 = .ok (.ifCond .eq 7, 3) := by decide +kernel
theorem dX11_plan_69 : decode cX11_plan 69 = .ok (.iconst 1, 1) := by decide +kernel
theorem dX11_plan_70 : decode cX11_plan 70 = .ok (.goto 4, 3) := by decide +kernel
theorem dX11_plan_73 : decode cX11_plan 73 = .ok (.iconst 0, 1) := by decide +kernel
theorem dX11_plan_74 : decode cX11_plan 74 = .ok (.istore_n 3, 1) := by decide +kernel
theorem dX11_plan_75 : decode cX11_plan 75 = .ok (.iload_n 3, 1) := by decide +kernel
theorem dX11_plan_76 : decode cX11_plan 76 = .ok (.ifCond .eq 19, 3) := by decide +kernel
theorem dX11_plan_79 : decode cX11_plan 79 = .ok (.aload_n 0, 1) := by decide +kernel
theorem dX11_plan_80 : decode cX11_plan 80 = .ok (.invokevirtual 294, 3) := by decide +kernel
theorem dX11_plan_83 : decode cX11_plan 83 = .ok (.ifCond .eq 12, 3) := by decide +kernel
theorem dX11_plan_86 : decode cX11_plan 86 = .ok (.aload_n 0, 1) := by decide +kernel
theorem dX11_plan_87 : decode cX11_plan 87 = .ok (.iload_n 1, 1) := by decide +kernel
theorem dX11_plan_88 : decode cX11_plan 88 = .ok (.invokevirtual 371, 3) := by decide +kernel
theorem dX11_plan_91 : decode cX11_plan 91 = .ok (.istore_n 3, 1) := by decide +kernel
theorem dX11_plan_92 : decode cX11_plan 92 = .ok (.goto (-17), 3) := by decide +kernel
theorem dX11_plan_95 : decode cX11_plan 95 = .ok (.iload_n 3, 1) := by decide +kernel
theorem dX11_plan_96 : decode cX11_plan 96 = .ok (.ifCond .eq 23, 3) := by decide +kernel
theorem dX11_plan_99 : decode cX11_plan 99 = .ok (.aload_n 0, 1) := by decide +kernel
theorem dX11_plan_100 : decode cX11_plan 100 = .ok (.getfield 244, 3) := by decide +kernel
theorem dX11_plan_103 : decode cX11_plan 103 = .ok (.ifCond .eq 16, 3) := by decide +kernel
theorem dX11_plan_106 : decode cX11_plan 106 = .ok (.aload_n 0, 1) := by decide +kernel
theorem dX11_plan_107 : decode cX11_plan 107 = .ok (.invokevirtual 290, 3) := by decide +kernel
theorem dX11_plan_110 : decode cX11_plan 110 = .ok (.ifCond .ne 9, 3) := by decide +kernel
theorem dX11_plan_113 : decode cX11_plan 113 = .ok (.aload_n 0, 1) := by decide +kernel
theorem dX11_plan_114 : decode cX11_plan 114 = .ok (.iconst 1, 1) := by decide +kernel
theorem dX11_plan_115 : decode cX11_plan 115 = .ok (.invokevirtual 272, 3) := by decide +kernel
theorem dX11_plan_118 : decode cX11_plan 118 = .ok (.istore_n 3, 1) := by decide +kernel
theorem dX11_plan_119 : decode cX11_plan 119 = .ok (.aload_n 0, 1) := by decide +kernel
theorem dX11_plan_120 : decode cX11_plan 120 = .ok (.dup, 1) := by decide +kernel
theorem dX11_plan_121 : decode cX11_plan 121 = .ok (.getfield 368, 3) := by decide +kernel
theorem dX11_plan_124 : decode cX11_plan 124 = .ok (.iconst 1, 1) := by decide +kernel
theorem dX11_plan_125 : decode cX11_plan 125 = .ok (.iadd, 1) := by decide +kernel
theorem dX11_plan_126 : decode cX11_plan 126 = .ok (.putfield 368, 3) := by decide +kernel
theorem dX11_plan_129 : decode cX11_plan 129 = .ok (.iload_n 3, 1) := by decide +kernel
theorem dX11_plan_130 : decode cX11_plan 130 = .ok (.ifCond .eq 16, 3) := by decide +kernel
theorem dX11_plan_133 : decode cX11_plan 133 = .ok (.aload_n 0, 1) := by decide +kernel
theorem dX11_plan_134 : decode cX11_plan 134 = .ok (.iload_n 1, 1) := by decide +kernel
theorem dX11_plan_135 : decode cX11_plan 135 = .ok (.iload_n 2, 1) := by decide +kernel
theorem dX11_plan_136 : decode cX11_plan 136 = .ok (.invokevirtual 374, 3) := by decide +kernel
theorem dX11_plan_139 : decode cX11_plan 139 = .ok (.ifCond .eq 7, 3) := by decide +kernel
theorem dX11_plan_142 : decode cX11_plan 142 = .ok (.iconst 1, 1) := by decide +kernel
theorem dX11_plan_143 : decode cX11_plan 143 = .ok (.goto 4, 3) := by decide +kernel
theorem dX11_plan_146 : decode cX11_plan 146 = .ok (.iconst 0, 1) := by decide +kernel
theorem dX11_plan_147 : decode cX11_plan 147 = .ok (.ireturn, 1) := by decide +kernel
theorem dX11_plans_0 : decode cX11_plans 0 = .ok (.aload_n 0, 1) := by decide +kernel
theorem dX11_plans_1 : decode cX11_plans 1 = .ok (.iconst 0, 1) := by decide +kernel
theorem dX11_plans_2 : decode cX11_plans 2 = .ok (.putfield 178, 3) := by decide +kernel
theorem dX11_plans_5 : decode cX11_plans 5 = .ok (.iload_n 1, 1) := by decide +kernel
theorem dX11_plans_6 : decode cX11_plans 6 = .ok (.i2l, 1) := by decide +kernel
theorem dX11_plans_7 : decode cX11_plans 7 = .ok (.lconst 0, 1) := by decide +kernel
theorem dX11_plans_8 : decode cX11_plans 8 = .ok (.aload_n 0, 1) := by decide +kernel
theorem dX11_plans_9 : decode cX11_plans 9 = .ok (.getfield 182, 3) := by decide +kernel
theorem dX11_plans_12 : decode cX11_plans 12 = .ok (.i2l, 1) := by decide +kernel
theorem dX11_plans_13 : decode cX11_plans 13 = .ok (.invokestatic 196, 3) := by decide +kernel
theorem dX11_plans_16 : decode cX11_plans 16 = .ok (.ifCond .ne 5, 3) := by decide +kernel
theorem dX11_plans_19 : decode cX11_plans 19 = .ok (.iconst (-1), 1) := by decide +kernel
theorem dX11_plans_20 : decode cX11_plans 20 = .ok (.ireturn, 1) := by decide +kernel
theorem dX11_plans_21 : decode cX11_plans 21 = .ok (.aload_n 0, 1) := by decide +kernel
theorem dX11_plans_22 : decode cX11_plans 22 = .ok (.iload_n 1, 1) := by decide +kernel
theorem dX11_plans_23 : decode cX11_plans 23 = .ok (.invokevirtual 383, 3) := by decide +kernel
theorem dX11_plans_26 : decode cX11_plans 26 = .ok (.aload_n 0, 1) := by decide +kernel
theorem dX11_plans_27 : decode cX11_plans 27 = .ok (.iconst 0, 1) := by decide +kernel
theorem dX11_plans_28 : decode cX11_plans 28 = .ok (.putfield 368, 3) := by decide +kernel
theorem dX11_plans_31 : decode cX11_plans 31 = .ok (.aload_n 0, 1) := by decide +kernel
theorem dX11_plans_32 : decode cX11_plans 32 = .ok (.sipush 400, 3) := by decide +kernel
theorem dX11_plans_35 : decode cX11_plans 35 = .ok (.putfield 318, 3) := by decide +kernel
theorem dX11_plans_38 : decode cX11_plans 38 = .ok (.aload_n 0, 1) := by decide +kernel
theorem dX11_plans_39 : decode cX11_plans 39 = .ok (.invokevirtual 386, 3) := by decide +kernel
theorem dX11_plans_42 : decode cX11_plans 42 = .ok (.istore_n 2, 1) := by decide +kernel
theorem dX11_plans_43 : decode cX11_plans 43 = .ok (.iload_n 2, 1) := by decide +kernel
theorem dX11_plans_44 : decode cX11_plans 44 = .ok (.ifCond .eq 18, 3) := by decide +kernel
theorem dX11_plans_47 : decode cX11_plans 47 = .ok (.aload_n 0, 1) := by decide +kernel
theorem dX11_plans_48 : decode cX11_plans 48 = .ok (.getfield 244, 3) := by decide +kernel
theorem dX11_plans_51 : decode cX11_plans 51 = .ok (.ifCond .eq 11, 3) := by decide +kernel
theorem dX11_plans_54 : decode cX11_plans 54 = .ok (.aload_n 0, 1) := by decide +kernel
theorem dX11_plans_55 : decode cX11_plans 55 = .ok (.invokevirtual 386, 3) := by decide +kernel
theorem dX11_plans_58 : decode cX11_plans 58 = .ok (.istore_n 2, 1) := by decide +kernel
theorem dX11_plans_59 : decode cX11_plans 59 = .ok (.goto (-16), 3) := by decide +kernel
theorem dX11_plans_62 : decode cX11_plans 62 = .ok (.iload_n 2, 1) := by decide +kernel
theorem dX11_plans_63 : decode cX11_plans 63 = .ok (.ifCond .ne 11, 3) := by decide +kernel
theorem dX11_plans_66 : decode cX11_plans 66 = .ok (.bipush (-2), 2) := by decide +kernel
theorem dX11_plans_68 : decode cX11_plans 68 = .ok (.aload_n 0, 1) := by decide +kernel
theorem dX11_plans_69 : decode cX11_plans 69 = .ok (.getfield 265, 3) := by decide +kernel
theorem dX11_plans_72 : decode cX11_plans 72 = .ok (.isub, 1) := by decide +kernel
theorem dX11_plans_73 : decode cX11_plans 73 = .ok (.ireturn, 1) := by decide +kernel
theorem dX11_plans_74 : decode cX11_plans 74 = .ok (.aload_n 0, 1) := by decide +kernel
theorem dX11_plans_75 : decode cX11_plans 75 = .ok (.invokevirtual 389, 3) := by decide +kernel
theorem dX11_plans_78 : decode cX11_plans 78 = .ok (.iconst 0, 1) := by decide +kernel
theorem dX11_plans_79 : decode cX11_plans 79 = .ok (.istore_n 3, 1) := by decide +kernel
theorem dX11_plans_80 : decode cX11_plans 80 = .ok (.iload_n 3, 1) := by decide +kernel
theorem dX11_plans_81 : decode cX11_plans 81 = .ok (.iconst 4, 1) := by decide +kernel
theorem dX11_plans_82 : decode cX11_plans 82 = .ok (.if_icmp .ge 16, 3) := by decide +kernel
theorem dX11_plans_85 : decode cX11_plans 85 = .ok (.aload_n 0, 1) := by decide +kernel
theorem dX11_plans_86 : decode cX11_plans 86 = .ok (.getfield 106, 3) := by decide +kernel
theorem dX11_plans_89 : decode cX11_plans 89 = .ok (.iload_n 3, 1) := by decide +kernel
theorem dX11_plans_90 : decode cX11_plans 90 = .ok (.iconst (-1), 1) := by decide +kernel
theorem dX11_plans_91 : decode cX11_plans 91 = .ok (.iastore, 1) := by decide +kernel
theorem dX11_plans_92 : decode cX11_plans 92 = .ok (.iinc 3 1, 3) := by decide +kernel
theorem dX11_plans_95 : decode cX11_plans 95 = .ok (.goto (-15), 3) := by decide +kernel
theorem dX11_plans_98 : decode cX11_plans 98 = .ok (.aload_n 0, 1) := by decide +kernel
theorem dX11_plans_99 : decode cX11_plans 99 = .ok (.iconst 0, 1) := by decide +kernel
theorem dX11_plans_100 : decode cX11_plans 100 = .ok (.putfield 392, 3) := by decide +kernel
theorem dX11_plans_103 : decode cX11_plans 103 = .ok (.aload_n 0, 1) := by decide +kernel
theorem dX11_plans_104 : decode cX11_plans 104 = .ok (.iconst 0, 1) := by decide +kernel
theorem dX11_plans_105 : decode cX11_plans 105 = .ok (.putfield 395, 3) := by decide +kernel
theorem dX11_plans_108 : decode cX11_plans 108 = .ok (.aload_n 0, 1) := by decide +kernel
theorem dX11_plans_109 : decode cX11_plans 109 = .ok (.iconst 0, 1) := by decide +kernel
theorem dX11_plans_110 : decode cX11_plans 110 = .ok (.putfield 398, 3) := by decide +kernel
theorem dX11_plans_113 : decode cX11_plans 113 = .ok (.aload_n 0, 1) := by decide +kernel
theorem dX11_plans_114 : decode cX11_plans 114 = .ok (.iconst 0, 1) := by decide +kernel
theorem dX11_plans_115 : decode cX11_plans 115 = .ok (.putfield 401, 3) := by decide +kernel
theorem dX11_plans_118 : decode cX11_plans 118 = .ok (.aload_n 0, 1) := by decide +kernel
theorem dX11_plans_119 : decode cX11_plans 119 = .ok (.iconst 0, 1) := by decide +kernel
theorem dX11_plans_120 : decode cX11_plans 120 = .ok (.putfield 404, 3) := by decide +kernel
theorem dX11_plans_123 : decode cX11_plans 123 = .ok (.aload_n 0, 1) := by decide +kernel
theorem dX11_plans_124 : decode cX11_plans 124 = .ok (.getfield 377, 3) := by decide +kernel
theorem dX11_plans_127 : decode cX11_plans 127 = .ok (.ireturn, 1) := by decide +kernel
theorem dX11_record_0 : decode cX11_record 0 = .ok (.aload_n 0, 1) := by decide +kernel
theorem dX11_record_1 : decode cX11_record 1 = .ok (.invokevirtual 294, 3) := by decide +kernel
theorem dX11_record_4 : decode cX11_record 4 = .ok (.ifCond .ne 9, 3) := by decide +kernel
theorem dX11_record_7 : decode cX11_record 7 = .ok (.aload_n 0, 1) := by decide +kernel
theorem dX11_record_8 : decode cX11_record 8 = .ok (.iconst 1, 1) := by decide +kernel
theorem dX11_record_9 : decode cX11_record 9 = .ok (.invokevirtual 272, 3) := by decide +kernel
theorem dX11_record_12 : decode cX11_record 12 = .ok (.ireturn, 1) := by decide +kernel
theorem dX11_record_13 : decode cX11_record 13 = .ok (.aload_n 0, 1) := by decide +kernel
theorem dX11_record_14 : decode cX11_record 14 = .ok (.getfield 33, 3) := by decide +kernel
theorem dX11_record_17 : decode cX11_record 17 = .ok (.iload_n 1, 1) := by decide +kernel
theorem dX11_record_18 : decode cX11_record 18 = .ok (.iaload, 1) := by decide +kernel
theorem dX11_record_19 : decode cX11_record 19 = .ok (.bipush 6, 2) := by decide +kernel
theorem dX11_record_21 : decode cX11_record 21 = .ok (.if_icmp .ne 9, 3) := by decide +kernel
theorem dX11_record_24 : decode cX11_record 24 = .ok (.aload_n 0, 1) := by decide +kernel
theorem dX11_record_25 : decode cX11_record 25 = .ok (.iconst 4, 1) := by decide +kernel
theorem dX11_record_26 : decode cX11_record 26 = .ok (.invokevirtual 272, 3) := by decide +kernel
theorem dX11_record_29 : decode cX11_record 29 = .ok (.ireturn, 1) := by decide +kernel
theorem dX11_record_30 : decode cX11_record 30 = .ok (.aload_n 0, 1) := by decide +kernel
theorem dX11_record_31 : decode cX11_record 31 = .ok (.invokevirtual 275, 3) := by decide +kernel
theorem dX11_record_34 : decode cX11_record 34 = .ok (.aload_n 0, 1) := by decide +kernel
theorem dX11_record_35 : decode cX11_record 35 = .ok (.invokevirtual 312, 3) := by decide +kernel
theorem dX11_record_38 : decode cX11_record 38 = .ok (.ifCond .ne 9, 3) := by decide +kernel
theorem dX11_record_41 : decode cX11_record 41 = .ok (.aload_n 0, 1) := by decide +kernel
theorem dX11_record_42 : decode cX11_record 42 = .ok (.iconst 1, 1) := by decide +kernel
theorem dX11_record_43 : decode cX11_record 43 = .ok (.invokevirtual 272, 3) := by decide +kernel
theorem dX11_record_46 : decode cX11_record 46 = .ok (.ireturn, 1) := by decide +kernel
theorem dX11_record_47 : decode cX11_record 47 = .ok (.aload_n 0, 1) := by decide +kernel
theorem dX11_record_48 : decode cX11_record 48 = .ok (.iload_n 1, 1) := by decide +kernel
theorem dX11_record_49 : decode cX11_record 49 = .ok (.aload_n 0, 1) := by decide +kernel
theorem dX11_record_50 : decode cX11_record 50 = .ok (.getfield 204, 3) := by decide +kernel
theorem dX11_record_53 : decode cX11_record 53 = .ok (.invokevirtual 362, 3) := by decide +kernel
theorem dX11_record_56 : decode cX11_record 56 = .ok (.ifCond .lt 9, 3) := by decide +kernel
theorem dX11_record_59 : decode cX11_record 59 = .ok (.aload_n 0, 1) := by decide +kernel
theorem dX11_record_60 : decode cX11_record 60 = .ok (.iconst 3, 1) := by decide +kernel
theorem dX11_record_61 : decode cX11_record 61 = .ok (.invokevirtual 272, 3) := by decide +kernel
theorem dX11_record_64 : decode cX11_record 64 = .ok (.ireturn, 1) := by decide +kernel
theorem dX11_record_65 : decode cX11_record 65 = .ok (.bipush 6, 2) := by decide +kernel
theorem dX11_record_67 : decode cX11_record 67 = .ok (.iload_n 1, 1) := by decide +kernel
theorem dX11_record_68 : decode cX11_record 68 = .ok (.imul, 1) := by decide +kernel
theorem dX11_record_69 : decode cX11_record 69 = .ok (.aload_n 0, 1) := by decide +kernel
theorem dX11_record_70 : decode cX11_record 70 = .ok (.getfield 33, 3) := by decide +kernel
theorem dX11_record_73 : decode cX11_record 73 = .ok (.iload_n 1, 1) := by decide +kernel
theorem dX11_record_74 : decode cX11_record 74 = .ok (.iaload, 1) := by decide +kernel
theorem dX11_record_75 : decode cX11_record 75 = .ok (.iadd, 1) := by decide +kernel
theorem dX11_record_76 : decode cX11_record 76 = .ok (.istore_n 2, 1) := by decide +kernel
theorem dX11_record_77 : decode cX11_record 77 = .ok (.aload_n 0, 1) := by decide +kernel
theorem dX11_record_78 : decode cX11_record 78 = .ok (.getfield 36, 3) := by decide +kernel
theorem dX11_record_81 : decode cX11_record 81 = .ok (.iload_n 2, 1) := by decide +kernel
theorem dX11_record_82 : decode cX11_record 82 = .ok (.aload_n 0, 1) := by decide +kernel
theorem dX11_record_83 : decode cX11_record 83 = .ok (.getfield 204, 3) := by decide +kernel
theorem dX11_record_86 : decode cX11_record 86 = .ok (.lastore, 1) := by decide +kernel
theorem dX11_record_87 : decode cX11_record 87 = .ok (.aload_n 0, 1) := by decide +kernel
theorem dX11_record_88 : decode cX11_record 88 = .ok (.getfield 39, 3) := by decide +kernel
theorem dX11_record_91 : decode cX11_record 91 = .ok (.iload_n 2, 1) := by decide +kernel
theorem dX11_record_92 : decode cX11_record 92 = .ok (.aload_n 0, 1) := by decide +kernel
theorem dX11_record_93 : decode cX11_record 93 = .ok (.getfield 208, 3) := by decide +kernel
theorem dX11_record_96 : decode cX11_record 96 = .ok (.iastore, 1) := by decide +kernel
theorem dX11_record_97 : decode cX11_record 97 = .ok (.aload_n 0, 1) := by decide +kernel
theorem dX11_record_98 : decode cX11_record 98 = .ok (.getfield 42, 3) := by decide +kernel
theorem dX11_record_101 : decode cX11_record 101 = .ok (.iload_n 2, 1) := by decide +kernel
theorem dX11_record_102 : decode cX11_record 102 = .ok (.iconst 0, 1) := by decide +kernel
theorem dX11_record_103 : decode cX11_record 103 = .ok (.iastore, 1) := by decide +kernel
theorem dX11_record_104 : decode cX11_record 104 = .ok (.aload_n 0, 1) := by decide +kernel
theorem dX11_record_105 : decode cX11_record 105 = .ok (.invokevirtual 275, 3) := by decide +kernel
theorem dX11_record_108 : decode cX11_record 108 = .ok (.aload_n 0, 1) := by decide +kernel
theorem dX11_record_109 : decode cX11_record 109 = .ok (.iload_n 2, 1) := by decide +kernel
theorem dX11_record_110 : decode cX11_record 110 = .ok (.invokevirtual 365, 3) := by decide +kernel
theorem dX11_record_113 : decode cX11_record 113 = .ok (.istore_n 3, 1) := by decide +kernel
theorem dX11_record_114 : decode cX11_record 114 = .ok (.iload_n 3, 1) := by decide +kernel
theorem dX11_record_115 : decode cX11_record 115 = .ok (.ifCond .eq 25, 3) := by decide +kernel
theorem dX11_record_118 : decode cX11_record 118 = .ok (.aload_n 0, 1) := by decide +kernel
theorem dX11_record_119 : decode cX11_record 119 = .ok (.getfield 253, 3) := by decide +kernel
theorem dX11_record_122 : decode cX11_record 122 = .ok (.bipush 44, 2) := by decide +kernel
theorem dX11_record_124 : decode cX11_record 124 = .ok (.if_icmp .ne 16, 3) := by decide +kernel
theorem dX11_record_127 : decode cX11_record 127 = .ok (.aload_n 0, 1) := by decide +kernel
theorem dX11_record_128 : decode cX11_record 128 = .ok (.invokevirtual 275, 3) := by decide +kernel
theorem dX11_record_131 : decode cX11_record 131 = .ok (.aload_n 0, 1) := by decide +kernel
theorem dX11_record_132 : decode cX11_record 132 = .ok (.iload_n 2, 1) := by decide +kernel
theorem dX11_record_133 : decode cX11_record 133 = .ok (.invokevirtual 365, 3) := by decide +kernel
theorem dX11_record_136 : decode cX11_record 136 = .ok (.istore_n 3, 1) := by decide +kernel
theorem dX11_record_137 : decode cX11_record 137 = .ok (.goto (-23), 3) := by decide +kernel
theorem dX11_record_140 : decode cX11_record 140 = .ok (.aload_n 0, 1) := by decide +kernel
theorem dX11_record_141 : decode cX11_record 141 = .ok (.getfield 33, 3) := by decide +kernel
theorem dX11_record_144 : decode cX11_record 144 = .ok (.iload_n 1, 1) := by decide +kernel
theorem dX11_record_145 : decode cX11_record 145 = .ok (.dup2, 1) := by decide +kernel
theorem dX11_record_146 : decode cX11_record 146 = .ok (.iaload, 1) := by decide +kernel
theorem dX11_record_147 : decode cX11_record 147 = .ok (.iconst 1, 1) := by decide +kernel
theorem dX11_record_148 : decode cX11_record 148 = .ok (.iadd, 1) := by decide +kernel
theorem dX11_record_149 : decode cX11_record 149 = .ok (.iastore, 1) := by decide +kernel
theorem dX11_record_150 : decode cX11_record 150 = .ok (.iload_n 3, 1) := by decide +kernel
theorem dX11_record_151 : decode cX11_record 151 = .ok (.ifCond .eq 16, 3) := by decide +kernel
theorem dX11_record_154 : decode cX11_record 154 = .ok (.aload_n 0, 1) := by decide +kernel
theorem dX11_record_155 : decode cX11_record 155 = .ok (.bipush 59, 2) := by decide +kernel
theorem dX11_record_157 : decode cX11_record 157 = .ok (.invokevirtual 352, 3) := by decide +kernel
theorem dX11_record_160 : decode cX11_record 160 = .ok (.ifCond .eq 7, 3) := by decide +kernel
theorem dX11_record_163 : decode cX11_record 163 = .ok (.iconst 1, 1) := by decide +kernel
theorem dX11_record_164 : decode cX11_record 164 = .ok (.goto 4, 3) := by decide +kernel
theorem dX11_record_167 : decode cX11_record 167 = .ok (.iconst 0, 1) := by decide +kernel
theorem dX11_record_168 : decode cX11_record 168 = .ok (.ireturn, 1) := by decide +kernel
theorem dX11_takes_0 : decode cX11_takes 0 = .ok (.aload_n 0, 1) := by decide +kernel
theorem dX11_takes_1 : decode cX11_takes 1 = .ok (.aload_n 0, 1) := by decide +kernel
theorem dX11_takes_2 : decode cX11_takes 2 = .ok (.getfield 368, 3) := by decide +kernel
theorem dX11_takes_5 : decode cX11_takes 5 = .ok (.putfield 377, 3) := by decide +kernel
theorem dX11_takes_8 : decode cX11_takes 8 = .ok (.iconst 0, 1) := by decide +kernel
theorem dX11_takes_9 : decode cX11_takes 9 = .ok (.istore_n 1, 1) := by decide +kernel
theorem dX11_takes_10 : decode cX11_takes 10 = .ok (.iload_n 1, 1) := by decide +kernel
theorem dX11_takes_11 : decode cX11_takes 11 = .ok (.bipush 6, 2) := by decide +kernel
theorem dX11_takes_13 : decode cX11_takes 13 = .ok (.if_icmp .ge 24, 3) := by decide +kernel
theorem dX11_takes_16 : decode cX11_takes 16 = .ok (.aload_n 0, 1) := by decide +kernel
theorem dX11_takes_17 : decode cX11_takes 17 = .ok (.getfield 33, 3) := by decide +kernel
theorem dX11_takes_20 : decode cX11_takes 20 = .ok (.iload_n 1, 1) := by decide +kernel
theorem dX11_takes_21 : decode cX11_takes 21 = .ok (.aload_n 0, 1) := by decide +kernel
theorem dX11_takes_22 : decode cX11_takes 22 = .ok (.getfield 33, 3) := by decide +kernel
theorem dX11_takes_25 : decode cX11_takes 25 = .ok (.iload_n 1, 1) := by decide +kernel
theorem dX11_takes_26 : decode cX11_takes 26 = .ok (.bipush 6, 2) := by decide +kernel
theorem dX11_takes_28 : decode cX11_takes 28 = .ok (.iadd, 1) := by decide +kernel
theorem dX11_takes_29 : decode cX11_takes 29 = .ok (.iaload, 1) := by decide +kernel
theorem dX11_takes_30 : decode cX11_takes 30 = .ok (.iastore, 1) := by decide +kernel
theorem dX11_takes_31 : decode cX11_takes 31 = .ok (.iinc 1 1, 3) := by decide +kernel
theorem dX11_takes_34 : decode cX11_takes 34 = .ok (.goto (-24), 3) := by decide +kernel
theorem dX11_takes_37 : decode cX11_takes 37 = .ok (.iconst 0, 1) := by decide +kernel
theorem dX11_takes_38 : decode cX11_takes 38 = .ok (.istore_n 1, 1) := by decide +kernel
theorem dX11_takes_39 : decode cX11_takes 39 = .ok (.iload_n 1, 1) := by decide +kernel
theorem dX11_takes_40 : decode cX11_takes 40 = .ok (.bipush 36, 2) := by decide +kernel
theorem dX11_takes_42 : decode cX11_takes 42 = .ok (.if_icmp .ge 54, 3) := by decide +kernel
theorem dX11_takes_45 : decode cX11_takes 45 = .ok (.aload_n 0, 1) := by decide +kernel
theorem dX11_takes_46 : decode cX11_takes 46 = .ok (.getfield 36, 3) := by decide +kernel
theorem dX11_takes_49 : decode cX11_takes 49 = .ok (.iload_n 1, 1) := by decide +kernel
theorem dX11_takes_50 : decode cX11_takes 50 = .ok (.aload_n 0, 1) := by decide +kernel
theorem dX11_takes_51 : decode cX11_takes 51 = .ok (.getfield 36, 3) := by decide +kernel
theorem dX11_takes_54 : decode cX11_takes 54 = .ok (.iload_n 1, 1) := by decide +kernel
theorem dX11_takes_55 : decode cX11_takes 55 = .ok (.bipush 36, 2) := by decide +kernel
theorem dX11_takes_57 : decode cX11_takes 57 = .ok (.iadd, 1) := by decide +kernel
theorem dX11_takes_58 : decode cX11_takes 58 = .ok (.laload, 1) := by decide +kernel
theorem dX11_takes_59 : decode cX11_takes 59 = .ok (.lastore, 1) := by decide +kernel
theorem dX11_takes_60 : decode cX11_takes 60 = .ok (.aload_n 0, 1) := by decide +kernel
theorem dX11_takes_61 : decode cX11_takes 61 = .ok (.getfield 39, 3) := by decide +kernel
theorem dX11_takes_64 : decode cX11_takes 64 = .ok (.iload_n 1, 1) := by decide +kernel
theorem dX11_takes_65 : decode cX11_takes 65 = .ok (.aload_n 0, 1) := by decide +kernel
theorem dX11_takes_66 : decode cX11_takes 66 = .ok (.getfield 39, 3) := by decide +kernel
theorem dX11_takes_69 : decode cX11_takes 69 = .ok (.iload_n 1, 1) := by decide +kernel
theorem dX11_takes_70 : decode cX11_takes 70 = .ok (.bipush 36, 2) := by decide +kernel
theorem dX11_takes_72 : decode cX11_takes 72 = .ok (.iadd, 1) := by decide +kernel
theorem dX11_takes_73 : decode cX11_takes 73 = .ok (.iaload, 1) := by decide +kernel
theorem dX11_takes_74 : decode cX11_takes 74 = .ok (.iastore, 1) := by decide +kernel
theorem dX11_takes_75 : decode cX11_takes 75 = .ok (.aload_n 0, 1) := by decide +kernel
theorem dX11_takes_76 : decode cX11_takes 76 = .ok (.getfield 42, 3) := by decide +kernel
theorem dX11_takes_79 : decode cX11_takes 79 = .ok (.iload_n 1, 1) := by decide +kernel
theorem dX11_takes_80 : decode cX11_takes 80 = .ok (.aload_n 0, 1) := by decide +kernel
theorem dX11_takes_81 : decode cX11_takes 81 = .ok (.getfield 42, 3) := by decide +kernel
theorem dX11_takes_84 : decode cX11_takes 84 = .ok (.iload_n 1, 1) := by decide +kernel
theorem dX11_takes_85 : decode cX11_takes 85 = .ok (.bipush 36, 2) := by decide +kernel
theorem dX11_takes_87 : decode cX11_takes 87 = .ok (.iadd, 1) := by decide +kernel
theorem dX11_takes_88 : decode cX11_takes 88 = .ok (.iaload, 1) := by decide +kernel
theorem dX11_takes_89 : decode cX11_takes 89 = .ok (.iastore, 1) := by decide +kernel
theorem dX11_takes_90 : decode cX11_takes 90 = .ok (.iinc 1 1, 3) := by decide +kernel
theorem dX11_takes_93 : decode cX11_takes 93 = .ok (.goto (-54), 3) := by decide +kernel
theorem dX11_takes_96 : decode cX11_takes 96 = .ok (.iconst 0, 1) := by decide +kernel
theorem dX11_takes_97 : decode cX11_takes 97 = .ok (.istore_n 1, 1) := by decide +kernel
theorem dX11_takes_98 : decode cX11_takes 98 = .ok (.iload_n 1, 1) := by decide +kernel
theorem dX11_takes_99 : decode cX11_takes 99 = .ok (.sipush 288, 3) := by decide +kernel
theorem dX11_takes_102 : decode cX11_takes 102 = .ok (.if_icmp .ge 114, 3) := by decide +kernel
theorem dX11_takes_105 : decode cX11_takes 105 = .ok (.iload_n 1, 1) := by decide +kernel
theorem dX11_takes_106 : decode cX11_takes 106 = .ok (.sipush 288, 3) := by decide +kernel
theorem dX11_takes_109 : decode cX11_takes 109 = .ok (.iadd, 1) := by decide +kernel
theorem dX11_takes_110 : decode cX11_takes 110 = .ok (.istore_n 2, 1) := by decide +kernel
theorem dX11_takes_111 : decode cX11_takes 111 = .ok (.aload_n 0, 1) := by decide +kernel
theorem dX11_takes_112 : decode cX11_takes 112 = .ok (.getfield 45, 3) := by decide +kernel
theorem dX11_takes_115 : decode cX11_takes 115 = .ok (.iload_n 1, 1) := by decide +kernel
theorem dX11_takes_116 : decode cX11_takes 116 = .ok (.aload_n 0, 1) := by decide +kernel
theorem dX11_takes_117 : decode cX11_takes 117 = .ok (.getfield 45, 3) := by decide +kernel
theorem dX11_takes_120 : decode cX11_takes 120 = .ok (.iload_n 2, 1) := by decide +kernel
theorem dX11_takes_121 : decode cX11_takes 121 = .ok (.laload, 1) := by decide +kernel
theorem dX11_takes_122 : decode cX11_takes 122 = .ok (.lastore, 1) := by decide +kernel
theorem dX11_takes_123 : decode cX11_takes 123 = .ok (.aload_n 0, 1) := by decide +kernel
theorem dX11_takes_124 : decode cX11_takes 124 = .ok (.getfield 48, 3) := by decide +kernel
theorem dX11_takes_127 : decode cX11_takes 127 = .ok (.iload_n 1, 1) := by decide +kernel
theorem dX11_takes_128 : decode cX11_takes 128 = .ok (.aload_n 0, 1) := by decide +kernel
theorem dX11_takes_129 : decode cX11_takes 129 = .ok (.getfield 48, 3) := by decide +kernel
theorem dX11_takes_132 : decode cX11_takes 132 = .ok (.iload_n 2, 1) := by decide +kernel
theorem dX11_takes_133 : decode cX11_takes 133 = .ok (.iaload, 1) := by decide +kernel
theorem dX11_takes_134 : decode cX11_takes 134 = .ok (.iastore, 1) := by decide +kernel
theorem dX11_takes_135 : decode cX11_takes 135 = .ok (.aload_n 0, 1) := by decide +kernel
theorem dX11_takes_136 : decode cX11_takes 136 = .ok (.getfield 51, 3) := by decide +kernel
theorem dX11_takes_139 : decode cX11_takes 139 = .ok (.iload_n 1, 1) := by decide +kernel
theorem dX11_takes_140 : decode cX11_takes 140 = .ok (.aload_n 0, 1) := by decide +kernel
theorem dX11_takes_141 : decode cX11_takes 141 = .ok (.getfield 51, 3) := by decide +kernel
theorem dX11_takes_144 : decode cX11_takes 144 = .ok (.iload_n 2, 1) := by decide +kernel
theorem dX11_takes_145 : decode cX11_takes 145 = .ok (.laload, 1) := by decide +kernel
theorem dX11_takes_146 : decode cX11_takes 146 = .ok (.lastore, 1) := by decide +kernel
theorem dX11_takes_147 : decode cX11_takes 147 = .ok (.aload_n 0, 1) := by decide +kernel
theorem dX11_takes_148 : decode cX11_takes 148 = .ok (.getfield 54, 3) := by decide +kernel
theorem dX11_takes_151 : decode cX11_takes 151 = .ok (.iload_n 1, 1) := by decide +kernel
theorem dX11_takes_152 : decode cX11_takes 152 = .ok (.aload_n 0, 1) := by decide +kernel
theorem dX11_takes_153 : decode cX11_takes 153 = .ok (.getfield 54, 3) := by decide +kernel
theorem dX11_takes_156 : decode cX11_takes 156 = .ok (.iload_n 2, 1) := by decide +kernel
theorem dX11_takes_157 : decode cX11_takes 157 = .ok (.iaload, 1) := by decide +kernel
theorem dX11_takes_158 : decode cX11_takes 158 = .ok (.invokestatic 380, 3) := by decide +kernel
theorem dX11_takes_161 : decode cX11_takes 161 = .ok (.iastore, 1) := by decide +kernel
theorem dX11_takes_162 : decode cX11_takes 162 = .ok (.aload_n 0, 1) := by decide +kernel
theorem dX11_takes_163 : decode cX11_takes 163 = .ok (.getfield 57, 3) := by decide +kernel
theorem dX11_takes_166 : decode cX11_takes 166 = .ok (.iload_n 1, 1) := by decide +kernel
theorem dX11_takes_167 : decode cX11_takes 167 = .ok (.aload_n 0, 1) := by decide +kernel
theorem dX11_takes_168 : decode cX11_takes 168 = .ok (.getfield 57, 3) := by decide +kernel
theorem dX11_takes_171 : decode cX11_takes 171 = .ok (.iload_n 2, 1) := by decide +kernel
theorem dX11_takes_172 : decode cX11_takes 172 = .ok (.baload, 1) := by decide +kernel
theorem dX11_takes_173 : decode cX11_takes 173 = .ok (.bastore, 1) := by decide +kernel
theorem dX11_takes_174 : decode cX11_takes 174 = .ok (.aload_n 0, 1) := by decide +kernel
theorem dX11_takes_175 : decode cX11_takes 175 = .ok (.getfield 61, 3) := by decide +kernel
theorem dX11_takes_178 : decode cX11_takes 178 = .ok (.iload_n 1, 1) := by decide +kernel
theorem dX11_takes_179 : decode cX11_takes 179 = .ok (.aload_n 0, 1) := by decide +kernel
theorem dX11_takes_180 : decode cX11_takes 180 = .ok (.getfield 61, 3) := by decide +kernel
theorem dX11_takes_183 : decode cX11_takes 183 = .ok (.iload_n 2, 1) := by decide +kernel
theorem dX11_takes_184 : decode cX11_takes 184 = .ok (.laload, 1) := by decide +kernel
theorem dX11_takes_185 : decode cX11_takes 185 = .ok (.lastore, 1) := by decide +kernel
theorem dX11_takes_186 : decode cX11_takes 186 = .ok (.aload_n 0, 1) := by decide +kernel
theorem dX11_takes_187 : decode cX11_takes 187 = .ok (.getfield 64, 3) := by decide +kernel
theorem dX11_takes_190 : decode cX11_takes 190 = .ok (.iload_n 1, 1) := by decide +kernel
theorem dX11_takes_191 : decode cX11_takes 191 = .ok (.aload_n 0, 1) := by decide +kernel
theorem dX11_takes_192 : decode cX11_takes 192 = .ok (.getfield 64, 3) := by decide +kernel
theorem dX11_takes_195 : decode cX11_takes 195 = .ok (.iload_n 2, 1) := by decide +kernel
theorem dX11_takes_196 : decode cX11_takes 196 = .ok (.laload, 1) := by decide +kernel
theorem dX11_takes_197 : decode cX11_takes 197 = .ok (.lastore, 1) := by decide +kernel
theorem dX11_takes_198 : decode cX11_takes 198 = .ok (.aload_n 0, 1) := by decide +kernel
theorem dX11_takes_199 : decode cX11_takes 199 = .ok (.getfield 67, 3) := by decide +kernel
theorem dX11_takes_202 : decode cX11_takes 202 = .ok (.iload_n 1, 1) := by decide +kernel
theorem dX11_takes_203 : decode cX11_takes 203 = .ok (.aload_n 0, 1) := by decide +kernel
theorem dX11_takes_204 : decode cX11_takes 204 = .ok (.getfield 67, 3) := by decide +kernel
theorem dX11_takes_207 : decode cX11_takes 207 = .ok (.iload_n 2, 1) := by decide +kernel
theorem dX11_takes_208 : decode cX11_takes 208 = .ok (.iaload, 1) := by decide +kernel
theorem dX11_takes_209 : decode cX11_takes 209 = .ok (.iastore, 1) := by decide +kernel
theorem dX11_takes_210 : decode cX11_takes 210 = .ok (.iinc 1 1, 3) := by decide +kernel
theorem dX11_takes_213 : decode cX11_takes 213 = .ok (.goto (-115), 3) := by decide +kernel
theorem dX11_takes_216 : decode cX11_takes 216 = .ok (.sipush 400, 3) := by decide +kernel
theorem dX11_takes_219 : decode cX11_takes 219 = .ok (.istore_n 1, 1) := by decide +kernel
theorem dX11_takes_220 : decode cX11_takes 220 = .ok (.iload_n 1, 1) := by decide +kernel
theorem dX11_takes_221 : decode cX11_takes 221 = .ok (.aload_n 0, 1) := by decide +kernel
theorem dX11_takes_222 : decode cX11_takes 222 = .ok (.getfield 318, 3) := by decide +kernel
theorem dX11_takes_225 : decode cX11_takes 225 = .ok (.if_icmp .ge 125, 3) := by decide +kernel
theorem dX11_takes_228 : decode cX11_takes 228 = .ok (.aload_n 0, 1) := by decide +kernel
theorem dX11_takes_229 : decode cX11_takes 229 = .ok (.getfield 13, 3) := by decide +kernel
theorem dX11_takes_232 : decode cX11_takes 232 = .ok (.iload_n 1, 1) := by decide +kernel
theorem dX11_takes_233 : decode cX11_takes 233 = .ok (.sipush 400, 3) := by decide +kernel
theorem dX11_takes_236 : decode cX11_takes 236 = .ok (.isub, 1) := by decide +kernel
theorem dX11_takes_237 : decode cX11_takes 237 = .ok (.aload_n 0, 1) := by decide +kernel
theorem dX11_takes_238 : decode cX11_takes 238 = .ok (.getfield 13, 3) := by decide +kernel
theorem dX11_takes_241 : decode cX11_takes 241 = .ok (.iload_n 1, 1) := by decide +kernel
theorem dX11_takes_242 : decode cX11_takes 242 = .ok (.iaload, 1) := by decide +kernel
theorem dX11_takes_243 : decode cX11_takes 243 = .ok (.iastore, 1) := by decide +kernel
theorem dX11_takes_244 : decode cX11_takes 244 = .ok (.aload_n 0, 1) := by decide +kernel
theorem dX11_takes_245 : decode cX11_takes 245 = .ok (.getfield 17, 3) := by decide +kernel
theorem dX11_takes_248 : decode cX11_takes 248 = .ok (.iload_n 1, 1) := by decide +kernel
theorem dX11_takes_249 : decode cX11_takes 249 = .ok (.sipush 400, 3) := by decide +kernel
theorem dX11_takes_252 : decode cX11_takes 252 = .ok (.isub, 1) := by decide +kernel
theorem dX11_takes_253 : decode cX11_takes 253 = .ok (.aload_n 0, 1) := by decide +kernel
theorem dX11_takes_254 : decode cX11_takes 254 = .ok (.getfield 13, 3) := by decide +kernel
theorem dX11_takes_257 : decode cX11_takes 257 = .ok (.iload_n 1, 1) := by decide +kernel
theorem dX11_takes_258 : decode cX11_takes 258 = .ok (.iaload, 1) := by decide +kernel
theorem dX11_takes_259 : decode cX11_takes 259 = .ok (.bipush 6, 2) := by decide +kernel
theorem dX11_takes_261 : decode cX11_takes 261 = .ok (.if_icmp .ne 15, 3) := by decide +kernel
theorem dX11_takes_264 : decode cX11_takes 264 = .ok (.aload_n 0, 1) := by decide +kernel
theorem dX11_takes_265 : decode cX11_takes 265 = .ok (.getfield 17, 3) := by decide +kernel
theorem dX11_takes_268 : decode cX11_takes 268 = .ok (.iload_n 1, 1) := by decide +kernel
theorem dX11_takes_269 : decode cX11_takes 269 = .ok (.iaload, 1) := by decide +kernel
theorem dX11_takes_270 : decode cX11_takes 270 = .ok (.invokestatic 380, 3) := by decide +kernel
theorem dX11_takes_273 : decode cX11_takes 273 = .ok (.goto 9, 3) := by decide +kernel
theorem dX11_takes_276 : decode cX11_takes 276 = .ok (.aload_n 0, 1) := by decide +kernel
theorem dX11_takes_277 : decode cX11_takes 277 = .ok (.getfield 17, 3) := by decide +kernel
theorem dX11_takes_280 : decode cX11_takes 280 = .ok (.iload_n 1, 1) := by decide +kernel
theorem dX11_takes_281 : decode cX11_takes 281 = .ok (.iaload, 1) := by decide +kernel
theorem dX11_takes_282 : decode cX11_takes 282 = .ok (.iastore, 1) := by decide +kernel
theorem dX11_takes_283 : decode cX11_takes 283 = .ok (.aload_n 0, 1) := by decide +kernel
theorem dX11_takes_284 : decode cX11_takes 284 = .ok (.getfield 20, 3) := by decide +kernel
theorem dX11_takes_287 : decode cX11_takes 287 = .ok (.iload_n 1, 1) := by decide +kernel
theorem dX11_takes_288 : decode cX11_takes 288 = .ok (.sipush 400, 3) := by decide +kernel
theorem dX11_takes_291 : decode cX11_takes 291 = .ok (.isub, 1) := by decide +kernel
theorem dX11_takes_292 : decode cX11_takes 292 = .ok (.aload_n 0, 1) := by decide +kernel
theorem dX11_takes_293 : decode cX11_takes 293 = .ok (.getfield 20, 3) := by decide +kernel
theorem dX11_takes_296 : decode cX11_takes 296 = .ok (.iload_n 1, 1) := by decide +kernel
theorem dX11_takes_297 : decode cX11_takes 297 = .ok (.iaload, 1) := by decide +kernel
theorem dX11_takes_298 : decode cX11_takes 298 = .ok (.iastore, 1) := by decide +kernel
theorem dX11_takes_299 : decode cX11_takes 299 = .ok (.iconst 0, 1) := by decide +kernel
theorem dX11_takes_300 : decode cX11_takes 300 = .ok (.istore_n 2, 1) := by decide +kernel
theorem dX11_takes_301 : decode cX11_takes 301 = .ok (.iload_n 2, 1) := by decide +kernel
theorem dX11_takes_302 : decode cX11_takes 302 = .ok (.aload_n 0, 1) := by decide +kernel
theorem dX11_takes_303 : decode cX11_takes 303 = .ok (.getfield 20, 3) := by decide +kernel
theorem dX11_takes_306 : decode cX11_takes 306 = .ok (.iload_n 1, 1) := by decide +kernel
theorem dX11_takes_307 : decode cX11_takes 307 = .ok (.iaload, 1) := by decide +kernel
theorem dX11_takes_308 : decode cX11_takes 308 = .ok (.if_icmp .ge 36, 3) := by decide +kernel
theorem dX11_takes_311 : decode cX11_takes 311 = .ok (.aload_n 0, 1) := by decide +kernel
theorem dX11_takes_312 : decode cX11_takes 312 = .ok (.getfield 23, 3) := by decide +kernel
theorem dX11_takes_315 : decode cX11_takes 315 = .ok (.iconst 4, 1) := by decide +kernel
theorem dX11_takes_316 : decode cX11_takes 316 = .ok (.iload_n 1, 1) := by decide +kernel
theorem dX11_takes_317 : decode cX11_takes 317 = .ok (.sipush 400, 3) := by decide +kernel
theorem dX11_takes_320 : decode cX11_takes 320 = .ok (.isub, 1) := by decide +kernel
theorem dX11_takes_321 : decode cX11_takes 321 = .ok (.imul, 1) := by decide +kernel
theorem dX11_takes_322 : decode cX11_takes 322 = .ok (.iload_n 2, 1) := by decide +kernel
theorem dX11_takes_323 : decode cX11_takes 323 = .ok (.iadd, 1) := by decide +kernel
theorem dX11_takes_324 : decode cX11_takes 324 = .ok (.aload_n 0, 1) := by decide +kernel
theorem dX11_takes_325 : decode cX11_takes 325 = .ok (.getfield 23, 3) := by decide +kernel
theorem dX11_takes_328 : decode cX11_takes 328 = .ok (.iconst 4, 1) := by decide +kernel
theorem dX11_takes_329 : decode cX11_takes 329 = .ok (.iload_n 1, 1) := by decide +kernel
theorem dX11_takes_330 : decode cX11_takes 330 = .ok (.imul, 1) := by decide +kernel
theorem dX11_takes_331 : decode cX11_takes 331 = .ok (.iload_n 2, 1) := by decide +kernel
theorem dX11_takes_332 : decode cX11_takes 332 = .ok (.iadd, 1) := by decide +kernel
theorem dX11_takes_333 : decode cX11_takes 333 = .ok (.iaload, 1) := by decide +kernel
theorem dX11_takes_334 : decode cX11_takes 334 = .ok (.invokestatic 380, 3) := by decide +kernel
theorem dX11_takes_337 : decode cX11_takes 337 = .ok (.iastore, 1) := by decide +kernel
theorem dX11_takes_338 : decode cX11_takes 338 = .ok (.iinc 2 1, 3) := by decide +kernel
theorem dX11_takes_341 : decode cX11_takes 341 = .ok (.goto (-40), 3) := by decide +kernel
theorem dX11_takes_344 : decode cX11_takes 344 = .ok (.iinc 1 1, 3) := by decide +kernel
theorem dX11_takes_347 : decode cX11_takes 347 = .ok (.goto (-127), 3) := by decide +kernel
theorem dX11_takes_350 : decode cX11_takes 350 = .ok (.return_, 1) := by decide +kernel
def f_X11_missStep (p0 : Int32) (p1 : Int32) (p2 : Int32) (p3 : Int32) (σ : ST) : Option (Int32 × ST) := (f_X11_isPlanAt  p0 (stI σ 0 0 0)).bind fun q1 => if q1.1 = 0 then (some ((-1), q1.2)) else ((f_X11_isPlanAt  p1 q1.2).bind fun q3 => if q3.1 = 0 then (some ((-1), q3.2)) else ((f_X11_laysMisses  p0 p1 q3.2).bind fun q5 => (f_X11_within  (p2.toInt64) 0 (((q5.1 0 61) - 1).toInt64) q5).bind fun q7 => if q7.1 = 0 then (some ((-1), q7.2)) else (if 0 ≤ p2.toInt ∧ p2.toInt < 20 then ((f_X11_within  (p3.toInt64) 0 (((q7.2.1 38 p2.toNatClampNeg) - 1).toInt64) q7.2).bind fun q10 => if q10.1 = 0 then (some ((-1), q10.2)) else (if 0 ≤ ((256 * p2) + p3).toInt ∧ ((256 * p2) + p3).toInt < 5120 then (some ((q10.2.1 39 ((256 * p2) + p3).toNatClampNeg), q10.2)) else none)) else none)))

set_option maxRecDepth 100000 in
set_option maxHeartbeats 4000000 in
theorem b_X11_missStep_e {p : Program} {l : Launch} {e : Env} {s : State} {m : MethodId} {args : Array Value} {below : List Frame} {meth : Method} {c : Code} {dC : Nat → ClassId} {dI : Nat → Nat → Nat} {a : Nat → Nat} {k : Nat → ClassId} {A : Nat → Prop} {q : Int32 × ST} (hC : CxB p s m args meth c dC dI k A cX11_missStep RX11 (some .int) 5)   {p0 : Int32} {p1 : Int32} {p2 : Int32} {p3 : Int32} {σ : ST} (h : f_X11_missStep  p0 p1 p2 p3 σ = some q) : GoB p l e ({ frames := 685, cells := 0, slots := 0, locals := 17414 } : Room) s m args below meth c (MQ below (qBi dC dI a k A q) args s 0 0 A) dC dI a k A 5 0 σ (lv_args 0 [.ref (a 0), .int p0, .int p1, .int p2, .int p3]) [] := by
  have hC0 := hC
  obtain ⟨hx, hb, hr, hml, hown, hts, hlocks, hA, hN, hK⟩ := hC0
  intro H locs ls hP hD hS hl
  have hD0 : ∀ σ1 : ST, va_D A (wB a k σ1) := fun σ1 => wB_D hD
  replace hl : lv_has ls 5 [(0, .ref (a 0)), (1, .int p0), (2, .int p1), (3, .int p2), (4, .int p3)] := hl
  unfold f_X11_missStep at h
  refine lv_aload_n hx hb dX11_missStep_0 rfl (lv_at hl 0 rfl) ?_
  refine lv_iconst (v := 0) hx hb dX11_missStep_1 (by decide) ?_
  refine va_put (D := (dC, dI)) (ci := 11) (ty := .int) (C := RX11) (T := TX11) (N := 95) hx hb hts inlX11 tyX11 tyX11_ok nmX11 hown hK hP hD hS 0 gB_0 rfl 0 (by decide) (hts (.fieldLink RX11 178 "ShapeReaderModel" "thrown" "I") mw_28_22) (fun _ h9 => h9) rfl (by decide +kernel) rfl rfl (Nat.le_of_ble_eq_true rfl) dX11_missStep_2 (fun H locs hP hD hS => ?_)
  replace hP := uB_0_0 hP
  replace hD := hD0 ((stI σ 0 0 0))
  refine lv_aload_n hx hb dX11_missStep_5 rfl (lv_at hl 0 rfl) ?_
  refine lv_iload_n hx hb dX11_missStep_6 rfl (lv_at hl 1 rfl) ?_
  obtain ⟨q1, hc, h⟩ := ib h
  have hF := va_frees hD hS hA
  refine va_calli (va_runV (As := [.int p0]) (rest := []) ⟨hx, hb, hml, hown, hts⟩ (s_X11_isPlanAt hc) (cwV 1 hts (gV mw_33_22 mw_33_23 mw_33_24 mw_0_15 mw_55_9) rfl rfl rfl (by decide +kernel) ⟨(Nat.le_of_ble_eq_true rfl), (Nat.le_of_ble_eq_true rfl)⟩) (vV (ci := 11) (q0 := 0) hK hP hD hN rfl gB_0) rfl rfl hl.1 rfl (lv_room (Nat.le_of_ble_eq_true rfl)) dX11_missStep_7 ⟨(Nat.le_of_ble_eq_true rfl), (Nat.le_of_ble_eq_true rfl)⟩) hS (fun q _ h => hF q h) hF (fun r2 u t H locs ht hvm hw hB _ _ hS => ?_)
  obtain rfl : r2 = q1.1 := hw
  replace hP : va_P (dC, dI) vwCl (wB a k q1.2) H := by rw [← ht]; exact hB.1
  replace hD := hD0 (q1.2)
  clear hB hF
  refine lv_if_eq (tgt := 21) hx hb dX11_missStep_10 (by decide) (fun hc => ?_) (fun hc => ?_)
  · replace h := ip hc h
    refine lv_iconst (v := (-1)) hx hb dX11_missStep_21 (by decide) ?_
    obtain rfl := Option.some.inj h
    exact W.iret hx hb hr (fun t ht hW => ⟨⟨_, (), rfl, rfl, ⟨by rw [ht]; exact hP, va_K.moved hW.alike hK, hD⟩⟩, hS.F ht⟩) hS.2.2 dX11_missStep_22
  · replace h := iq hc h
    refine lv_aload_n hx hb dX11_missStep_13 rfl (lv_at hl 0 rfl) ?_
    refine lv_iload_n hx hb dX11_missStep_14 rfl (lv_at hl 2 rfl) ?_
    obtain ⟨q3, hc, h⟩ := ib h
    have hF := va_frees hD hS hA
    refine va_calli (va_runV (As := [.int p1]) (rest := []) ⟨hx, hb, hml, hown, hts⟩ (s_X11_isPlanAt hc) (cwV 1 hts (gV mw_33_22 mw_33_23 mw_33_24 mw_0_15 mw_55_9) rfl rfl rfl (by decide +kernel) ⟨(Nat.le_of_ble_eq_true rfl), (Nat.le_of_ble_eq_true rfl)⟩) (vV (ci := 11) (q0 := 0) hK hP hD hN rfl gB_0) rfl rfl hl.1 rfl (lv_room (Nat.le_of_ble_eq_true rfl)) dX11_missStep_15 ⟨(Nat.le_of_ble_eq_true rfl), (Nat.le_of_ble_eq_true rfl)⟩) hS (fun q _ h => hF q h) hF (fun r4 u t H locs ht hvm hw hB _ _ hS => ?_)
    obtain rfl : r4 = q3.1 := hw
    replace hP : va_P (dC, dI) vwCl (wB a k q3.2) H := by rw [← ht]; exact hB.1
    replace hD := hD0 (q3.2)
    clear hB hF
    refine lv_if_ne (tgt := 23) hx hb dX11_missStep_18 (by decide) (fun hc => ?_) (fun hc => ?_)
    · replace h := iq hc h
      refine lv_aload_n hx hb dX11_missStep_23 rfl (lv_at hl 0 rfl) ?_
      refine lv_iload_n hx hb dX11_missStep_24 rfl (lv_at hl 1 rfl) ?_
      refine lv_iload_n hx hb dX11_missStep_25 rfl (lv_at hl 2 rfl) ?_
      obtain ⟨q5, hc, h⟩ := ib h
      have hF := va_frees hD hS hA
      refine va_callv (va_runV (As := [.int p0, .int p1]) (rest := []) ⟨hx, hb, hml, hown, hts⟩ (s_X11_laysMisses hc) (cwV 2 hts (gV mw_37_4 mw_37_5 mw_37_6 mw_0_15 mw_56_16) rfl rfl rfl (by decide +kernel) ⟨(Nat.le_of_ble_eq_true rfl), (Nat.le_of_ble_eq_true rfl)⟩) (vV (ci := 11) (q0 := 0) hK hP hD hN rfl gB_0) rfl rfl hl.1 rfl (lv_room (Nat.le_of_ble_eq_true rfl)) dX11_missStep_26 ⟨(Nat.le_of_ble_eq_true rfl), (Nat.le_of_ble_eq_true rfl)⟩) hS (fun q _ h => hF q h) hF (fun u t H locs ht hvm hw hB _ _ hS => ?_)
      replace hP : va_P (dC, dI) vwCl (wB a k q5) H := by rw [← ht]; exact hB.1
      replace hD := hD0 (q5)
      clear hB hF
      refine lv_iload_n hx hb dX11_missStep_29 rfl (lv_at hl 3 rfl) ?_
      refine lv_i2l (v := p2.toInt64) hx hb dX11_missStep_30 rfl ?_
      refine lv_lconst (v := 0) hx hb dX11_missStep_31 (by decide) ?_
      refine lv_aload_n hx hb dX11_missStep_32 rfl (lv_at hl 0 rfl) ?_
      refine va_get (D := (dC, dI)) (ci := 11) (C := RX11) (T := TX11) (N := 95) hx hb hts inlX11 hown hK hP 0 gB_0 rfl 61 (by decide) (hts (.fieldLink RX11 513 "ShapeReaderModel" "misses" "I") mw_36_17) (fun _ h9 => h9) rfl dX11_missStep_33 ?_
      refine lv_iconst (v := 1) hx hb dX11_missStep_36 (by decide) ?_
      refine lv_isub hx hb dX11_missStep_37 ?_
      refine lv_i2l (v := ((q5.1 0 61) - 1).toInt64) hx hb dX11_missStep_38 rfl ?_
      obtain ⟨q7, hc, h⟩ := ib h
      have hF := va_frees hD hS hA
      refine va_calli (va_runS (As := [.long (p2.toInt64), .long 0, .long (((q5.1 0 61) - 1).toInt64)]) (rest := []) ⟨hx, hb, hml, hown, hts⟩ (s_X11_within hc) (va_cwS 3 hts (gS mw_29_0 mw_29_1 mw_0_15 mw_53_26) rfl rfl rfl (by decide +kernel) ⟨(Nat.le_of_ble_eq_true rfl), (Nat.le_of_ble_eq_true rfl)⟩) (vS hK hP hD hN) rfl rfl hl.1 rfl (lv_room (Nat.le_of_ble_eq_true rfl)) dX11_missStep_39 ⟨(Nat.le_of_ble_eq_true rfl), (Nat.le_of_ble_eq_true rfl)⟩) hS (fun q _ h => hF q h) hF (fun r8 u t H locs ht hvm hw hB _ _ hS => ?_)
      obtain rfl : r8 = q7.1 := hw
      replace hP : va_P (dC, dI) vwCl (wB a k q7.2) H := by rw [← ht]; exact hB.1
      replace hD := hD0 (q7.2)
      clear hB hF
      refine lv_if_eq (tgt := 80) hx hb dX11_missStep_42 (by decide) (fun hc => ?_) (fun hc => ?_)
      · replace h := ip hc h
        refine lv_iconst (v := (-1)) hx hb dX11_missStep_80 (by decide) ?_
        obtain rfl := Option.some.inj h
        exact W.iret hx hb hr (fun t ht hW => ⟨⟨_, (), rfl, rfl, ⟨by rw [ht]; exact hP, va_K.moved hW.alike hK, hD⟩⟩, hS.F ht⟩) hS.2.2 dX11_missStep_81
      · replace h := iq hc h
        refine lv_iload hx hb dX11_missStep_45 (lv_at hl 4 rfl) ?_
        refine lv_i2l (v := p3.toInt64) hx hb dX11_missStep_47 rfl ?_
        refine lv_lconst (v := 0) hx hb dX11_missStep_48 (by decide) ?_
        refine lv_aload_n hx hb dX11_missStep_49 rfl (lv_at hl 0 rfl) ?_
        refine va_get (D := (dC, dI)) (ci := 11) (C := RX11) (T := TX11) (N := 95) hx hb hts inlX11 hown hK hP 0 gB_0 rfl 59 (by decide) (hts (.fieldLink RX11 124 "ShapeReaderModel" "missSteps" "[I") mw_28_4) (fun _ h9 => h9) rfl dX11_missStep_50 ?_
        refine lv_iload_n hx hb dX11_missStep_53 rfl (lv_at hl 3 rfl) ?_
        obtain ⟨hg9, h⟩ := ig h
        refine va_iald hx hb hK hP 38 37 gB_38 yB_38 (vp_in_iff.mpr hg9) dX11_missStep_54 ?_
        refine lv_iconst (v := 1) hx hb dX11_missStep_55 (by decide) ?_
        refine lv_isub hx hb dX11_missStep_56 ?_
        refine lv_i2l (v := ((q7.2.1 38 p2.toNatClampNeg) - 1).toInt64) hx hb dX11_missStep_57 rfl ?_
        obtain ⟨q10, hc, h⟩ := ib h
        have hF := va_frees hD hS hA
        refine va_calli (va_runS (As := [.long (p3.toInt64), .long 0, .long (((q7.2.1 38 p2.toNatClampNeg) - 1).toInt64)]) (rest := []) ⟨hx, hb, hml, hown, hts⟩ (s_X11_within hc) (va_cwS 3 hts (gS mw_29_0 mw_29_1 mw_0_15 mw_53_26) rfl rfl rfl (by decide +kernel) ⟨(Nat.le_of_ble_eq_true rfl), (Nat.le_of_ble_eq_true rfl)⟩) (vS hK hP hD hN) rfl rfl hl.1 rfl (lv_room (Nat.le_of_ble_eq_true rfl)) dX11_missStep_58 ⟨(Nat.le_of_ble_eq_true rfl), (Nat.le_of_ble_eq_true rfl)⟩) hS (fun q _ h => hF q h) hF (fun r11 u t H locs ht hvm hw hB _ _ hS => ?_)
        obtain rfl : r11 = q10.1 := hw
        replace hP : va_P (dC, dI) vwCl (wB a k q10.2) H := by rw [← ht]; exact hB.1
        replace hD := hD0 (q10.2)
        clear hB hF
        refine lv_if_eq (tgt := 80) hx hb dX11_missStep_61 (by decide) (fun hc => ?_) (fun hc => ?_)
        · replace h := ip hc h
          refine lv_iconst (v := (-1)) hx hb dX11_missStep_80 (by decide) ?_
          obtain rfl := Option.some.inj h
          exact W.iret hx hb hr (fun t ht hW => ⟨⟨_, (), rfl, rfl, ⟨by rw [ht]; exact hP, va_K.moved hW.alike hK, hD⟩⟩, hS.F ht⟩) hS.2.2 dX11_missStep_81
        · replace h := iq hc h
          refine lv_aload_n hx hb dX11_missStep_64 rfl (lv_at hl 0 rfl) ?_
          refine va_get (D := (dC, dI)) (ci := 11) (C := RX11) (T := TX11) (N := 95) hx hb hts inlX11 hown hK hP 0 gB_0 rfl 60 (by decide) (hts (.fieldLink RX11 127 "ShapeReaderModel" "missPath" "[I") mw_28_5) (fun _ h9 => h9) rfl dX11_missStep_65 ?_
          refine lv_sipush (v := 256) hx hb dX11_missStep_68 (by decide) ?_
          refine lv_iload_n hx hb dX11_missStep_71 rfl (lv_at hl 3 rfl) ?_
          refine lv_imul hx hb dX11_missStep_72 ?_
          refine lv_iload hx hb dX11_missStep_73 (lv_at hl 4 rfl) ?_
          refine lv_iadd hx hb dX11_missStep_75 ?_
          obtain ⟨hg12, h⟩ := ig h
          refine va_iald hx hb hK hP 39 38 gB_39 yB_39 (vp_in_iff.mpr hg12) dX11_missStep_76 ?_
          refine lv_goto (tgt := 81) hx hb dX11_missStep_77 (by decide) ?_
          obtain rfl := Option.some.inj h
          exact W.iret hx hb hr (fun t ht hW => ⟨⟨_, (), rfl, rfl, ⟨by rw [ht]; exact hP, va_K.moved hW.alike hK, hD⟩⟩, hS.F ht⟩) hS.2.2 dX11_missStep_81
    · replace h := ip hc h
      refine lv_iconst (v := (-1)) hx hb dX11_missStep_21 (by decide) ?_
      obtain rfl := Option.some.inj h
      exact W.iret hx hb hr (fun t ht hW => ⟨⟨_, (), rfl, rfl, ⟨by rw [ht]; exact hP, va_K.moved hW.alike hK, hD⟩⟩, hS.F ht⟩) hS.2.2 dX11_missStep_22

theorem s_X11_missStep {l : Launch} {dC : Nat → ClassId} {dI : Nat → Nat → Nat} {a : Nat → Nat} {k : Nat → ClassId} {sz : Nat} {p0 : Int32} {p1 : Int32} {p2 : Int32} {p3 : Int32} {σ : ST} {q : Int32 × ST} (h : f_X11_missStep  p0 p1 p2 p3 σ = some q) : Met l yX11_missStep (.code yX11_missStep cX11_missStep 5 (some .int) :: pw) ({ frames := 685, cells := 0, slots := 0, locals := 17414 } : Room) (va_Pc [.ref (a 0), .int p0, .int p1, .int p2, .int p3] (vPre dC dI (wB a k σ) (tB k) sz)) (qBi dC dI a k (va_A (wB a k σ) sz) q) 0 0 (va_A (wB a k σ) sz) := metB (fun A => qBi dC dI a k A q) (plainFor_of_name (by decide)) (Nat.le_of_ble_eq_true rfl) (fun _ _ _ _ _ _ _ _ hC => b_X11_missStep_e hC h)

def f_X11_moved (p0 : Int32) (σ : ST) : Option (Int32 × ST) := if 0 ≤ p0 then (some ((p0 - 400), σ)) else (some (p0, σ))

set_option maxRecDepth 100000 in
set_option maxHeartbeats 4000000 in
theorem b_X11_moved_e {p : Program} {l : Launch} {e : Env} {s : State} {m : MethodId} {args : Array Value} {below : List Frame} {meth : Method} {c : Code} {dC : Nat → ClassId} {dI : Nat → Nat → Nat} {a : Nat → Nat} {k : Nat → ClassId} {A : Nat → Prop} {q : Int32 × ST} (hC : CxB p s m args meth c dC dI k A cX11_moved RX11 (some .int) 1)   {p0 : Int32} {σ : ST} (h : f_X11_moved  p0 σ = some q) : GoB p l e ({ frames := 0, cells := 0, slots := 0, locals := 0 } : Room) s m args below meth c (MQ below (qBi dC dI a k A q) args s 0 0 A) dC dI a k A 1 0 σ (lv_args 0 [.int p0]) [] := by
  have hC0 := hC
  obtain ⟨hx, hb, hr, hml, hown, hts, hlocks, hA, hN, hK⟩ := hC0
  intro H locs ls hP hD hS hl
  have hD0 : ∀ σ1 : ST, va_D A (wB a k σ1) := fun σ1 => wB_D hD
  replace hl : lv_has ls 1 [(0, .int p0)] := hl
  unfold f_X11_moved at h
  refine lv_iload_n hx hb dX11_moved_0 rfl (lv_at hl 0 rfl) ?_
  refine lv_if_ge (tgt := 8) hx hb dX11_moved_1 (by decide) (fun hc => ?_) (fun hc => ?_)
  · replace h := ip hc h
    refine lv_iload_n hx hb dX11_moved_8 rfl (lv_at hl 0 rfl) ?_
    refine lv_sipush (v := 400) hx hb dX11_moved_9 (by decide) ?_
    refine lv_isub hx hb dX11_moved_12 ?_
    obtain rfl := Option.some.inj h
    exact W.iret hx hb hr (fun t ht hW => ⟨⟨_, (), rfl, rfl, ⟨by rw [ht]; exact hP, va_K.moved hW.alike hK, hD⟩⟩, hS.F ht⟩) hS.2.2 dX11_moved_13
  · replace h := iq hc h
    refine lv_iload_n hx hb dX11_moved_4 rfl (lv_at hl 0 rfl) ?_
    refine lv_goto (tgt := 13) hx hb dX11_moved_5 (by decide) ?_
    obtain rfl := Option.some.inj h
    exact W.iret hx hb hr (fun t ht hW => ⟨⟨_, (), rfl, rfl, ⟨by rw [ht]; exact hP, va_K.moved hW.alike hK, hD⟩⟩, hS.F ht⟩) hS.2.2 dX11_moved_13

theorem s_X11_moved {l : Launch} {dC : Nat → ClassId} {dI : Nat → Nat → Nat} {a : Nat → Nat} {k : Nat → ClassId} {sz : Nat} {p0 : Int32} {σ : ST} {q : Int32 × ST} (h : f_X11_moved  p0 σ = some q) : Met l yX11_moved (.code yX11_moved cX11_moved 1 (some .int) :: pw) ({ frames := 0, cells := 0, slots := 0, locals := 0 } : Room) (va_Pc [.int p0] (vPre dC dI (wB a k σ) (tB k) sz)) (qBi dC dI a k (va_A (wB a k σ) sz) q) 0 0 (va_A (wB a k σ) sz) := metB (fun A => qBi dC dI a k A q) (plainFor_of_name (by decide)) (Nat.le_of_ble_eq_true rfl) (fun _ _ _ _ _ _ _ _ hC => b_X11_moved_e hC h)

def f_X11_node_34 (x1 : Int32) (x2 : Int32) (y0 : Int32) (σ : ST) : Option (Int32 × ST) := if ((stI σ 0 0 y0).1 0 0) ≤ 0 then (if x2 = 0 then (if 0 ≤ x1.toInt ∧ x1.toInt < 400 then (some (((stI σ 0 0 y0).1 42 x1.toNatClampNeg), (stI σ 0 0 y0))) else none) else (if x2 = 1 then (if 0 ≤ x1.toInt ∧ x1.toInt < 400 then (some (((stI σ 0 0 y0).1 43 x1.toNatClampNeg), (stI σ 0 0 y0))) else none) else (if x2 = 2 then (if 0 ≤ x1.toInt ∧ x1.toInt < 400 then (some (((stI σ 0 0 y0).1 44 x1.toNatClampNeg), (stI σ 0 0 y0))) else none) else (if x2 = 3 then (if 0 ≤ x1.toInt ∧ x1.toInt < 400 then (some (((stI σ 0 0 y0).1 45 x1.toNatClampNeg), (stI σ 0 0 y0))) else none) else (if 0 ≤ x1.toInt ∧ x1.toInt < 400 then (if ((stI σ 0 0 y0).1 46 x1.toNatClampNeg) = 0 then (some (0, (stI σ 0 0 y0))) else (some (1, (stI σ 0 0 y0)))) else none))))) else (some (0, (stI σ 0 0 y0)))
def f_X11_node_33 (x1 : Int32) (x2 : Int32) (σ : ST) : Option (Int32 × ST) := f_X11_node_34  x1 x2 1 σ
def f_X11_node (p0 : Int32) (p1 : Int32) (σ : ST) : Option (Int32 × ST) := (f_X11_within  (p0.toInt64) 0 (((σ.1 0 73) - 1).toInt64) σ).bind fun q1 => if q1.1 = 0 then (f_X11_node_33  p0 p1 q1.2) else ((f_X11_within  (p1.toInt64) 0 4 q1.2).bind fun q3 => if q3.1 = 0 then (f_X11_node_33  p0 p1 q3.2) else (f_X11_node_34  p0 p1 0 q3.2))

set_option maxRecDepth 100000 in
set_option maxHeartbeats 4000000 in
theorem b_X11_node_34 {p : Program} {l : Launch} {e : Env} {s : State} {m : MethodId} {args : Array Value} {below : List Frame} {meth : Method} {c : Code} {dC : Nat → ClassId} {dI : Nat → Nat → Nat} {a : Nat → Nat} {k : Nat → ClassId} {A : Nat → Prop} {q : Int32 × ST} (hC : CxB p s m args meth c dC dI k A cX11_node RX11 (some .int) 3)   {x1 : Int32} {x2 : Int32} {y0 : Int32} {σ : ST} (h : f_X11_node_34  x1 x2 y0 σ = some q) : GoB p l e ({ frames := 1, cells := 0, slots := 0, locals := 25 } : Room) s m args below meth c (MQ below (qBi dC dI a k A q) args s 0 0 A) dC dI a k A 3 34 σ [(0, .ref (a 0)), (1, .int x1), (2, .int x2)] [.int y0, .ref (a 0)] := by
  have hC0 := hC
  obtain ⟨hx, hb, hr, hml, hown, hts, hlocks, hA, hN, hK⟩ := hC0
  intro H locs ls hP hD hS hl
  have hD0 : ∀ σ1 : ST, va_D A (wB a k σ1) := fun σ1 => wB_D hD
  unfold f_X11_node_34 at h
  refine va_put (D := (dC, dI)) (ci := 11) (ty := .int) (C := RX11) (T := TX11) (N := 95) hx hb hts inlX11 tyX11 tyX11_ok nmX11 hown hK hP hD hS 0 gB_0 rfl 0 (by decide) (hts (.fieldLink RX11 178 "ShapeReaderModel" "thrown" "I") mw_28_22) (fun _ h9 => h9) rfl (by decide +kernel) rfl rfl (Nat.le_of_ble_eq_true rfl) dX11_node_34 (fun H locs hP hD hS => ?_)
  replace hP := uB_0_0 hP
  replace hD := hD0 ((stI σ 0 0 y0))
  refine lv_aload_n hx hb dX11_node_37 rfl (lv_at hl 0 rfl) ?_
  refine va_get (D := (dC, dI)) (ci := 11) (C := RX11) (T := TX11) (N := 95) hx hb hts inlX11 hown hK hP 0 gB_0 rfl 0 (by decide) (hts (.fieldLink RX11 178 "ShapeReaderModel" "thrown" "I") mw_28_22) (fun _ h9 => h9) rfl dX11_node_38 ?_
  refine lv_if_le (tgt := 46) hx hb dX11_node_41 (by decide) (fun hc => ?_) (fun hc => ?_)
  · replace h := ip hc h
    refine lv_iload_n hx hb dX11_node_46 rfl (lv_at hl 2 rfl) ?_
    rcases (il_sw4 x2 (0) (1) (2) (3)) with s1 | s2 | s3 | s4 | ⟨s1, s2, s3, s4⟩
    · replace h := ip s1 h
      refine lv_tableIn (off := 29) (tgt := 76) hx hb dX11_node_47 (by rw [s1]; decide) (by rw [s1]; decide) (by rw [s1]; rfl) (by decide) ?_
      refine lv_aload_n hx hb dX11_node_76 rfl (lv_at hl 0 rfl) ?_
      refine va_get (D := (dC, dI)) (ci := 11) (C := RX11) (T := TX11) (N := 95) hx hb hts inlX11 hown hK hP 0 gB_0 rfl 74 (by decide) (hts (.fieldLink RX11 136 "ShapeReaderModel" "toldSort" "[I") mw_28_8) (fun _ h9 => h9) rfl dX11_node_77 ?_
      refine lv_iload_n hx hb dX11_node_80 rfl (lv_at hl 1 rfl) ?_
      obtain ⟨hg5, h⟩ := ig h
      refine va_iald hx hb hK hP 42 41 gB_42 yB_42 (vp_in_iff.mpr hg5) dX11_node_81 ?_
      obtain rfl := Option.some.inj h
      exact W.iret hx hb hr (fun t ht hW => ⟨⟨_, (), rfl, rfl, ⟨by rw [ht]; exact hP, va_K.moved hW.alike hK, hD⟩⟩, hS.F ht⟩) hS.2.2 dX11_node_82
    · replace h := ip s2 (iq (by rw [s2]; decide) h)
      refine lv_tableIn (off := 36) (tgt := 83) hx hb dX11_node_47 (by rw [s2]; decide) (by rw [s2]; decide) (by rw [s2]; rfl) (by decide) ?_
      refine lv_aload_n hx hb dX11_node_83 rfl (lv_at hl 0 rfl) ?_
      refine va_get (D := (dC, dI)) (ci := 11) (C := RX11) (T := TX11) (N := 95) hx hb hts inlX11 hown hK hP 0 gB_0 rfl 75 (by decide) (hts (.fieldLink RX11 139 "ShapeReaderModel" "toldParent" "[I") mw_28_9) (fun _ h9 => h9) rfl dX11_node_84 ?_
      refine lv_iload_n hx hb dX11_node_87 rfl (lv_at hl 1 rfl) ?_
      obtain ⟨hg6, h⟩ := ig h
      refine va_iald hx hb hK hP 43 42 gB_43 yB_43 (vp_in_iff.mpr hg6) dX11_node_88 ?_
      obtain rfl := Option.some.inj h
      exact W.iret hx hb hr (fun t ht hW => ⟨⟨_, (), rfl, rfl, ⟨by rw [ht]; exact hP, va_K.moved hW.alike hK, hD⟩⟩, hS.F ht⟩) hS.2.2 dX11_node_89
    · replace h := ip s3 (iq (by rw [s3]; decide) (iq (by rw [s3]; decide) h))
      refine lv_tableIn (off := 43) (tgt := 90) hx hb dX11_node_47 (by rw [s3]; decide) (by rw [s3]; decide) (by rw [s3]; rfl) (by decide) ?_
      refine lv_aload_n hx hb dX11_node_90 rfl (lv_at hl 0 rfl) ?_
      refine va_get (D := (dC, dI)) (ci := 11) (C := RX11) (T := TX11) (N := 95) hx hb hts inlX11 hown hK hP 0 gB_0 rfl 76 (by decide) (hts (.fieldLink RX11 142 "ShapeReaderModel" "toldIndex" "[I") mw_28_10) (fun _ h9 => h9) rfl dX11_node_91 ?_
      refine lv_iload_n hx hb dX11_node_94 rfl (lv_at hl 1 rfl) ?_
      obtain ⟨hg7, h⟩ := ig h
      refine va_iald hx hb hK hP 44 43 gB_44 yB_44 (vp_in_iff.mpr hg7) dX11_node_95 ?_
      obtain rfl := Option.some.inj h
      exact W.iret hx hb hr (fun t ht hW => ⟨⟨_, (), rfl, rfl, ⟨by rw [ht]; exact hP, va_K.moved hW.alike hK, hD⟩⟩, hS.F ht⟩) hS.2.2 dX11_node_96
    · replace h := ip s4 (iq (by rw [s4]; decide) (iq (by rw [s4]; decide) (iq (by rw [s4]; decide) h)))
      refine lv_tableIn (off := 50) (tgt := 97) hx hb dX11_node_47 (by rw [s4]; decide) (by rw [s4]; decide) (by rw [s4]; rfl) (by decide) ?_
      refine lv_aload_n hx hb dX11_node_97 rfl (lv_at hl 0 rfl) ?_
      refine va_get (D := (dC, dI)) (ci := 11) (C := RX11) (T := TX11) (N := 95) hx hb hts inlX11 hown hK hP 0 gB_0 rfl 77 (by decide) (hts (.fieldLink RX11 145 "ShapeReaderModel" "toldHas" "[I") mw_28_11) (fun _ h9 => h9) rfl dX11_node_98 ?_
      refine lv_iload_n hx hb dX11_node_101 rfl (lv_at hl 1 rfl) ?_
      obtain ⟨hg8, h⟩ := ig h
      refine va_iald hx hb hK hP 45 44 gB_45 yB_45 (vp_in_iff.mpr hg8) dX11_node_102 ?_
      obtain rfl := Option.some.inj h
      exact W.iret hx hb hr (fun t ht hW => ⟨⟨_, (), rfl, rfl, ⟨by rw [ht]; exact hP, va_K.moved hW.alike hK, hD⟩⟩, hS.F ht⟩) hS.2.2 dX11_node_103
    · replace h := (iq s4 (iq s3 (iq s2 (iq s1 h))))
      refine lv_tableOut (tgt := 104) hx hb dX11_node_47 (by have a0 := il_ne s1; have e0 : (0 : Int32).toInt = 0 := (by decide); have a1 := il_ne s2; have e1 : (1 : Int32).toInt = 1 := (by decide); have a2 := il_ne s3; have e2 : (2 : Int32).toInt = 2 := (by decide); have a3 := il_ne s4; have e3 : (3 : Int32).toInt = 3 := (by decide); omega) (by decide) ?_
      refine lv_aload_n hx hb dX11_node_104 rfl (lv_at hl 0 rfl) ?_
      refine va_get (D := (dC, dI)) (ci := 11) (C := RX11) (T := TX11) (N := 95) hx hb hts inlX11 hown hK hP 0 gB_0 rfl 78 (by decide) (hts (.fieldLink RX11 148 "ShapeReaderModel" "toldFilled" "[Z") mw_28_12) (fun _ h9 => h9) rfl dX11_node_105 ?_
      refine lv_iload_n hx hb dX11_node_108 rfl (lv_at hl 1 rfl) ?_
      obtain ⟨hg9, h⟩ := ig h
      refine va_zald hx hb hK hP 46 45 gB_46 yB_46 (vp_in_iff.mpr hg9) dX11_node_109 ?_
      refine lv_if_eq (tgt := 117) hx hb dX11_node_110 (by decide) (fun hc => ?_) (fun hc => ?_)
      · replace h := ip hc h
        refine lv_iconst (v := 0) hx hb dX11_node_117 (by decide) ?_
        obtain rfl := Option.some.inj h
        exact W.iret hx hb hr (fun t ht hW => ⟨⟨_, (), rfl, rfl, ⟨by rw [ht]; exact hP, va_K.moved hW.alike hK, hD⟩⟩, hS.F ht⟩) hS.2.2 dX11_node_118
      · replace h := iq hc h
        refine lv_iconst (v := 1) hx hb dX11_node_113 (by decide) ?_
        refine lv_goto (tgt := 118) hx hb dX11_node_114 (by decide) ?_
        obtain rfl := Option.some.inj h
        exact W.iret hx hb hr (fun t ht hW => ⟨⟨_, (), rfl, rfl, ⟨by rw [ht]; exact hP, va_K.moved hW.alike hK, hD⟩⟩, hS.F ht⟩) hS.2.2 dX11_node_118
  · replace h := iq hc h
    refine lv_iconst (v := 0) hx hb dX11_node_44 (by decide) ?_
    obtain rfl := Option.some.inj h
    exact W.iret hx hb hr (fun t ht hW => ⟨⟨_, (), rfl, rfl, ⟨by rw [ht]; exact hP, va_K.moved hW.alike hK, hD⟩⟩, hS.F ht⟩) hS.2.2 dX11_node_45

set_option maxRecDepth 100000 in
set_option maxHeartbeats 4000000 in
theorem b_X11_node_33 {p : Program} {l : Launch} {e : Env} {s : State} {m : MethodId} {args : Array Value} {below : List Frame} {meth : Method} {c : Code} {dC : Nat → ClassId} {dI : Nat → Nat → Nat} {a : Nat → Nat} {k : Nat → ClassId} {A : Nat → Prop} {q : Int32 × ST} (hC : CxB p s m args meth c dC dI k A cX11_node RX11 (some .int) 3)   {x1 : Int32} {x2 : Int32} {σ : ST} (h : f_X11_node_33  x1 x2 σ = some q) : GoB p l e ({ frames := 1, cells := 0, slots := 0, locals := 25 } : Room) s m args below meth c (MQ below (qBi dC dI a k A q) args s 0 0 A) dC dI a k A 3 33 σ [(0, .ref (a 0)), (1, .int x1), (2, .int x2)] [.ref (a 0)] := by
  have hC0 := hC
  obtain ⟨hx, hb, hr, hml, hown, hts, hlocks, hA, hN, hK⟩ := hC0
  intro H locs ls hP hD hS hl
  have hD0 : ∀ σ1 : ST, va_D A (wB a k σ1) := fun σ1 => wB_D hD
  unfold f_X11_node_33 at h
  refine lv_iconst (v := 1) hx hb dX11_node_33 (by decide) ?_
  exact b_X11_node_34 hC h _ _ _ hP hD hS (lv_sub hl [0, 1, 2] rfl)

set_option maxRecDepth 100000 in
set_option maxHeartbeats 4000000 in
theorem b_X11_node_e {p : Program} {l : Launch} {e : Env} {s : State} {m : MethodId} {args : Array Value} {below : List Frame} {meth : Method} {c : Code} {dC : Nat → ClassId} {dI : Nat → Nat → Nat} {a : Nat → Nat} {k : Nat → ClassId} {A : Nat → Prop} {q : Int32 × ST} (hC : CxB p s m args meth c dC dI k A cX11_node RX11 (some .int) 3)   {p0 : Int32} {p1 : Int32} {σ : ST} (h : f_X11_node  p0 p1 σ = some q) : GoB p l e ({ frames := 1, cells := 0, slots := 0, locals := 25 } : Room) s m args below meth c (MQ below (qBi dC dI a k A q) args s 0 0 A) dC dI a k A 3 0 σ (lv_args 0 [.ref (a 0), .int p0, .int p1]) [] := by
  have hC0 := hC
  obtain ⟨hx, hb, hr, hml, hown, hts, hlocks, hA, hN, hK⟩ := hC0
  intro H locs ls hP hD hS hl
  have hD0 : ∀ σ1 : ST, va_D A (wB a k σ1) := fun σ1 => wB_D hD
  replace hl : lv_has ls 3 [(0, .ref (a 0)), (1, .int p0), (2, .int p1)] := hl
  unfold f_X11_node at h
  refine lv_aload_n hx hb dX11_node_0 rfl (lv_at hl 0 rfl) ?_
  refine lv_iload_n hx hb dX11_node_1 rfl (lv_at hl 1 rfl) ?_
  refine lv_i2l (v := p0.toInt64) hx hb dX11_node_2 rfl ?_
  refine lv_lconst (v := 0) hx hb dX11_node_3 (by decide) ?_
  refine lv_aload_n hx hb dX11_node_4 rfl (lv_at hl 0 rfl) ?_
  refine va_get (D := (dC, dI)) (ci := 11) (C := RX11) (T := TX11) (N := 95) hx hb hts inlX11 hown hK hP 0 gB_0 rfl 73 (by decide) (hts (.fieldLink RX11 392 "ShapeReaderModel" "nodeMany" "I") mw_33_17) (fun _ h9 => h9) rfl dX11_node_5 ?_
  refine lv_iconst (v := 1) hx hb dX11_node_8 (by decide) ?_
  refine lv_isub hx hb dX11_node_9 ?_
  refine lv_i2l (v := ((σ.1 0 73) - 1).toInt64) hx hb dX11_node_10 rfl ?_
  obtain ⟨q1, hc, h⟩ := ib h
  have hF := va_frees hD hS hA
  refine va_calli (va_runS (As := [.long (p0.toInt64), .long 0, .long (((σ.1 0 73) - 1).toInt64)]) (rest := [.ref (a 0)]) ⟨hx, hb, hml, hown, hts⟩ (s_X11_within hc) (va_cwS 3 hts (gS mw_29_0 mw_29_1 mw_0_15 mw_53_26) rfl rfl rfl (by decide +kernel) ⟨(Nat.le_of_ble_eq_true rfl), (Nat.le_of_ble_eq_true rfl)⟩) (vS hK hP hD hN) rfl rfl hl.1 rfl (lv_room (Nat.le_of_ble_eq_true rfl)) dX11_node_11 ⟨(Nat.le_of_ble_eq_true rfl), (Nat.le_of_ble_eq_true rfl)⟩) hS (fun q _ h => hF q h) hF (fun r2 u t H locs ht hvm hw hB _ _ hS => ?_)
  obtain rfl : r2 = q1.1 := hw
  replace hP : va_P (dC, dI) vwCl (wB a k q1.2) H := by rw [← ht]; exact hB.1
  replace hD := hD0 (q1.2)
  clear hB hF
  refine lv_if_eq (tgt := 33) hx hb dX11_node_14 (by decide) (fun hc => ?_) (fun hc => ?_)
  · replace h := ip hc h
    exact b_X11_node_33 hC h _ _ _ hP hD hS (lv_sub hl [0, 1, 2] rfl)
  · replace h := iq hc h
    refine lv_iload_n hx hb dX11_node_17 rfl (lv_at hl 2 rfl) ?_
    refine lv_i2l (v := p1.toInt64) hx hb dX11_node_18 rfl ?_
    refine lv_lconst (v := 0) hx hb dX11_node_19 (by decide) ?_
    refine lv_ldc2 (v := 4) hx hb hown (hts (.constantLong RX11 627 (4)) mw_39_11) dX11_node_20 ?_
    obtain ⟨q3, hc, h⟩ := ib h
    have hF := va_frees hD hS hA
    refine va_calli (va_runS (As := [.long (p1.toInt64), .long 0, .long 4]) (rest := [.ref (a 0)]) ⟨hx, hb, hml, hown, hts⟩ (s_X11_within hc) (va_cwS 3 hts (gS mw_29_0 mw_29_1 mw_0_15 mw_53_26) rfl rfl rfl (by decide +kernel) ⟨(Nat.le_of_ble_eq_true rfl), (Nat.le_of_ble_eq_true rfl)⟩) (vS hK hP hD hN) rfl rfl hl.1 rfl (lv_room (Nat.le_of_ble_eq_true rfl)) dX11_node_23 ⟨(Nat.le_of_ble_eq_true rfl), (Nat.le_of_ble_eq_true rfl)⟩) hS (fun q _ h => hF q h) hF (fun r4 u t H locs ht hvm hw hB _ _ hS => ?_)
    obtain rfl : r4 = q3.1 := hw
    replace hP : va_P (dC, dI) vwCl (wB a k q3.2) H := by rw [← ht]; exact hB.1
    replace hD := hD0 (q3.2)
    clear hB hF
    refine lv_if_eq (tgt := 33) hx hb dX11_node_26 (by decide) (fun hc => ?_) (fun hc => ?_)
    · replace h := ip hc h
      exact b_X11_node_33 hC h _ _ _ hP hD hS (lv_sub hl [0, 1, 2] rfl)
    · replace h := iq hc h
      refine lv_iconst (v := 0) hx hb dX11_node_29 (by decide) ?_
      refine lv_goto (tgt := 34) hx hb dX11_node_30 (by decide) ?_
      exact b_X11_node_34 hC h _ _ _ hP hD hS (lv_sub hl [0, 1, 2] rfl)

theorem s_X11_node {l : Launch} {dC : Nat → ClassId} {dI : Nat → Nat → Nat} {a : Nat → Nat} {k : Nat → ClassId} {sz : Nat} {p0 : Int32} {p1 : Int32} {σ : ST} {q : Int32 × ST} (h : f_X11_node  p0 p1 σ = some q) : Met l yX11_node (.code yX11_node cX11_node 3 (some .int) :: pw) ({ frames := 1, cells := 0, slots := 0, locals := 25 } : Room) (va_Pc [.ref (a 0), .int p0, .int p1] (vPre dC dI (wB a k σ) (tB k) sz)) (qBi dC dI a k (va_A (wB a k σ) sz) q) 0 0 (va_A (wB a k σ) sz) := metB (fun A => qBi dC dI a k A q) (plainFor_of_name (by decide)) (Nat.le_of_ble_eq_true rfl) (fun _ _ _ _ _ _ _ _ hC => b_X11_node_e hC h)

def f_X11_record_140 (x1 : Int32) (x3 : Int32) (σ : ST) : Option ((Int32 × ST) × Nat) := if 0 ≤ x1.toInt ∧ x1.toInt < 12 then (if x3 = 0 then (some ((0, (stI σ 8 x1.toNatClampNeg ((σ.1 8 x1.toNatClampNeg) + 1))), 0)) else ((f_X11_mark  59 (stI σ 8 x1.toNatClampNeg ((σ.1 8 x1.toNatClampNeg) + 1))).bind fun q2 => if q2.1 = 0 then (some ((0, q2.2), 0)) else (some ((1, q2.2), 0)))) else none
def f_X11_record_114  : Nat → Int32 → Int32 → Int32 → ST → Option ((Int32 × ST) × Nat)
  | 0, _, _, _, _ => none
  | n + 1, x1, x2, x3, σ => if x3 = 0 then (f_X11_record_140  x1 x3 σ) else (if (σ.1 0 13) = 44 then ((f_X11_go   σ).bind fun q1 => (f_X11_field  x2 q1).bind fun q3 => ac q3.2 (f_X11_record_114  n x1 x2 q3.1.1 q3.1.2)) else (f_X11_record_140  x1 x3 σ))
def f_X11_record (p0 : Int32) (σ : ST) : Option ((Int32 × ST) × Nat) := (f_X11_isRecord   σ).bind fun q1 => ac q1.2 (if q1.1.1 = 0 then ((f_X11_wrongHere  1 q1.1.2).bind fun q22 => if q22.1 = 0 ∨ q22.1 = 1 then some ((q22.1, q22.2), 0) else none) else (if 0 ≤ p0.toInt ∧ p0.toInt < 12 then (if (q1.1.2.1 8 p0.toNatClampNeg) = 6 then ((f_X11_wrongHere  4 q1.1.2).bind fun q20 => if q20.1 = 0 ∨ q20.1 = 1 then some ((q20.1, q20.2), 0) else none) else ((f_X11_go   q1.1.2).bind fun q4 => (f_X11_isName   q4).bind fun q6 => ac q6.2 (if q6.1.1 = 0 then ((f_X11_wrongHere  1 q6.1.2).bind fun q18 => if q18.1 = 0 ∨ q18.1 = 1 then some ((q18.1, q18.2), 0) else none) else ((f_X11_recordOf  p0 (q6.1.2.2.1 0 7) q6.1.2).bind fun q8 => if q8.1 < 0 then (if 0 ≤ ((6 * p0) + (q8.2.1 8 p0.toNatClampNeg)).toInt ∧ ((6 * p0) + (q8.2.1 8 p0.toNatClampNeg)).toInt < 72 then ((some (stI (stL q8.2 9 ((6 * p0) + (q8.2.1 8 p0.toNatClampNeg)).toNatClampNeg (q8.2.2.1 0 7)) 10 ((6 * p0) + (q8.2.1 8 p0.toNatClampNeg)).toNatClampNeg ((stL q8.2 9 ((6 * p0) + (q8.2.1 8 p0.toNatClampNeg)).toNatClampNeg (q8.2.2.1 0 7)).1 0 8))).bind fun z11 => (f_X11_go   (stI z11 11 ((6 * p0) + (q8.2.1 8 p0.toNatClampNeg)).toNatClampNeg 0)).bind fun q12 => (f_X11_field  ((6 * p0) + (q8.2.1 8 p0.toNatClampNeg)) q12).bind fun q14 => ac q14.2 (f_X11_record_114  FU p0 ((6 * p0) + (q8.2.1 8 p0.toNatClampNeg)) q14.1.1 q14.1.2)) else none) else ((f_X11_wrongHere  3 q8.2).bind fun q16 => if q16.1 = 0 ∨ q16.1 = 1 then some ((q16.1, q16.2), 0) else none))))) else none))

set_option maxRecDepth 100000 in
set_option maxHeartbeats 4000000 in
theorem b_X11_record_140 {p : Program} {l : Launch} {e : Env} {s : State} {m : MethodId} {args : Array Value} {below : List Frame} {meth : Method} {c : Code} {dC : Nat → ClassId} {dI : Nat → Nat → Nat} {a : Nat → Nat} {k : Nat → ClassId} {A : Nat → Prop} {q : Int32 × ST} {T r κ : Nat} (hC : CxB p s m args meth c dC dI k A cX11_record RX11 (some .boolean) 4)   {x1 : Int32} {x3 : Int32} {σ : ST} (h : f_X11_record_140  x1 x3 σ = some (q, r)) (hκ : κ + r = T) : GkB p l e ({ frames := 347, cells := T, slots := 6 * T, locals := 8657 } : Room) s m args below meth c (MQ below (qBi dC dI a k A q) args s T (6 * T) A) dC dI a k A 4 140 κ σ [(0, .ref (a 0)), (1, .int x1), (3, .int x3)] [] := by
  have hC0 := hC
  obtain ⟨hx, hb, hr, hml, hown, hts, hlocks, hA, hN, hK⟩ := hC0
  intro H locs ls hP hD hS hl
  have hD0 : ∀ σ1 : ST, va_D A (wB a k σ1) := fun σ1 => wB_D hD
  unfold f_X11_record_140 at h
  refine lv_aload_n hx hb dX11_record_140 rfl (lv_at hl 0 rfl) ?_
  refine va_get (D := (dC, dI)) (ci := 11) (C := RX11) (T := TX11) (N := 95) hx hb hts inlX11 hown hK hP 0 gB_0 rfl 20 (by decide) (hts (.fieldLink RX11 33 "ShapeReaderModel" "recordMany" "[I") mw_27_4) (fun _ h9 => h9) rfl dX11_record_141 ?_
  refine lv_iload_n hx hb dX11_record_144 rfl (lv_at hl 1 rfl) ?_
  refine lv_dup2_11 hx hb dX11_record_145 rfl rfl ?_
  obtain ⟨hg1, h⟩ := ig h
  refine va_iald hx hb hK hP 8 7 gB_8 yB_8 (vp_in_iff.mpr hg1) dX11_record_146 ?_
  refine lv_iconst (v := 1) hx hb dX11_record_147 (by decide) ?_
  refine lv_iadd hx hb dX11_record_148 ?_
  refine va_iast hx hb hK hP hD hS 8 7 gB_8 yB_8 (vp_in_iff.mpr hg1) dX11_record_149 (fun H locs hP hD hS => ?_)
  replace hP := uB_8 hP
  replace hD := hD0 ((stI σ 8 x1.toNatClampNeg ((σ.1 8 x1.toNatClampNeg) + 1)))
  refine lv_iload_n hx hb dX11_record_150 rfl (lv_at hl 2 rfl) ?_
  refine lv_if_eq (tgt := 167) hx hb dX11_record_151 (by decide) (fun hc => ?_) (fun hc => ?_)
  · replace h := ip hc h
    refine lv_iconst (v := 0) hx hb dX11_record_167 (by decide) ?_
    obtain ⟨rfl, rfl⟩ := Prod.mk.inj (Option.some.inj h)
    subst hκ
    exact W.zret hx hb hr rfl (fun t ht hW => ⟨⟨_, (), rfl, rfl, ⟨by rw [ht]; exact hP, va_K.moved hW.alike hK, hD⟩⟩, hS.F ht⟩) hS.2.2 dX11_record_168
  · replace h := iq hc h
    refine lv_aload_n hx hb dX11_record_154 rfl (lv_at hl 0 rfl) ?_
    refine lv_bipush (v := 59) hx hb dX11_record_155 (by decide) ?_
    obtain ⟨q2, hc, h⟩ := ib h
    have hF := va_frees hD hS hA
    refine va_calli (va_runV (As := [.int 59]) (rest := []) ⟨hx, hb, hml, hown, hts⟩ (s_X11_mark hc) (cwV 1 hts (gV mw_32_13 mw_32_14 mw_32_15 mw_0_15 mw_54_11) rfl rfl rfl (by decide +kernel) ⟨(Nat.le_of_ble_eq_true rfl), (Nat.le_of_ble_eq_true rfl)⟩) (vV (ci := 11) (q0 := 0) hK hP hD hN rfl gB_0) rfl rfl hl.1 rfl (lv_room (Nat.le_of_ble_eq_true rfl)) dX11_record_157 ⟨by show κ + 0 ≤ T; omega, by show 6 * κ + 0 ≤ 6 * T; omega⟩) hS (fun q _ h => hF q h) hF (fun r3 u t H locs ht hvm hw hB _ _ hS => ?_)
    obtain rfl : r3 = q2.1 := hw
    replace hP : va_P (dC, dI) vwCl (wB a k q2.2) H := by rw [← ht]; exact hB.1
    replace hD := hD0 (q2.2)
    clear hB hF
    refine lv_if_eq (tgt := 167) hx hb dX11_record_160 (by decide) (fun hc => ?_) (fun hc => ?_)
    · replace h := ip hc h
      refine lv_iconst (v := 0) hx hb dX11_record_167 (by decide) ?_
      obtain ⟨rfl, rfl⟩ := Prod.mk.inj (Option.some.inj h)
      subst hκ
      exact W.zret hx hb hr rfl (fun t ht hW => ⟨⟨_, (), rfl, rfl, ⟨by rw [ht]; exact hP, va_K.moved hW.alike hK, hD⟩⟩, hS.F ht⟩) hS.2.2 dX11_record_168
    · replace h := iq hc h
      refine lv_iconst (v := 1) hx hb dX11_record_163 (by decide) ?_
      refine lv_goto (tgt := 168) hx hb dX11_record_164 (by decide) ?_
      obtain ⟨rfl, rfl⟩ := Prod.mk.inj (Option.some.inj h)
      subst hκ
      exact W.zret hx hb hr rfl (fun t ht hW => ⟨⟨_, (), rfl, rfl, ⟨by rw [ht]; exact hP, va_K.moved hW.alike hK, hD⟩⟩, hS.F ht⟩) hS.2.2 dX11_record_168

set_option maxRecDepth 100000 in
set_option maxHeartbeats 4000000 in
theorem b_X11_record_114 {p : Program} {l : Launch} {e : Env} {s : State} {m : MethodId} {args : Array Value} {below : List Frame} {meth : Method} {c : Code} {dC : Nat → ClassId} {dI : Nat → Nat → Nat} {a : Nat → Nat} {k : Nat → ClassId} {A : Nat → Prop} {q : Int32 × ST} {T : Nat} (hC : CxB p s m args meth c dC dI k A cX11_record RX11 (some .boolean) 4)   : ∀ (n : Nat) (x1 : Int32) (x2 : Int32) (x3 : Int32) (σ : ST) (κ r : Nat), f_X11_record_114  n x1 x2 x3 σ = some (q, r) → κ + r = T → GkB p l e ({ frames := 347, cells := T, slots := 6 * T, locals := 8657 } : Room) s m args below meth c (MQ below (qBi dC dI a k A q) args s T (6 * T) A) dC dI a k A 4 114 κ σ [(0, .ref (a 0)), (1, .int x1), (2, .int x2), (3, .int x3)] [] := by
  intro n
  induction n with
  | zero =>
    intro x1 x2 x3 σ κ r h
    rw [f_X11_record_114] at h
    cases h
  | succ n ih =>
    intro x1 x2 x3 σ κ r h hκ
    have hC0 := hC
    obtain ⟨hx, hb, hr, hml, hown, hts, hlocks, hA, hN, hK⟩ := hC0
    intro H locs ls hP hD hS hl
    have hD0 : ∀ σ1 : ST, va_D A (wB a k σ1) := fun σ1 => wB_D hD
    rw [f_X11_record_114] at h
    refine lv_iload_n hx hb dX11_record_114 rfl (lv_at hl 3 rfl) ?_
    refine lv_if_eq (tgt := 140) hx hb dX11_record_115 (by decide) (fun hc => ?_) (fun hc => ?_)
    · replace h := ip hc h
      exact b_X11_record_140 hC h hκ _ _ _ hP hD hS (lv_sub hl [0, 1, 3] rfl)
    · replace h := iq hc h
      refine lv_aload_n hx hb dX11_record_118 rfl (lv_at hl 0 rfl) ?_
      refine va_get (D := (dC, dI)) (ci := 11) (C := RX11) (T := TX11) (N := 95) hx hb hts inlX11 hown hK hP 0 gB_0 rfl 13 (by decide) (hts (.fieldLink RX11 253 "ShapeReaderModel" "sign" "I") mw_29_26) (fun _ h9 => h9) rfl dX11_record_119 ?_
      refine lv_bipush (v := 44) hx hb dX11_record_122 (by decide) ?_
      refine lv_icmp_ne (tgt := 140) hx hb dX11_record_124 (by decide) (fun hc => ?_) (fun hc => ?_)
      · replace h := iq hc h
        exact b_X11_record_140 hC h hκ _ _ _ hP hD hS (lv_sub hl [0, 1, 3] rfl)
      · replace h := ip hc h
        refine lv_aload_n hx hb dX11_record_127 rfl (lv_at hl 0 rfl) ?_
        obtain ⟨q1, hc, h⟩ := ib h
        have hF := va_frees hD hS hA
        refine va_callv (va_runV (As := []) (rest := []) ⟨hx, hb, hml, hown, hts⟩ (s_X11_go hc) (cwV 0 hts (gV mw_30_12 mw_30_13 mw_30_14 mw_0_15 mw_54_6) rfl rfl rfl (by decide +kernel) ⟨(Nat.le_of_ble_eq_true rfl), (Nat.le_of_ble_eq_true rfl)⟩) (vV (ci := 11) (q0 := 0) hK hP hD hN rfl gB_0) rfl rfl hl.1 rfl (lv_room (Nat.le_of_ble_eq_true rfl)) dX11_record_128 ⟨by show κ + 0 ≤ T; omega, by show 6 * κ + 0 ≤ 6 * T; omega⟩) hS (fun q _ h => hF q h) hF (fun u t H locs ht hvm hw hB _ _ hS => ?_)
        replace hP : va_P (dC, dI) vwCl (wB a k q1) H := by rw [← ht]; exact hB.1
        replace hD := hD0 (q1)
        clear hB hF
        refine lv_aload_n hx hb dX11_record_131 rfl (lv_at hl 0 rfl) ?_
        refine lv_iload_n hx hb dX11_record_132 rfl (lv_at hl 2 rfl) ?_
        obtain ⟨q3, hc, h⟩ := ib h
        obtain ⟨r2, h, hz⟩ := acE h
        have hF := va_frees hD hS hA
        refine va_calli (va_runV (As := [.int x2]) (rest := []) ⟨hx, hb, hml, hown, hts⟩ (s_X11_field (q := q3.1) (r := q3.2) hc) (cwV 1 hts (gV mw_32_25 mw_32_26 mw_32_27 mw_0_15 mw_55_0) rfl rfl rfl (by decide +kernel) ⟨(Nat.le_of_ble_eq_true rfl), (Nat.le_of_ble_eq_true rfl)⟩) (vV (ci := 11) (q0 := 0) hK hP hD hN rfl gB_0) rfl rfl hl.1 rfl (lv_room (Nat.le_of_ble_eq_true rfl)) dX11_record_133 ⟨by show κ + q3.2 ≤ T; omega, by show 6 * κ + 6 * q3.2 ≤ 6 * T; omega⟩) hS (fun q _ h => hF q h) hF (fun r4 u t H locs ht hvm hw hB _ _ hS => ?_)
        obtain rfl : r4 = q3.1.1 := hw
        replace hκ : (κ + q3.2) + r2 = T := by omega
        clear hz
        refine W.widen (k := (κ + q3.2)) (n := 6 * (κ + q3.2)) (Nat.le_refl _) (by omega) ?_
        replace hP : va_P (dC, dI) vwCl (wB a k q3.1.2) H := by rw [← ht]; exact hB.1
        replace hD := hD0 (q3.1.2)
        clear hB hF
        refine lv_istore_n (lv' := [(3, .int q3.1.1), (0, .ref (a 0)), (1, .int x1), (2, .int x2)]) hx hb dX11_record_136 rfl hl (by decide) rfl (fun ls hl => ?_)
        refine lv_goto (tgt := 114) hx hb dX11_record_137 (by decide) ?_
        exact ih _ _ _ _ _ _ h hκ _ _ _ hP hD hS (lv_sub hl [1, 2, 3, 0] rfl)

set_option maxRecDepth 100000 in
set_option maxHeartbeats 4000000 in
theorem b_X11_record_e {p : Program} {l : Launch} {e : Env} {s : State} {m : MethodId} {args : Array Value} {below : List Frame} {meth : Method} {c : Code} {dC : Nat → ClassId} {dI : Nat → Nat → Nat} {a : Nat → Nat} {k : Nat → ClassId} {A : Nat → Prop} {q : Int32 × ST} {T r : Nat} (hC : CxB p s m args meth c dC dI k A cX11_record RX11 (some .boolean) 4)   {p0 : Int32} {σ : ST} (h : f_X11_record  p0 σ = some (q, r)) (hκ : 0 + r = T) : GkB p l e ({ frames := 347, cells := T, slots := 6 * T, locals := 8657 } : Room) s m args below meth c (MQ below (qBi dC dI a k A q) args s T (6 * T) A) dC dI a k A 4 0 0 σ (lv_args 0 [.ref (a 0), .int p0]) [] := by
  have hC0 := hC
  obtain ⟨hx, hb, hr, hml, hown, hts, hlocks, hA, hN, hK⟩ := hC0
  intro H locs ls hP hD hS hl
  have hD0 : ∀ σ1 : ST, va_D A (wB a k σ1) := fun σ1 => wB_D hD
  replace hl : lv_has ls 4 [(0, .ref (a 0)), (1, .int p0)] := hl
  unfold f_X11_record at h
  refine lv_aload_n hx hb dX11_record_0 rfl (lv_at hl 0 rfl) ?_
  obtain ⟨q1, hc, h⟩ := ib h
  obtain ⟨r2, h, hz⟩ := acE h
  have hF := va_frees hD hS hA
  refine va_calli (va_runV (As := []) (rest := []) ⟨hx, hb, hml, hown, hts⟩ (s_X11_isRecord (q := q1.1) (r := q1.2) hc) (cwV 0 hts (gV mw_30_26 mw_30_27 mw_30_28 mw_0_15 mw_54_14) rfl rfl rfl (by decide +kernel) ⟨(Nat.le_of_ble_eq_true rfl), (Nat.le_of_ble_eq_true rfl)⟩) (vV (ci := 11) (q0 := 0) hK hP hD hN rfl gB_0) rfl rfl hl.1 rfl (lv_room (Nat.le_of_ble_eq_true rfl)) dX11_record_1 ⟨by show 0 + q1.2 ≤ T; omega, by show 6 * 0 + 6 * q1.2 ≤ 6 * T; omega⟩) hS (fun q _ h => hF q h) hF (fun r2 u t H locs ht hvm hw hB _ _ hS => ?_)
  obtain rfl : r2 = q1.1.1 := hw
  replace hκ : (0 + q1.2) + r2 = T := by omega
  clear hz
  refine W.widen (k := (0 + q1.2)) (n := 6 * (0 + q1.2)) (Nat.le_refl _) (by omega) ?_
  replace hP : va_P (dC, dI) vwCl (wB a k q1.1.2) H := by rw [← ht]; exact hB.1
  replace hD := hD0 (q1.1.2)
  clear hB hF
  refine lv_if_ne (tgt := 13) hx hb dX11_record_4 (by decide) (fun hc => ?_) (fun hc => ?_)
  · replace h := iq hc h
    refine lv_aload_n hx hb dX11_record_13 rfl (lv_at hl 0 rfl) ?_
    refine va_get (D := (dC, dI)) (ci := 11) (C := RX11) (T := TX11) (N := 95) hx hb hts inlX11 hown hK hP 0 gB_0 rfl 20 (by decide) (hts (.fieldLink RX11 33 "ShapeReaderModel" "recordMany" "[I") mw_27_4) (fun _ h9 => h9) rfl dX11_record_14 ?_
    refine lv_iload_n hx hb dX11_record_17 rfl (lv_at hl 1 rfl) ?_
    obtain ⟨hg3, h⟩ := ig h
    refine va_iald hx hb hK hP 8 7 gB_8 yB_8 (vp_in_iff.mpr hg3) dX11_record_18 ?_
    refine lv_bipush (v := 6) hx hb dX11_record_19 (by decide) ?_
    refine lv_icmp_ne (tgt := 30) hx hb dX11_record_21 (by decide) (fun hc => ?_) (fun hc => ?_)
    · replace h := iq hc h
      refine lv_aload_n hx hb dX11_record_30 rfl (lv_at hl 0 rfl) ?_
      obtain ⟨q4, hc, h⟩ := ib h
      have hF := va_frees hD hS hA
      refine va_callv (va_runV (As := []) (rest := []) ⟨hx, hb, hml, hown, hts⟩ (s_X11_go hc) (cwV 0 hts (gV mw_30_12 mw_30_13 mw_30_14 mw_0_15 mw_54_6) rfl rfl rfl (by decide +kernel) ⟨(Nat.le_of_ble_eq_true rfl), (Nat.le_of_ble_eq_true rfl)⟩) (vV (ci := 11) (q0 := 0) hK hP hD hN rfl gB_0) rfl rfl hl.1 rfl (lv_room (Nat.le_of_ble_eq_true rfl)) dX11_record_31 ⟨by show (0 + q1.2) + 0 ≤ T; omega, by show 6 * (0 + q1.2) + 0 ≤ 6 * T; omega⟩) hS (fun q _ h => hF q h) hF (fun u t H locs ht hvm hw hB _ _ hS => ?_)
      replace hP : va_P (dC, dI) vwCl (wB a k q4) H := by rw [← ht]; exact hB.1
      replace hD := hD0 (q4)
      clear hB hF
      refine lv_aload_n hx hb dX11_record_34 rfl (lv_at hl 0 rfl) ?_
      obtain ⟨q6, hc, h⟩ := ib h
      obtain ⟨r2, h, hz⟩ := acE h
      have hF := va_frees hD hS hA
      refine va_calli (va_runV (As := []) (rest := []) ⟨hx, hb, hml, hown, hts⟩ (s_X11_isName (q := q6.1) (r := q6.2) hc) (cwV 0 hts (gV mw_31_14 mw_31_15 mw_31_16 mw_0_15 mw_54_20) rfl rfl rfl (by decide +kernel) ⟨(Nat.le_of_ble_eq_true rfl), (Nat.le_of_ble_eq_true rfl)⟩) (vV (ci := 11) (q0 := 0) hK hP hD hN rfl gB_0) rfl rfl hl.1 rfl (lv_room (Nat.le_of_ble_eq_true rfl)) dX11_record_35 ⟨by show (0 + q1.2) + q6.2 ≤ T; omega, by show 6 * (0 + q1.2) + 6 * q6.2 ≤ 6 * T; omega⟩) hS (fun q _ h => hF q h) hF (fun r7 u t H locs ht hvm hw hB _ _ hS => ?_)
      obtain rfl : r7 = q6.1.1 := hw
      replace hκ : ((0 + q1.2) + q6.2) + r2 = T := by omega
      clear hz
      refine W.widen (k := ((0 + q1.2) + q6.2)) (n := 6 * ((0 + q1.2) + q6.2)) (Nat.le_refl _) (by omega) ?_
      replace hP : va_P (dC, dI) vwCl (wB a k q6.1.2) H := by rw [← ht]; exact hB.1
      replace hD := hD0 (q6.1.2)
      clear hB hF
      refine lv_if_ne (tgt := 47) hx hb dX11_record_38 (by decide) (fun hc => ?_) (fun hc => ?_)
      · replace h := iq hc h
        refine lv_aload_n hx hb dX11_record_47 rfl (lv_at hl 0 rfl) ?_
        refine lv_iload_n hx hb dX11_record_48 rfl (lv_at hl 1 rfl) ?_
        refine lv_aload_n hx hb dX11_record_49 rfl (lv_at hl 0 rfl) ?_
        refine va_get (D := (dC, dI)) (ci := 11) (C := RX11) (T := TX11) (N := 95) hx hb hts inlX11 hown hK hP 0 gB_0 rfl 7 (by decide) (hts (.fieldLink RX11 204 "ShapeReaderModel" "letters" "J") mw_29_4) (fun _ h9 => h9) rfl dX11_record_50 ?_
        obtain ⟨q8, hc, h⟩ := ib h
        have hF := va_frees hD hS hA
        refine va_calli (va_runV (As := [.int p0, .long (q6.1.2.2.1 0 7)]) (rest := []) ⟨hx, hb, hml, hown, hts⟩ (s_X11_recordOf hc) (cwV 2 hts (gV mw_32_22 mw_32_23 mw_32_24 mw_0_15 mw_55_1) rfl rfl rfl (by decide +kernel) ⟨(Nat.le_of_ble_eq_true rfl), (Nat.le_of_ble_eq_true rfl)⟩) (vV (ci := 11) (q0 := 0) hK hP hD hN rfl gB_0) rfl rfl hl.1 rfl (lv_room (Nat.le_of_ble_eq_true rfl)) dX11_record_53 ⟨by show ((0 + q1.2) + q6.2) + 0 ≤ T; omega, by show 6 * ((0 + q1.2) + q6.2) + 0 ≤ 6 * T; omega⟩) hS (fun q _ h => hF q h) hF (fun r9 u t H locs ht hvm hw hB _ _ hS => ?_)
        obtain rfl : r9 = q8.1 := hw
        replace hP : va_P (dC, dI) vwCl (wB a k q8.2) H := by rw [← ht]; exact hB.1
        replace hD := hD0 (q8.2)
        clear hB hF
        refine lv_if_lt (tgt := 65) hx hb dX11_record_56 (by decide) (fun hc => ?_) (fun hc => ?_)
        · replace h := ip hc h
          refine lv_bipush (v := 6) hx hb dX11_record_65 (by decide) ?_
          refine lv_iload_n hx hb dX11_record_67 rfl (lv_at hl 1 rfl) ?_
          refine lv_imul hx hb dX11_record_68 ?_
          refine lv_aload_n hx hb dX11_record_69 rfl (lv_at hl 0 rfl) ?_
          refine va_get (D := (dC, dI)) (ci := 11) (C := RX11) (T := TX11) (N := 95) hx hb hts inlX11 hown hK hP 0 gB_0 rfl 20 (by decide) (hts (.fieldLink RX11 33 "ShapeReaderModel" "recordMany" "[I") mw_27_4) (fun _ h9 => h9) rfl dX11_record_70 ?_
          refine lv_iload_n hx hb dX11_record_73 rfl (lv_at hl 1 rfl) ?_
          refine va_iald hx hb hK hP 8 7 gB_8 yB_8 (vp_in_iff.mpr hg3) dX11_record_74 ?_
          refine lv_iadd hx hb dX11_record_75 ?_
          refine lv_istore_n (lv' := [(2, .int ((6 * p0) + (q8.2.1 8 p0.toNatClampNeg))), (0, .ref (a 0)), (1, .int p0)]) hx hb dX11_record_76 rfl hl (by decide) rfl (fun ls hl => ?_)
          refine lv_aload_n hx hb dX11_record_77 rfl (lv_at hl 1 rfl) ?_
          refine va_get (D := (dC, dI)) (ci := 11) (C := RX11) (T := TX11) (N := 95) hx hb hts inlX11 hown hK hP 0 gB_0 rfl 21 (by decide) (hts (.fieldLink RX11 36 "ShapeReaderModel" "recordName" "[J") mw_27_5) (fun _ h9 => h9) rfl dX11_record_78 ?_
          refine lv_iload_n hx hb dX11_record_81 rfl (lv_at hl 0 rfl) ?_
          refine lv_aload_n hx hb dX11_record_82 rfl (lv_at hl 1 rfl) ?_
          refine va_get (D := (dC, dI)) (ci := 11) (C := RX11) (T := TX11) (N := 95) hx hb hts inlX11 hown hK hP 0 gB_0 rfl 7 (by decide) (hts (.fieldLink RX11 204 "ShapeReaderModel" "letters" "J") mw_29_4) (fun _ h9 => h9) rfl dX11_record_83 ?_
          obtain ⟨hg10, h⟩ := ig h
          refine va_last hx hb hK hP hD hS 9 8 gB_9 yB_9 (vp_in_iff.mpr hg10) dX11_record_86 (fun H locs hP hD hS => ?_)
          replace hP := uB_9 hP
          replace hD := hD0 ((stL q8.2 9 ((6 * p0) + (q8.2.1 8 p0.toNatClampNeg)).toNatClampNeg (q8.2.2.1 0 7)))
          refine lv_aload_n hx hb dX11_record_87 rfl (lv_at hl 1 rfl) ?_
          refine va_get (D := (dC, dI)) (ci := 11) (C := RX11) (T := TX11) (N := 95) hx hb hts inlX11 hown hK hP 0 gB_0 rfl 22 (by decide) (hts (.fieldLink RX11 39 "ShapeReaderModel" "recordLetters" "[I") mw_27_6) (fun _ h9 => h9) rfl dX11_record_88 ?_
          refine lv_iload_n hx hb dX11_record_91 rfl (lv_at hl 0 rfl) ?_
          refine lv_aload_n hx hb dX11_record_92 rfl (lv_at hl 1 rfl) ?_
          refine va_get (D := (dC, dI)) (ci := 11) (C := RX11) (T := TX11) (N := 95) hx hb hts inlX11 hown hK hP 0 gB_0 rfl 8 (by decide) (hts (.fieldLink RX11 208 "ShapeReaderModel" "letterMany" "I") mw_29_5) (fun _ h9 => h9) rfl dX11_record_93 ?_
          refine va_iast hx hb hK hP hD hS 10 9 gB_10 yB_10 (vp_in_iff.mpr hg10) dX11_record_96 (fun H locs hP hD hS => ?_)
          replace hP := uB_10 hP
          replace hD := hD0 ((stI (stL q8.2 9 ((6 * p0) + (q8.2.1 8 p0.toNatClampNeg)).toNatClampNeg (q8.2.2.1 0 7)) 10 ((6 * p0) + (q8.2.1 8 p0.toNatClampNeg)).toNatClampNeg ((stL q8.2 9 ((6 * p0) + (q8.2.1 8 p0.toNatClampNeg)).toNatClampNeg (q8.2.2.1 0 7)).1 0 8)))
          obtain ⟨z11, hs, h⟩ := ib h
          replace hs := Option.some.inj hs
          replace hP : va_P (dC, dI) vwCl (wB a k z11) H := by rw [← hs]; exact hP
          replace hD := hD0 z11
          clear hs
          refine lv_aload_n hx hb dX11_record_97 rfl (lv_at hl 1 rfl) ?_
          refine va_get (D := (dC, dI)) (ci := 11) (C := RX11) (T := TX11) (N := 95) hx hb hts inlX11 hown hK hP 0 gB_0 rfl 23 (by decide) (hts (.fieldLink RX11 42 "ShapeReaderModel" "fieldMany" "[I") mw_27_7) (fun _ h9 => h9) rfl dX11_record_98 ?_
          refine lv_iload_n hx hb dX11_record_101 rfl (lv_at hl 0 rfl) ?_
          refine lv_iconst (v := 0) hx hb dX11_record_102 (by decide) ?_
          refine va_iast hx hb hK hP hD hS 11 10 gB_11 yB_11 (vp_in_iff.mpr hg10) dX11_record_103 (fun H locs hP hD hS => ?_)
          replace hP := uB_11 hP
          replace hD := hD0 ((stI z11 11 ((6 * p0) + (q8.2.1 8 p0.toNatClampNeg)).toNatClampNeg 0))
          refine lv_aload_n hx hb dX11_record_104 rfl (lv_at hl 1 rfl) ?_
          obtain ⟨q12, hc, h⟩ := ib h
          have hF := va_frees hD hS hA
          refine va_callv (va_runV (As := []) (rest := []) ⟨hx, hb, hml, hown, hts⟩ (s_X11_go hc) (cwV 0 hts (gV mw_30_12 mw_30_13 mw_30_14 mw_0_15 mw_54_6) rfl rfl rfl (by decide +kernel) ⟨(Nat.le_of_ble_eq_true rfl), (Nat.le_of_ble_eq_true rfl)⟩) (vV (ci := 11) (q0 := 0) hK hP hD hN rfl gB_0) rfl rfl hl.1 rfl (lv_room (Nat.le_of_ble_eq_true rfl)) dX11_record_105 ⟨by show ((0 + q1.2) + q6.2) + 0 ≤ T; omega, by show 6 * ((0 + q1.2) + q6.2) + 0 ≤ 6 * T; omega⟩) hS (fun q _ h => hF q h) hF (fun u t H locs ht hvm hw hB _ _ hS => ?_)
          replace hP : va_P (dC, dI) vwCl (wB a k q12) H := by rw [← ht]; exact hB.1
          replace hD := hD0 (q12)
          clear hB hF
          refine lv_aload_n hx hb dX11_record_108 rfl (lv_at hl 1 rfl) ?_
          refine lv_iload_n hx hb dX11_record_109 rfl (lv_at hl 0 rfl) ?_
          obtain ⟨q14, hc, h⟩ := ib h
          obtain ⟨r2, h, hz⟩ := acE h
          have hF := va_frees hD hS hA
          refine va_calli (va_runV (As := [.int ((6 * p0) + (q8.2.1 8 p0.toNatClampNeg))]) (rest := []) ⟨hx, hb, hml, hown, hts⟩ (s_X11_field (q := q14.1) (r := q14.2) hc) (cwV 1 hts (gV mw_32_25 mw_32_26 mw_32_27 mw_0_15 mw_55_0) rfl rfl rfl (by decide +kernel) ⟨(Nat.le_of_ble_eq_true rfl), (Nat.le_of_ble_eq_true rfl)⟩) (vV (ci := 11) (q0 := 0) hK hP hD hN rfl gB_0) rfl rfl hl.1 rfl (lv_room (Nat.le_of_ble_eq_true rfl)) dX11_record_110 ⟨by show ((0 + q1.2) + q6.2) + q14.2 ≤ T; omega, by show 6 * ((0 + q1.2) + q6.2) + 6 * q14.2 ≤ 6 * T; omega⟩) hS (fun q _ h => hF q h) hF (fun r15 u t H locs ht hvm hw hB _ _ hS => ?_)
          obtain rfl : r15 = q14.1.1 := hw
          replace hκ : (((0 + q1.2) + q6.2) + q14.2) + r2 = T := by omega
          clear hz
          refine W.widen (k := (((0 + q1.2) + q6.2) + q14.2)) (n := 6 * (((0 + q1.2) + q6.2) + q14.2)) (Nat.le_refl _) (by omega) ?_
          replace hP : va_P (dC, dI) vwCl (wB a k q14.1.2) H := by rw [← ht]; exact hB.1
          replace hD := hD0 (q14.1.2)
          clear hB hF
          refine lv_istore_n (lv' := [(3, .int q14.1.1), (2, .int ((6 * p0) + (q8.2.1 8 p0.toNatClampNeg))), (0, .ref (a 0)), (1, .int p0)]) hx hb dX11_record_113 rfl hl (by decide) rfl (fun ls hl => ?_)
          exact b_X11_record_114 hC FU _ _ _ _ _ _ h hκ _ _ _ hP hD hS (lv_sub hl [2, 3, 1, 0] rfl)
        · replace h := iq hc h
          refine lv_aload_n hx hb dX11_record_59 rfl (lv_at hl 0 rfl) ?_
          refine lv_iconst (v := 3) hx hb dX11_record_60 (by decide) ?_
          obtain ⟨q16, hc, h⟩ := ib h
          have hF := va_frees hD hS hA
          refine va_calli (va_runV (As := [.int 3]) (rest := []) ⟨hx, hb, hml, hown, hts⟩ (s_X11_wrongHere hc) (cwV 1 hts (gV mw_30_9 mw_30_10 mw_30_11 mw_0_15 mw_54_10) rfl rfl rfl (by decide +kernel) ⟨(Nat.le_of_ble_eq_true rfl), (Nat.le_of_ble_eq_true rfl)⟩) (vV (ci := 11) (q0 := 0) hK hP hD hN rfl gB_0) rfl rfl hl.1 rfl (lv_room (Nat.le_of_ble_eq_true rfl)) dX11_record_61 ⟨by show ((0 + q1.2) + q6.2) + 0 ≤ T; omega, by show 6 * ((0 + q1.2) + q6.2) + 0 ≤ 6 * T; omega⟩) hS (fun q _ h => hF q h) hF (fun r17 u t H locs ht hvm hw hB _ _ hS => ?_)
          obtain rfl : r17 = q16.1 := hw
          replace hP : va_P (dC, dI) vwCl (wB a k q16.2) H := by rw [← ht]; exact hB.1
          replace hD := hD0 (q16.2)
          clear hB hF
          obtain ⟨hg, h⟩ := ig h
          obtain ⟨rfl, rfl⟩ := Prod.mk.inj (Option.some.inj h)
          subst hκ
          exact W.zret hx hb hr (zn hg) (fun t ht hW => ⟨⟨_, (), rfl, rfl, ⟨by rw [ht]; exact hP, va_K.moved hW.alike hK, hD⟩⟩, hS.F ht⟩) hS.2.2 dX11_record_64
      · replace h := ip hc h
        refine lv_aload_n hx hb dX11_record_41 rfl (lv_at hl 0 rfl) ?_
        refine lv_iconst (v := 1) hx hb dX11_record_42 (by decide) ?_
        obtain ⟨q18, hc, h⟩ := ib h
        have hF := va_frees hD hS hA
        refine va_calli (va_runV (As := [.int 1]) (rest := []) ⟨hx, hb, hml, hown, hts⟩ (s_X11_wrongHere hc) (cwV 1 hts (gV mw_30_9 mw_30_10 mw_30_11 mw_0_15 mw_54_10) rfl rfl rfl (by decide +kernel) ⟨(Nat.le_of_ble_eq_true rfl), (Nat.le_of_ble_eq_true rfl)⟩) (vV (ci := 11) (q0 := 0) hK hP hD hN rfl gB_0) rfl rfl hl.1 rfl (lv_room (Nat.le_of_ble_eq_true rfl)) dX11_record_43 ⟨by show ((0 + q1.2) + q6.2) + 0 ≤ T; omega, by show 6 * ((0 + q1.2) + q6.2) + 0 ≤ 6 * T; omega⟩) hS (fun q _ h => hF q h) hF (fun r19 u t H locs ht hvm hw hB _ _ hS => ?_)
        obtain rfl : r19 = q18.1 := hw
        replace hP : va_P (dC, dI) vwCl (wB a k q18.2) H := by rw [← ht]; exact hB.1
        replace hD := hD0 (q18.2)
        clear hB hF
        obtain ⟨hg, h⟩ := ig h
        obtain ⟨rfl, rfl⟩ := Prod.mk.inj (Option.some.inj h)
        subst hκ
        exact W.zret hx hb hr (zn hg) (fun t ht hW => ⟨⟨_, (), rfl, rfl, ⟨by rw [ht]; exact hP, va_K.moved hW.alike hK, hD⟩⟩, hS.F ht⟩) hS.2.2 dX11_record_46
    · replace h := ip hc h
      refine lv_aload_n hx hb dX11_record_24 rfl (lv_at hl 0 rfl) ?_
      refine lv_iconst (v := 4) hx hb dX11_record_25 (by decide) ?_
      obtain ⟨q20, hc, h⟩ := ib h
      have hF := va_frees hD hS hA
      refine va_calli (va_runV (As := [.int 4]) (rest := []) ⟨hx, hb, hml, hown, hts⟩ (s_X11_wrongHere hc) (cwV 1 hts (gV mw_30_9 mw_30_10 mw_30_11 mw_0_15 mw_54_10) rfl rfl rfl (by decide +kernel) ⟨(Nat.le_of_ble_eq_true rfl), (Nat.le_of_ble_eq_true rfl)⟩) (vV (ci := 11) (q0 := 0) hK hP hD hN rfl gB_0) rfl rfl hl.1 rfl (lv_room (Nat.le_of_ble_eq_true rfl)) dX11_record_26 ⟨by show (0 + q1.2) + 0 ≤ T; omega, by show 6 * (0 + q1.2) + 0 ≤ 6 * T; omega⟩) hS (fun q _ h => hF q h) hF (fun r21 u t H locs ht hvm hw hB _ _ hS => ?_)
      obtain rfl : r21 = q20.1 := hw
      replace hP : va_P (dC, dI) vwCl (wB a k q20.2) H := by rw [← ht]; exact hB.1
      replace hD := hD0 (q20.2)
      clear hB hF
      obtain ⟨hg, h⟩ := ig h
      obtain ⟨rfl, rfl⟩ := Prod.mk.inj (Option.some.inj h)
      subst hκ
      exact W.zret hx hb hr (zn hg) (fun t ht hW => ⟨⟨_, (), rfl, rfl, ⟨by rw [ht]; exact hP, va_K.moved hW.alike hK, hD⟩⟩, hS.F ht⟩) hS.2.2 dX11_record_29
  · replace h := ip hc h
    refine lv_aload_n hx hb dX11_record_7 rfl (lv_at hl 0 rfl) ?_
    refine lv_iconst (v := 1) hx hb dX11_record_8 (by decide) ?_
    obtain ⟨q22, hc, h⟩ := ib h
    have hF := va_frees hD hS hA
    refine va_calli (va_runV (As := [.int 1]) (rest := []) ⟨hx, hb, hml, hown, hts⟩ (s_X11_wrongHere hc) (cwV 1 hts (gV mw_30_9 mw_30_10 mw_30_11 mw_0_15 mw_54_10) rfl rfl rfl (by decide +kernel) ⟨(Nat.le_of_ble_eq_true rfl), (Nat.le_of_ble_eq_true rfl)⟩) (vV (ci := 11) (q0 := 0) hK hP hD hN rfl gB_0) rfl rfl hl.1 rfl (lv_room (Nat.le_of_ble_eq_true rfl)) dX11_record_9 ⟨by show (0 + q1.2) + 0 ≤ T; omega, by show 6 * (0 + q1.2) + 0 ≤ 6 * T; omega⟩) hS (fun q _ h => hF q h) hF (fun r23 u t H locs ht hvm hw hB _ _ hS => ?_)
    obtain rfl : r23 = q22.1 := hw
    replace hP : va_P (dC, dI) vwCl (wB a k q22.2) H := by rw [← ht]; exact hB.1
    replace hD := hD0 (q22.2)
    clear hB hF
    obtain ⟨hg, h⟩ := ig h
    obtain ⟨rfl, rfl⟩ := Prod.mk.inj (Option.some.inj h)
    subst hκ
    exact W.zret hx hb hr (zn hg) (fun t ht hW => ⟨⟨_, (), rfl, rfl, ⟨by rw [ht]; exact hP, va_K.moved hW.alike hK, hD⟩⟩, hS.F ht⟩) hS.2.2 dX11_record_12

theorem s_X11_record {l : Launch} {dC : Nat → ClassId} {dI : Nat → Nat → Nat} {a : Nat → Nat} {k : Nat → ClassId} {sz : Nat} {p0 : Int32} {σ : ST} {q : Int32 × ST} {r : Nat} (h : f_X11_record  p0 σ = some (q, r)) : Met l yX11_record (.code yX11_record cX11_record 4 (some .boolean) :: pw) ({ frames := 347, cells := r, slots := 6 * r, locals := 8657 } : Room) (va_Pc [.ref (a 0), .int p0] (vPre dC dI (wB a k σ) (tB k) sz)) (qBi dC dI a k (va_A (wB a k σ) sz) q) r (6 * r) (va_A (wB a k σ) sz) := mekB (fun A => qBi dC dI a k A q) (plainFor_of_name (by decide)) (Nat.le_of_ble_eq_true rfl) (fun _ _ _ _ _ _ _ _ hC => b_X11_record_e hC h (Nat.zero_add _))

def f_X11_plan_119 (x1 : Int32) (x2 : Int32) (x3 : Int32) (σ : ST) : Option ((Int32 × ST) × Nat) := if x3 = 0 then (some ((0, (stI σ 0 33 ((σ.1 0 33) + 1))), 0)) else ((f_X11_ends  x1 x2 (stI σ 0 33 ((σ.1 0 33) + 1))).bind fun q1 => if q1.1 = 0 then (some ((0, q1.2), 0)) else (some ((1, q1.2), 0)))
def f_X11_plan_95 (x1 : Int32) (x2 : Int32) (x3 : Int32) (σ : ST) : Option ((Int32 × ST) × Nat) := if x3 = 0 then (f_X11_plan_119  x1 x2 x3 σ) else (if (σ.1 0 6) = 0 then (f_X11_plan_119  x1 x2 x3 σ) else ((f_X11_isPlan   σ).bind fun q1 => ac q1.2 (if q1.1.1 = 0 then ((f_X11_wrongHere  1 q1.1.2).bind fun q3 => f_X11_plan_119  x1 x2 q3.1 q3.2) else (f_X11_plan_119  x1 x2 x3 q1.1.2))))
def f_X11_plan_75  : Nat → Int32 → Int32 → Int32 → ST → Option ((Int32 × ST) × Nat)
  | 0, _, _, _, _ => none
  | n + 1, x1, x2, x3, σ => if x3 = 0 then (f_X11_plan_95  x1 x2 x3 σ) else ((f_X11_isRecord   σ).bind fun q1 => ac q1.2 (if q1.1.1 = 0 then (f_X11_plan_95  x1 x2 x3 q1.1.2) else ((f_X11_record  x1 q1.1.2).bind fun q3 => ac q3.2 (f_X11_plan_75  n x1 x2 q3.1.1 q3.1.2))))
def f_X11_plan_74 (x1 : Int32) (x2 : Int32) (y0 : Int32) (σ : ST) : Option ((Int32 × ST) × Nat) := f_X11_plan_75  FU x1 x2 y0 σ
def f_X11_plan_73 (x1 : Int32) (x2 : Int32) (σ : ST) : Option ((Int32 × ST) × Nat) := f_X11_plan_74  x1 x2 0 σ
def f_X11_plan (σ : ST) : Option ((Int32 × ST) × Nat) := (f_X11_isPlan   σ).bind fun q1 => ac q1.2 (if q1.1.1 = 0 then ((f_X11_wrongHere  1 q1.1.2).bind fun q12 => if q12.1 = 0 ∨ q12.1 = 1 then some ((q12.1, q12.2), 0) else none) else (if (q1.1.2.1 0 33) = 6 then ((f_X11_wrongHere  4 q1.1.2).bind fun q10 => if q10.1 = 0 ∨ q10.1 = 1 then some ((q10.1, q10.2), 0) else none) else (if 0 ≤ (6 + (q1.1.2.1 0 33)).toInt ∧ (6 + (q1.1.2.1 0 33)).toInt < 12 then ((f_X11_go   (stI q1.1.2 8 (6 + (q1.1.2.1 0 33)).toNatClampNeg 0)).bind fun q4 => (f_X11_mark  59 q4).bind fun q6 => if q6.1 = 0 then (f_X11_plan_73  (6 + (q1.1.2.1 0 33)) (q1.1.2.1 0 34) q6.2) else ((f_X11_record  (6 + (q1.1.2.1 0 33)) q6.2).bind fun q8 => ac q8.2 (if q8.1.1 = 0 then (f_X11_plan_73  (6 + (q1.1.2.1 0 33)) (q1.1.2.1 0 34) q8.1.2) else (f_X11_plan_74  (6 + (q1.1.2.1 0 33)) (q1.1.2.1 0 34) 1 q8.1.2)))) else none)))

set_option maxRecDepth 100000 in
set_option maxHeartbeats 4000000 in
theorem b_X11_plan_119 {p : Program} {l : Launch} {e : Env} {s : State} {m : MethodId} {args : Array Value} {below : List Frame} {meth : Method} {c : Code} {dC : Nat → ClassId} {dI : Nat → Nat → Nat} {a : Nat → Nat} {k : Nat → ClassId} {A : Nat → Prop} {q : Int32 × ST} {T r κ : Nat} (hC : CxB p s m args meth c dC dI k A cX11_plan RX11 (some .boolean) 4)   {x1 : Int32} {x2 : Int32} {x3 : Int32} {σ : ST} (h : f_X11_plan_119  x1 x2 x3 σ = some (q, r)) (hκ : κ + r = T) : GkB p l e ({ frames := 348, cells := T, slots := 6 * T, locals := 8680 } : Room) s m args below meth c (MQ below (qBi dC dI a k A q) args s T (6 * T) A) dC dI a k A 4 119 κ σ [(0, .ref (a 0)), (1, .int x1), (2, .int x2), (3, .int x3)] [] := by
  have hC0 := hC
  obtain ⟨hx, hb, hr, hml, hown, hts, hlocks, hA, hN, hK⟩ := hC0
  intro H locs ls hP hD hS hl
  have hD0 : ∀ σ1 : ST, va_D A (wB a k σ1) := fun σ1 => wB_D hD
  unfold f_X11_plan_119 at h
  refine lv_aload_n hx hb dX11_plan_119 rfl (lv_at hl 0 rfl) ?_
  refine lv_dup hx hb dX11_plan_120 rfl ?_
  refine va_get (D := (dC, dI)) (ci := 11) (C := RX11) (T := TX11) (N := 95) hx hb hts inlX11 hown hK hP 0 gB_0 rfl 33 (by decide) (hts (.fieldLink RX11 368 "ShapeReaderModel" "readPlans" "I") mw_32_28) (fun _ h9 => h9) rfl dX11_plan_121 ?_
  refine lv_iconst (v := 1) hx hb dX11_plan_124 (by decide) ?_
  refine lv_iadd hx hb dX11_plan_125 ?_
  refine va_put (D := (dC, dI)) (ci := 11) (ty := .int) (C := RX11) (T := TX11) (N := 95) hx hb hts inlX11 tyX11 tyX11_ok nmX11 hown hK hP hD hS 0 gB_0 rfl 33 (by decide) (hts (.fieldLink RX11 368 "ShapeReaderModel" "readPlans" "I") mw_32_28) (fun _ h9 => h9) rfl (by decide +kernel) rfl rfl (Nat.le_of_ble_eq_true rfl) dX11_plan_126 (fun H locs hP hD hS => ?_)
  replace hP := uB_0_33 hP
  replace hD := hD0 ((stI σ 0 33 ((σ.1 0 33) + 1)))
  refine lv_iload_n hx hb dX11_plan_129 rfl (lv_at hl 3 rfl) ?_
  refine lv_if_eq (tgt := 146) hx hb dX11_plan_130 (by decide) (fun hc => ?_) (fun hc => ?_)
  · replace h := ip hc h
    refine lv_iconst (v := 0) hx hb dX11_plan_146 (by decide) ?_
    obtain ⟨rfl, rfl⟩ := Prod.mk.inj (Option.some.inj h)
    subst hκ
    exact W.zret hx hb hr rfl (fun t ht hW => ⟨⟨_, (), rfl, rfl, ⟨by rw [ht]; exact hP, va_K.moved hW.alike hK, hD⟩⟩, hS.F ht⟩) hS.2.2 dX11_plan_147
  · replace h := iq hc h
    refine lv_aload_n hx hb dX11_plan_133 rfl (lv_at hl 0 rfl) ?_
    refine lv_iload_n hx hb dX11_plan_134 rfl (lv_at hl 1 rfl) ?_
    refine lv_iload_n hx hb dX11_plan_135 rfl (lv_at hl 2 rfl) ?_
    obtain ⟨q1, hc, h⟩ := ib h
    have hF := va_frees hD hS hA
    refine va_calli (va_runV (As := [.int x1, .int x2]) (rest := []) ⟨hx, hb, hml, hown, hts⟩ (s_X11_ends hc) (cwV 2 hts (gV mw_33_2 mw_33_3 mw_33_4 mw_0_15 mw_55_3) rfl rfl rfl (by decide +kernel) ⟨(Nat.le_of_ble_eq_true rfl), (Nat.le_of_ble_eq_true rfl)⟩) (vV (ci := 11) (q0 := 0) hK hP hD hN rfl gB_0) rfl rfl hl.1 rfl (lv_room (Nat.le_of_ble_eq_true rfl)) dX11_plan_136 ⟨by show κ + 0 ≤ T; omega, by show 6 * κ + 0 ≤ 6 * T; omega⟩) hS (fun q _ h => hF q h) hF (fun r2 u t H locs ht hvm hw hB _ _ hS => ?_)
    obtain rfl : r2 = q1.1 := hw
    replace hP : va_P (dC, dI) vwCl (wB a k q1.2) H := by rw [← ht]; exact hB.1
    replace hD := hD0 (q1.2)
    clear hB hF
    refine lv_if_eq (tgt := 146) hx hb dX11_plan_139 (by decide) (fun hc => ?_) (fun hc => ?_)
    · replace h := ip hc h
      refine lv_iconst (v := 0) hx hb dX11_plan_146 (by decide) ?_
      obtain ⟨rfl, rfl⟩ := Prod.mk.inj (Option.some.inj h)
      subst hκ
      exact W.zret hx hb hr rfl (fun t ht hW => ⟨⟨_, (), rfl, rfl, ⟨by rw [ht]; exact hP, va_K.moved hW.alike hK, hD⟩⟩, hS.F ht⟩) hS.2.2 dX11_plan_147
    · replace h := iq hc h
      refine lv_iconst (v := 1) hx hb dX11_plan_142 (by decide) ?_
      refine lv_goto (tgt := 147) hx hb dX11_plan_143 (by decide) ?_
      obtain ⟨rfl, rfl⟩ := Prod.mk.inj (Option.some.inj h)
      subst hκ
      exact W.zret hx hb hr rfl (fun t ht hW => ⟨⟨_, (), rfl, rfl, ⟨by rw [ht]; exact hP, va_K.moved hW.alike hK, hD⟩⟩, hS.F ht⟩) hS.2.2 dX11_plan_147

set_option maxRecDepth 100000 in
set_option maxHeartbeats 4000000 in
theorem b_X11_plan_95 {p : Program} {l : Launch} {e : Env} {s : State} {m : MethodId} {args : Array Value} {below : List Frame} {meth : Method} {c : Code} {dC : Nat → ClassId} {dI : Nat → Nat → Nat} {a : Nat → Nat} {k : Nat → ClassId} {A : Nat → Prop} {q : Int32 × ST} {T r κ : Nat} (hC : CxB p s m args meth c dC dI k A cX11_plan RX11 (some .boolean) 4)   {x1 : Int32} {x2 : Int32} {x3 : Int32} {σ : ST} (h : f_X11_plan_95  x1 x2 x3 σ = some (q, r)) (hκ : κ + r = T) : GkB p l e ({ frames := 348, cells := T, slots := 6 * T, locals := 8680 } : Room) s m args below meth c (MQ below (qBi dC dI a k A q) args s T (6 * T) A) dC dI a k A 4 95 κ σ [(0, .ref (a 0)), (1, .int x1), (2, .int x2), (3, .int x3)] [] := by
  have hC0 := hC
  obtain ⟨hx, hb, hr, hml, hown, hts, hlocks, hA, hN, hK⟩ := hC0
  intro H locs ls hP hD hS hl
  have hD0 : ∀ σ1 : ST, va_D A (wB a k σ1) := fun σ1 => wB_D hD
  unfold f_X11_plan_95 at h
  refine lv_iload_n hx hb dX11_plan_95 rfl (lv_at hl 3 rfl) ?_
  refine lv_if_eq (tgt := 119) hx hb dX11_plan_96 (by decide) (fun hc => ?_) (fun hc => ?_)
  · replace h := ip hc h
    exact b_X11_plan_119 hC h hκ _ _ _ hP hD hS (lv_sub hl [0, 1, 2, 3] rfl)
  · replace h := iq hc h
    refine lv_aload_n hx hb dX11_plan_99 rfl (lv_at hl 0 rfl) ?_
    refine va_get (D := (dC, dI)) (ci := 11) (C := RX11) (T := TX11) (N := 95) hx hb hts inlX11 hown hK hP 0 gB_0 rfl 6 (by decide) (hts (.fieldLink RX11 244 "ShapeReaderModel" "token" "I") mw_29_21) (fun _ h9 => h9) rfl dX11_plan_100 ?_
    refine lv_if_eq (tgt := 119) hx hb dX11_plan_103 (by decide) (fun hc => ?_) (fun hc => ?_)
    · replace h := ip hc h
      exact b_X11_plan_119 hC h hκ _ _ _ hP hD hS (lv_sub hl [0, 1, 2, 3] rfl)
    · replace h := iq hc h
      refine lv_aload_n hx hb dX11_plan_106 rfl (lv_at hl 0 rfl) ?_
      obtain ⟨q1, hc, h⟩ := ib h
      obtain ⟨r2, h, hz⟩ := acE h
      have hF := va_frees hD hS hA
      refine va_calli (va_runV (As := []) (rest := []) ⟨hx, hb, hml, hown, hts⟩ (s_X11_isPlan (q := q1.1) (r := q1.2) hc) (cwV 0 hts (gV mw_30_23 mw_30_24 mw_30_25 mw_0_15 mw_54_13) rfl rfl rfl (by decide +kernel) ⟨(Nat.le_of_ble_eq_true rfl), (Nat.le_of_ble_eq_true rfl)⟩) (vV (ci := 11) (q0 := 0) hK hP hD hN rfl gB_0) rfl rfl hl.1 rfl (lv_room (Nat.le_of_ble_eq_true rfl)) dX11_plan_107 ⟨by show κ + q1.2 ≤ T; omega, by show 6 * κ + 6 * q1.2 ≤ 6 * T; omega⟩) hS (fun q _ h => hF q h) hF (fun r2 u t H locs ht hvm hw hB _ _ hS => ?_)
      obtain rfl : r2 = q1.1.1 := hw
      replace hκ : (κ + q1.2) + r2 = T := by omega
      clear hz
      refine W.widen (k := (κ + q1.2)) (n := 6 * (κ + q1.2)) (Nat.le_refl _) (by omega) ?_
      replace hP : va_P (dC, dI) vwCl (wB a k q1.1.2) H := by rw [← ht]; exact hB.1
      replace hD := hD0 (q1.1.2)
      clear hB hF
      refine lv_if_ne (tgt := 119) hx hb dX11_plan_110 (by decide) (fun hc => ?_) (fun hc => ?_)
      · replace h := iq hc h
        exact b_X11_plan_119 hC h hκ _ _ _ hP hD hS (lv_sub hl [0, 1, 2, 3] rfl)
      · replace h := ip hc h
        refine lv_aload_n hx hb dX11_plan_113 rfl (lv_at hl 0 rfl) ?_
        refine lv_iconst (v := 1) hx hb dX11_plan_114 (by decide) ?_
        obtain ⟨q3, hc, h⟩ := ib h
        have hF := va_frees hD hS hA
        refine va_calli (va_runV (As := [.int 1]) (rest := []) ⟨hx, hb, hml, hown, hts⟩ (s_X11_wrongHere hc) (cwV 1 hts (gV mw_30_9 mw_30_10 mw_30_11 mw_0_15 mw_54_10) rfl rfl rfl (by decide +kernel) ⟨(Nat.le_of_ble_eq_true rfl), (Nat.le_of_ble_eq_true rfl)⟩) (vV (ci := 11) (q0 := 0) hK hP hD hN rfl gB_0) rfl rfl hl.1 rfl (lv_room (Nat.le_of_ble_eq_true rfl)) dX11_plan_115 ⟨by show (κ + q1.2) + 0 ≤ T; omega, by show 6 * (κ + q1.2) + 0 ≤ 6 * T; omega⟩) hS (fun q _ h => hF q h) hF (fun r4 u t H locs ht hvm hw hB _ _ hS => ?_)
        obtain rfl : r4 = q3.1 := hw
        replace hP : va_P (dC, dI) vwCl (wB a k q3.2) H := by rw [← ht]; exact hB.1
        replace hD := hD0 (q3.2)
        clear hB hF
        refine lv_istore_n (lv' := [(3, .int q3.1), (0, .ref (a 0)), (1, .int x1), (2, .int x2)]) hx hb dX11_plan_118 rfl hl (by decide) rfl (fun ls hl => ?_)
        exact b_X11_plan_119 hC h hκ _ _ _ hP hD hS (lv_sub hl [1, 2, 3, 0] rfl)

set_option maxRecDepth 100000 in
set_option maxHeartbeats 4000000 in
theorem b_X11_plan_75 {p : Program} {l : Launch} {e : Env} {s : State} {m : MethodId} {args : Array Value} {below : List Frame} {meth : Method} {c : Code} {dC : Nat → ClassId} {dI : Nat → Nat → Nat} {a : Nat → Nat} {k : Nat → ClassId} {A : Nat → Prop} {q : Int32 × ST} {T : Nat} (hC : CxB p s m args meth c dC dI k A cX11_plan RX11 (some .boolean) 4)   : ∀ (n : Nat) (x1 : Int32) (x2 : Int32) (x3 : Int32) (σ : ST) (κ r : Nat), f_X11_plan_75  n x1 x2 x3 σ = some (q, r) → κ + r = T → GkB p l e ({ frames := 348, cells := T, slots := 6 * T, locals := 8680 } : Room) s m args below meth c (MQ below (qBi dC dI a k A q) args s T (6 * T) A) dC dI a k A 4 75 κ σ [(0, .ref (a 0)), (1, .int x1), (2, .int x2), (3, .int x3)] [] := by
  intro n
  induction n with
  | zero =>
    intro x1 x2 x3 σ κ r h
    rw [f_X11_plan_75] at h
    cases h
  | succ n ih =>
    intro x1 x2 x3 σ κ r h hκ
    have hC0 := hC
    obtain ⟨hx, hb, hr, hml, hown, hts, hlocks, hA, hN, hK⟩ := hC0
    intro H locs ls hP hD hS hl
    have hD0 : ∀ σ1 : ST, va_D A (wB a k σ1) := fun σ1 => wB_D hD
    rw [f_X11_plan_75] at h
    refine lv_iload_n hx hb dX11_plan_75 rfl (lv_at hl 3 rfl) ?_
    refine lv_if_eq (tgt := 95) hx hb dX11_plan_76 (by decide) (fun hc => ?_) (fun hc => ?_)
    · replace h := ip hc h
      exact b_X11_plan_95 hC h hκ _ _ _ hP hD hS (lv_sub hl [0, 1, 2, 3] rfl)
    · replace h := iq hc h
      refine lv_aload_n hx hb dX11_plan_79 rfl (lv_at hl 0 rfl) ?_
      obtain ⟨q1, hc, h⟩ := ib h
      obtain ⟨r2, h, hz⟩ := acE h
      have hF := va_frees hD hS hA
      refine va_calli (va_runV (As := []) (rest := []) ⟨hx, hb, hml, hown, hts⟩ (s_X11_isRecord (q := q1.1) (r := q1.2) hc) (cwV 0 hts (gV mw_30_26 mw_30_27 mw_30_28 mw_0_15 mw_54_14) rfl rfl rfl (by decide +kernel) ⟨(Nat.le_of_ble_eq_true rfl), (Nat.le_of_ble_eq_true rfl)⟩) (vV (ci := 11) (q0 := 0) hK hP hD hN rfl gB_0) rfl rfl hl.1 rfl (lv_room (Nat.le_of_ble_eq_true rfl)) dX11_plan_80 ⟨by show κ + q1.2 ≤ T; omega, by show 6 * κ + 6 * q1.2 ≤ 6 * T; omega⟩) hS (fun q _ h => hF q h) hF (fun r2 u t H locs ht hvm hw hB _ _ hS => ?_)
      obtain rfl : r2 = q1.1.1 := hw
      replace hκ : (κ + q1.2) + r2 = T := by omega
      clear hz
      refine W.widen (k := (κ + q1.2)) (n := 6 * (κ + q1.2)) (Nat.le_refl _) (by omega) ?_
      replace hP : va_P (dC, dI) vwCl (wB a k q1.1.2) H := by rw [← ht]; exact hB.1
      replace hD := hD0 (q1.1.2)
      clear hB hF
      refine lv_if_eq (tgt := 95) hx hb dX11_plan_83 (by decide) (fun hc => ?_) (fun hc => ?_)
      · replace h := ip hc h
        exact b_X11_plan_95 hC h hκ _ _ _ hP hD hS (lv_sub hl [0, 1, 2, 3] rfl)
      · replace h := iq hc h
        refine lv_aload_n hx hb dX11_plan_86 rfl (lv_at hl 0 rfl) ?_
        refine lv_iload_n hx hb dX11_plan_87 rfl (lv_at hl 1 rfl) ?_
        obtain ⟨q3, hc, h⟩ := ib h
        obtain ⟨r2, h, hz⟩ := acE h
        have hF := va_frees hD hS hA
        refine va_calli (va_runV (As := [.int x1]) (rest := []) ⟨hx, hb, hml, hown, hts⟩ (s_X11_record (q := q3.1) (r := q3.2) hc) (cwV 1 hts (gV mw_32_29 mw_33_0 mw_33_1 mw_0_15 mw_55_2) rfl rfl rfl (by decide +kernel) ⟨(Nat.le_of_ble_eq_true rfl), (Nat.le_of_ble_eq_true rfl)⟩) (vV (ci := 11) (q0 := 0) hK hP hD hN rfl gB_0) rfl rfl hl.1 rfl (lv_room (Nat.le_of_ble_eq_true rfl)) dX11_plan_88 ⟨by show (κ + q1.2) + q3.2 ≤ T; omega, by show 6 * (κ + q1.2) + 6 * q3.2 ≤ 6 * T; omega⟩) hS (fun q _ h => hF q h) hF (fun r4 u t H locs ht hvm hw hB _ _ hS => ?_)
        obtain rfl : r4 = q3.1.1 := hw
        replace hκ : ((κ + q1.2) + q3.2) + r2 = T := by omega
        clear hz
        refine W.widen (k := ((κ + q1.2) + q3.2)) (n := 6 * ((κ + q1.2) + q3.2)) (Nat.le_refl _) (by omega) ?_
        replace hP : va_P (dC, dI) vwCl (wB a k q3.1.2) H := by rw [← ht]; exact hB.1
        replace hD := hD0 (q3.1.2)
        clear hB hF
        refine lv_istore_n (lv' := [(3, .int q3.1.1), (0, .ref (a 0)), (1, .int x1), (2, .int x2)]) hx hb dX11_plan_91 rfl hl (by decide) rfl (fun ls hl => ?_)
        refine lv_goto (tgt := 75) hx hb dX11_plan_92 (by decide) ?_
        exact ih _ _ _ _ _ _ h hκ _ _ _ hP hD hS (lv_sub hl [1, 2, 3, 0] rfl)

set_option maxRecDepth 100000 in
set_option maxHeartbeats 4000000 in
theorem b_X11_plan_74 {p : Program} {l : Launch} {e : Env} {s : State} {m : MethodId} {args : Array Value} {below : List Frame} {meth : Method} {c : Code} {dC : Nat → ClassId} {dI : Nat → Nat → Nat} {a : Nat → Nat} {k : Nat → ClassId} {A : Nat → Prop} {q : Int32 × ST} {T r κ : Nat} (hC : CxB p s m args meth c dC dI k A cX11_plan RX11 (some .boolean) 4)   {x1 : Int32} {x2 : Int32} {y0 : Int32} {σ : ST} (h : f_X11_plan_74  x1 x2 y0 σ = some (q, r)) (hκ : κ + r = T) : GkB p l e ({ frames := 348, cells := T, slots := 6 * T, locals := 8680 } : Room) s m args below meth c (MQ below (qBi dC dI a k A q) args s T (6 * T) A) dC dI a k A 4 74 κ σ [(0, .ref (a 0)), (1, .int x1), (2, .int x2)] [.int y0] := by
  have hC0 := hC
  obtain ⟨hx, hb, hr, hml, hown, hts, hlocks, hA, hN, hK⟩ := hC0
  intro H locs ls hP hD hS hl
  have hD0 : ∀ σ1 : ST, va_D A (wB a k σ1) := fun σ1 => wB_D hD
  unfold f_X11_plan_74 at h
  refine lv_istore_n (lv' := [(3, .int y0), (0, .ref (a 0)), (1, .int x1), (2, .int x2)]) hx hb dX11_plan_74 rfl hl (by decide) rfl (fun ls hl => ?_)
  exact b_X11_plan_75 hC FU _ _ _ _ _ _ h hκ _ _ _ hP hD hS (lv_sub hl [1, 2, 3, 0] rfl)

set_option maxRecDepth 100000 in
set_option maxHeartbeats 4000000 in
theorem b_X11_plan_73 {p : Program} {l : Launch} {e : Env} {s : State} {m : MethodId} {args : Array Value} {below : List Frame} {meth : Method} {c : Code} {dC : Nat → ClassId} {dI : Nat → Nat → Nat} {a : Nat → Nat} {k : Nat → ClassId} {A : Nat → Prop} {q : Int32 × ST} {T r κ : Nat} (hC : CxB p s m args meth c dC dI k A cX11_plan RX11 (some .boolean) 4)   {x1 : Int32} {x2 : Int32} {σ : ST} (h : f_X11_plan_73  x1 x2 σ = some (q, r)) (hκ : κ + r = T) : GkB p l e ({ frames := 348, cells := T, slots := 6 * T, locals := 8680 } : Room) s m args below meth c (MQ below (qBi dC dI a k A q) args s T (6 * T) A) dC dI a k A 4 73 κ σ [(0, .ref (a 0)), (1, .int x1), (2, .int x2)] [] := by
  have hC0 := hC
  obtain ⟨hx, hb, hr, hml, hown, hts, hlocks, hA, hN, hK⟩ := hC0
  intro H locs ls hP hD hS hl
  have hD0 : ∀ σ1 : ST, va_D A (wB a k σ1) := fun σ1 => wB_D hD
  unfold f_X11_plan_73 at h
  refine lv_iconst (v := 0) hx hb dX11_plan_73 (by decide) ?_
  exact b_X11_plan_74 hC h hκ _ _ _ hP hD hS (lv_sub hl [0, 1, 2] rfl)

set_option maxRecDepth 100000 in
set_option maxHeartbeats 4000000 in
theorem b_X11_plan_e {p : Program} {l : Launch} {e : Env} {s : State} {m : MethodId} {args : Array Value} {below : List Frame} {meth : Method} {c : Code} {dC : Nat → ClassId} {dI : Nat → Nat → Nat} {a : Nat → Nat} {k : Nat → ClassId} {A : Nat → Prop} {q : Int32 × ST} {T r : Nat} (hC : CxB p s m args meth c dC dI k A cX11_plan RX11 (some .boolean) 4)    {σ : ST} (h : f_X11_plan   σ = some (q, r)) (hκ : 0 + r = T) : GkB p l e ({ frames := 348, cells := T, slots := 6 * T, locals := 8680 } : Room) s m args below meth c (MQ below (qBi dC dI a k A q) args s T (6 * T) A) dC dI a k A 4 0 0 σ (lv_args 0 [.ref (a 0)]) [] := by
  have hC0 := hC
  obtain ⟨hx, hb, hr, hml, hown, hts, hlocks, hA, hN, hK⟩ := hC0
  intro H locs ls hP hD hS hl
  have hD0 : ∀ σ1 : ST, va_D A (wB a k σ1) := fun σ1 => wB_D hD
  replace hl : lv_has ls 4 [(0, .ref (a 0))] := hl
  unfold f_X11_plan at h
  refine lv_aload_n hx hb dX11_plan_0 rfl (lv_at hl 0 rfl) ?_
  obtain ⟨q1, hc, h⟩ := ib h
  obtain ⟨r2, h, hz⟩ := acE h
  have hF := va_frees hD hS hA
  refine va_calli (va_runV (As := []) (rest := []) ⟨hx, hb, hml, hown, hts⟩ (s_X11_isPlan (q := q1.1) (r := q1.2) hc) (cwV 0 hts (gV mw_30_23 mw_30_24 mw_30_25 mw_0_15 mw_54_13) rfl rfl rfl (by decide +kernel) ⟨(Nat.le_of_ble_eq_true rfl), (Nat.le_of_ble_eq_true rfl)⟩) (vV (ci := 11) (q0 := 0) hK hP hD hN rfl gB_0) rfl rfl hl.1 rfl (lv_room (Nat.le_of_ble_eq_true rfl)) dX11_plan_1 ⟨by show 0 + q1.2 ≤ T; omega, by show 6 * 0 + 6 * q1.2 ≤ 6 * T; omega⟩) hS (fun q _ h => hF q h) hF (fun r2 u t H locs ht hvm hw hB _ _ hS => ?_)
  obtain rfl : r2 = q1.1.1 := hw
  replace hκ : (0 + q1.2) + r2 = T := by omega
  clear hz
  refine W.widen (k := (0 + q1.2)) (n := 6 * (0 + q1.2)) (Nat.le_refl _) (by omega) ?_
  replace hP : va_P (dC, dI) vwCl (wB a k q1.1.2) H := by rw [← ht]; exact hB.1
  replace hD := hD0 (q1.1.2)
  clear hB hF
  refine lv_if_ne (tgt := 13) hx hb dX11_plan_4 (by decide) (fun hc => ?_) (fun hc => ?_)
  · replace h := iq hc h
    refine lv_aload_n hx hb dX11_plan_13 rfl (lv_at hl 0 rfl) ?_
    refine va_get (D := (dC, dI)) (ci := 11) (C := RX11) (T := TX11) (N := 95) hx hb hts inlX11 hown hK hP 0 gB_0 rfl 33 (by decide) (hts (.fieldLink RX11 368 "ShapeReaderModel" "readPlans" "I") mw_32_28) (fun _ h9 => h9) rfl dX11_plan_14 ?_
    refine lv_bipush (v := 6) hx hb dX11_plan_17 (by decide) ?_
    refine lv_icmp_ne (tgt := 28) hx hb dX11_plan_19 (by decide) (fun hc => ?_) (fun hc => ?_)
    · replace h := iq hc h
      refine lv_bipush (v := 6) hx hb dX11_plan_28 (by decide) ?_
      refine lv_aload_n hx hb dX11_plan_30 rfl (lv_at hl 0 rfl) ?_
      refine va_get (D := (dC, dI)) (ci := 11) (C := RX11) (T := TX11) (N := 95) hx hb hts inlX11 hown hK hP 0 gB_0 rfl 33 (by decide) (hts (.fieldLink RX11 368 "ShapeReaderModel" "readPlans" "I") mw_32_28) (fun _ h9 => h9) rfl dX11_plan_31 ?_
      refine lv_iadd hx hb dX11_plan_34 ?_
      refine lv_istore_n (lv' := [(1, .int (6 + (q1.1.2.1 0 33))), (0, .ref (a 0))]) hx hb dX11_plan_35 rfl hl (by decide) rfl (fun ls hl => ?_)
      refine lv_aload_n hx hb dX11_plan_36 rfl (lv_at hl 1 rfl) ?_
      refine va_get (D := (dC, dI)) (ci := 11) (C := RX11) (T := TX11) (N := 95) hx hb hts inlX11 hown hK hP 0 gB_0 rfl 34 (by decide) (hts (.fieldLink RX11 318 "ShapeReaderModel" "types" "I") mw_31_20) (fun _ h9 => h9) rfl dX11_plan_37 ?_
      refine lv_istore_n (lv' := [(2, .int (q1.1.2.1 0 34)), (1, .int (6 + (q1.1.2.1 0 33))), (0, .ref (a 0))]) hx hb dX11_plan_40 rfl hl (by decide) rfl (fun ls hl => ?_)
      refine lv_aload_n hx hb dX11_plan_41 rfl (lv_at hl 2 rfl) ?_
      refine va_get (D := (dC, dI)) (ci := 11) (C := RX11) (T := TX11) (N := 95) hx hb hts inlX11 hown hK hP 0 gB_0 rfl 20 (by decide) (hts (.fieldLink RX11 33 "ShapeReaderModel" "recordMany" "[I") mw_27_4) (fun _ h9 => h9) rfl dX11_plan_42 ?_
      refine lv_iload_n hx hb dX11_plan_45 rfl (lv_at hl 1 rfl) ?_
      refine lv_iconst (v := 0) hx hb dX11_plan_46 (by decide) ?_
      obtain ⟨hg3, h⟩ := ig h
      refine va_iast hx hb hK hP hD hS 8 7 gB_8 yB_8 (vp_in_iff.mpr hg3) dX11_plan_47 (fun H locs hP hD hS => ?_)
      replace hP := uB_8 hP
      replace hD := hD0 ((stI q1.1.2 8 (6 + (q1.1.2.1 0 33)).toNatClampNeg 0))
      refine lv_aload_n hx hb dX11_plan_48 rfl (lv_at hl 2 rfl) ?_
      obtain ⟨q4, hc, h⟩ := ib h
      have hF := va_frees hD hS hA
      refine va_callv (va_runV (As := []) (rest := []) ⟨hx, hb, hml, hown, hts⟩ (s_X11_go hc) (cwV 0 hts (gV mw_30_12 mw_30_13 mw_30_14 mw_0_15 mw_54_6) rfl rfl rfl (by decide +kernel) ⟨(Nat.le_of_ble_eq_true rfl), (Nat.le_of_ble_eq_true rfl)⟩) (vV (ci := 11) (q0 := 0) hK hP hD hN rfl gB_0) rfl rfl hl.1 rfl (lv_room (Nat.le_of_ble_eq_true rfl)) dX11_plan_49 ⟨by show (0 + q1.2) + 0 ≤ T; omega, by show 6 * (0 + q1.2) + 0 ≤ 6 * T; omega⟩) hS (fun q _ h => hF q h) hF (fun u t H locs ht hvm hw hB _ _ hS => ?_)
      replace hP : va_P (dC, dI) vwCl (wB a k q4) H := by rw [← ht]; exact hB.1
      replace hD := hD0 (q4)
      clear hB hF
      refine lv_aload_n hx hb dX11_plan_52 rfl (lv_at hl 2 rfl) ?_
      refine lv_bipush (v := 59) hx hb dX11_plan_53 (by decide) ?_
      obtain ⟨q6, hc, h⟩ := ib h
      have hF := va_frees hD hS hA
      refine va_calli (va_runV (As := [.int 59]) (rest := []) ⟨hx, hb, hml, hown, hts⟩ (s_X11_mark hc) (cwV 1 hts (gV mw_32_13 mw_32_14 mw_32_15 mw_0_15 mw_54_11) rfl rfl rfl (by decide +kernel) ⟨(Nat.le_of_ble_eq_true rfl), (Nat.le_of_ble_eq_true rfl)⟩) (vV (ci := 11) (q0 := 0) hK hP hD hN rfl gB_0) rfl rfl hl.1 rfl (lv_room (Nat.le_of_ble_eq_true rfl)) dX11_plan_55 ⟨by show (0 + q1.2) + 0 ≤ T; omega, by show 6 * (0 + q1.2) + 0 ≤ 6 * T; omega⟩) hS (fun q _ h => hF q h) hF (fun r7 u t H locs ht hvm hw hB _ _ hS => ?_)
      obtain rfl : r7 = q6.1 := hw
      replace hP : va_P (dC, dI) vwCl (wB a k q6.2) H := by rw [← ht]; exact hB.1
      replace hD := hD0 (q6.2)
      clear hB hF
      refine lv_if_eq (tgt := 73) hx hb dX11_plan_58 (by decide) (fun hc => ?_) (fun hc => ?_)
      · replace h := ip hc h
        exact b_X11_plan_73 hC h hκ _ _ _ hP hD hS (lv_sub hl [2, 1, 0] rfl)
      · replace h := iq hc h
        refine lv_aload_n hx hb dX11_plan_61 rfl (lv_at hl 2 rfl) ?_
        refine lv_iload_n hx hb dX11_plan_62 rfl (lv_at hl 1 rfl) ?_
        obtain ⟨q8, hc, h⟩ := ib h
        obtain ⟨r2, h, hz⟩ := acE h
        have hF := va_frees hD hS hA
        refine va_calli (va_runV (As := [.int (6 + (q1.1.2.1 0 33))]) (rest := []) ⟨hx, hb, hml, hown, hts⟩ (s_X11_record (q := q8.1) (r := q8.2) hc) (cwV 1 hts (gV mw_32_29 mw_33_0 mw_33_1 mw_0_15 mw_55_2) rfl rfl rfl (by decide +kernel) ⟨(Nat.le_of_ble_eq_true rfl), (Nat.le_of_ble_eq_true rfl)⟩) (vV (ci := 11) (q0 := 0) hK hP hD hN rfl gB_0) rfl rfl hl.1 rfl (lv_room (Nat.le_of_ble_eq_true rfl)) dX11_plan_63 ⟨by show (0 + q1.2) + q8.2 ≤ T; omega, by show 6 * (0 + q1.2) + 6 * q8.2 ≤ 6 * T; omega⟩) hS (fun q _ h => hF q h) hF (fun r9 u t H locs ht hvm hw hB _ _ hS => ?_)
        obtain rfl : r9 = q8.1.1 := hw
        replace hκ : ((0 + q1.2) + q8.2) + r2 = T := by omega
        clear hz
        refine W.widen (k := ((0 + q1.2) + q8.2)) (n := 6 * ((0 + q1.2) + q8.2)) (Nat.le_refl _) (by omega) ?_
        replace hP : va_P (dC, dI) vwCl (wB a k q8.1.2) H := by rw [← ht]; exact hB.1
        replace hD := hD0 (q8.1.2)
        clear hB hF
        refine lv_if_eq (tgt := 73) hx hb dX11_plan_66 (by decide) (fun hc => ?_) (fun hc => ?_)
        · replace h := ip hc h
          exact b_X11_plan_73 hC h hκ _ _ _ hP hD hS (lv_sub hl [2, 1, 0] rfl)
        · replace h := iq hc h
          refine lv_iconst (v := 1) hx hb dX11_plan_69 (by decide) ?_
          refine lv_goto (tgt := 74) hx hb dX11_plan_70 (by decide) ?_
          exact b_X11_plan_74 hC h hκ _ _ _ hP hD hS (lv_sub hl [2, 1, 0] rfl)
    · replace h := ip hc h
      refine lv_aload_n hx hb dX11_plan_22 rfl (lv_at hl 0 rfl) ?_
      refine lv_iconst (v := 4) hx hb dX11_plan_23 (by decide) ?_
      obtain ⟨q10, hc, h⟩ := ib h
      have hF := va_frees hD hS hA
      refine va_calli (va_runV (As := [.int 4]) (rest := []) ⟨hx, hb, hml, hown, hts⟩ (s_X11_wrongHere hc) (cwV 1 hts (gV mw_30_9 mw_30_10 mw_30_11 mw_0_15 mw_54_10) rfl rfl rfl (by decide +kernel) ⟨(Nat.le_of_ble_eq_true rfl), (Nat.le_of_ble_eq_true rfl)⟩) (vV (ci := 11) (q0 := 0) hK hP hD hN rfl gB_0) rfl rfl hl.1 rfl (lv_room (Nat.le_of_ble_eq_true rfl)) dX11_plan_24 ⟨by show (0 + q1.2) + 0 ≤ T; omega, by show 6 * (0 + q1.2) + 0 ≤ 6 * T; omega⟩) hS (fun q _ h => hF q h) hF (fun r11 u t H locs ht hvm hw hB _ _ hS => ?_)
      obtain rfl : r11 = q10.1 := hw
      replace hP : va_P (dC, dI) vwCl (wB a k q10.2) H := by rw [← ht]; exact hB.1
      replace hD := hD0 (q10.2)
      clear hB hF
      obtain ⟨hg, h⟩ := ig h
      obtain ⟨rfl, rfl⟩ := Prod.mk.inj (Option.some.inj h)
      subst hκ
      exact W.zret hx hb hr (zn hg) (fun t ht hW => ⟨⟨_, (), rfl, rfl, ⟨by rw [ht]; exact hP, va_K.moved hW.alike hK, hD⟩⟩, hS.F ht⟩) hS.2.2 dX11_plan_27
  · replace h := ip hc h
    refine lv_aload_n hx hb dX11_plan_7 rfl (lv_at hl 0 rfl) ?_
    refine lv_iconst (v := 1) hx hb dX11_plan_8 (by decide) ?_
    obtain ⟨q12, hc, h⟩ := ib h
    have hF := va_frees hD hS hA
    refine va_calli (va_runV (As := [.int 1]) (rest := []) ⟨hx, hb, hml, hown, hts⟩ (s_X11_wrongHere hc) (cwV 1 hts (gV mw_30_9 mw_30_10 mw_30_11 mw_0_15 mw_54_10) rfl rfl rfl (by decide +kernel) ⟨(Nat.le_of_ble_eq_true rfl), (Nat.le_of_ble_eq_true rfl)⟩) (vV (ci := 11) (q0 := 0) hK hP hD hN rfl gB_0) rfl rfl hl.1 rfl (lv_room (Nat.le_of_ble_eq_true rfl)) dX11_plan_9 ⟨by show (0 + q1.2) + 0 ≤ T; omega, by show 6 * (0 + q1.2) + 0 ≤ 6 * T; omega⟩) hS (fun q _ h => hF q h) hF (fun r13 u t H locs ht hvm hw hB _ _ hS => ?_)
    obtain rfl : r13 = q12.1 := hw
    replace hP : va_P (dC, dI) vwCl (wB a k q12.2) H := by rw [← ht]; exact hB.1
    replace hD := hD0 (q12.2)
    clear hB hF
    obtain ⟨hg, h⟩ := ig h
    obtain ⟨rfl, rfl⟩ := Prod.mk.inj (Option.some.inj h)
    subst hκ
    exact W.zret hx hb hr (zn hg) (fun t ht hW => ⟨⟨_, (), rfl, rfl, ⟨by rw [ht]; exact hP, va_K.moved hW.alike hK, hD⟩⟩, hS.F ht⟩) hS.2.2 dX11_plan_12

theorem s_X11_plan {l : Launch} {dC : Nat → ClassId} {dI : Nat → Nat → Nat} {a : Nat → Nat} {k : Nat → ClassId} {sz : Nat}  {σ : ST} {q : Int32 × ST} {r : Nat} (h : f_X11_plan   σ = some (q, r)) : Met l yX11_plan (.code yX11_plan cX11_plan 4 (some .boolean) :: pw) ({ frames := 348, cells := r, slots := 6 * r, locals := 8680 } : Room) (va_Pc [.ref (a 0)] (vPre dC dI (wB a k σ) (tB k) sz)) (qBi dC dI a k (va_A (wB a k σ) sz) q) r (6 * r) (va_A (wB a k σ) sz) := mekB (fun A => qBi dC dI a k A q) (plainFor_of_name (by decide)) (Nat.le_of_ble_eq_true rfl) (fun _ _ _ _ _ _ _ _ hC => b_X11_plan_e hC h (Nat.zero_add _))

def f_X11_takes_301 (k220 : Int32 → ST → Option (ST)) : Nat → Int32 → Int32 → ST → Option (ST)
  | 0, _, _, _ => none
  | n + 1, x1, x2, σ => if 0 ≤ x1.toInt ∧ x1.toInt < 800 then (if (σ.1 4 x1.toNatClampNeg) ≤ x2 then (k220 (x1 + 1) σ) else (if 0 ≤ ((4 * x1) + x2).toInt ∧ ((4 * x1) + x2).toInt < 3200 then ((f_X11_moved  (σ.1 5 ((4 * x1) + x2).toNatClampNeg) σ).bind fun q3 => if 0 ≤ ((4 * (x1 - 400)) + x2).toInt ∧ ((4 * (x1 - 400)) + x2).toInt < 3200 then (f_X11_takes_301 k220 n x1 (x2 + 1) (stI q3.2 5 ((4 * (x1 - 400)) + x2).toNatClampNeg q3.1)) else none) else none)) else none
def f_X11_takes_282 (k220 : Int32 → ST → Option (ST)) (x1 : Int32) (y0 : Int32) (y1 : Int32) (σ : ST) : Option (ST) := if 0 ≤ y1.toInt ∧ y1.toInt < 800 then (if 0 ≤ x1.toInt ∧ x1.toInt < 800 then (if 0 ≤ (x1 - 400).toInt ∧ (x1 - 400).toInt < 800 then ((some (stI (stI σ 3 y1.toNatClampNeg y0) 4 (x1 - 400).toNatClampNeg ((stI σ 3 y1.toNatClampNeg y0).1 4 x1.toNatClampNeg))).bind fun z4 => f_X11_takes_301 k220 FU x1 0 z4) else none) else none) else none
def f_X11_takes_220  : Nat → Int32 → ST → Option (ST)
  | 0, _, _ => none
  | n + 1, x1, σ => if (σ.1 0 34) ≤ x1 then (some σ) else (if 0 ≤ x1.toInt ∧ x1.toInt < 800 then (if 0 ≤ (x1 - 400).toInt ∧ (x1 - 400).toInt < 800 then (if ((stI σ 2 (x1 - 400).toNatClampNeg (σ.1 2 x1.toNatClampNeg)).1 2 x1.toNatClampNeg) = 6 then ((f_X11_moved  ((stI σ 2 (x1 - 400).toNatClampNeg (σ.1 2 x1.toNatClampNeg)).1 3 x1.toNatClampNeg) (stI σ 2 (x1 - 400).toNatClampNeg (σ.1 2 x1.toNatClampNeg))).bind fun q3 => f_X11_takes_282 (f_X11_takes_220  n) x1 q3.1 (x1 - 400) q3.2) else (f_X11_takes_282 (f_X11_takes_220  n) x1 ((stI σ 2 (x1 - 400).toNatClampNeg (σ.1 2 x1.toNatClampNeg)).1 3 x1.toNatClampNeg) (x1 - 400) (stI σ 2 (x1 - 400).toNatClampNeg (σ.1 2 x1.toNatClampNeg)))) else none) else none)
def f_X11_takes_98  : Nat → Int32 → ST → Option (ST)
  | 0, _, _ => none
  | n + 1, x1, σ => if 288 ≤ x1 then (f_X11_takes_220  FU 400 σ) else (if 0 ≤ (x1 + 288).toInt ∧ (x1 + 288).toInt < 576 then (if 0 ≤ x1.toInt ∧ x1.toInt < 576 then ((some (stI (stL σ 12 x1.toNatClampNeg (σ.2.1 12 (x1 + 288).toNatClampNeg)) 13 x1.toNatClampNeg ((stL σ 12 x1.toNatClampNeg (σ.2.1 12 (x1 + 288).toNatClampNeg)).1 13 (x1 + 288).toNatClampNeg))).bind fun z3 => (f_X11_moved  ((stL z3 14 x1.toNatClampNeg (z3.2.1 14 (x1 + 288).toNatClampNeg)).1 15 (x1 + 288).toNatClampNeg) (stL z3 14 x1.toNatClampNeg (z3.2.1 14 (x1 + 288).toNatClampNeg))).bind fun q4 => (some (stI (stI q4.2 15 x1.toNatClampNeg q4.1) 16 x1.toNatClampNeg (vp_nar .boolean ((stI q4.2 15 x1.toNatClampNeg q4.1).1 16 (x1 + 288).toNatClampNeg)))).bind fun z6 => (some (stL (stL z6 17 x1.toNatClampNeg (z6.2.1 17 (x1 + 288).toNatClampNeg)) 18 x1.toNatClampNeg ((stL z6 17 x1.toNatClampNeg (z6.2.1 17 (x1 + 288).toNatClampNeg)).2.1 18 (x1 + 288).toNatClampNeg))).bind fun z7 => f_X11_takes_98  n (x1 + 1) (stI z7 19 x1.toNatClampNeg (z7.1 19 (x1 + 288).toNatClampNeg))) else none) else none)
def f_X11_takes_39  : Nat → Int32 → ST → Option (ST)
  | 0, _, _ => none
  | n + 1, x1, σ => if 36 ≤ x1 then (f_X11_takes_98  FU 0 σ) else (if 0 ≤ (x1 + 36).toInt ∧ (x1 + 36).toInt < 72 then (if 0 ≤ x1.toInt ∧ x1.toInt < 72 then ((some (stI (stL σ 9 x1.toNatClampNeg (σ.2.1 9 (x1 + 36).toNatClampNeg)) 10 x1.toNatClampNeg ((stL σ 9 x1.toNatClampNeg (σ.2.1 9 (x1 + 36).toNatClampNeg)).1 10 (x1 + 36).toNatClampNeg))).bind fun z3 => f_X11_takes_39  n (x1 + 1) (stI z3 11 x1.toNatClampNeg (z3.1 11 (x1 + 36).toNatClampNeg))) else none) else none)
def f_X11_takes_10  : Nat → Int32 → ST → Option (ST)
  | 0, _, _ => none
  | n + 1, x1, σ => if 6 ≤ x1 then (f_X11_takes_39  FU 0 σ) else (if 0 ≤ (x1 + 6).toInt ∧ (x1 + 6).toInt < 12 then (if 0 ≤ x1.toInt ∧ x1.toInt < 12 then (f_X11_takes_10  n (x1 + 1) (stI σ 8 x1.toNatClampNeg (σ.1 8 (x1 + 6).toNatClampNeg))) else none) else none)
def f_X11_takes (σ : ST) : Option (ST) := f_X11_takes_10  FU 0 (stI σ 0 32 (σ.1 0 33))

set_option maxRecDepth 100000 in
set_option maxHeartbeats 4000000 in
theorem b_X11_takes_301 {p : Program} {l : Launch} {e : Env} {s : State} {m : MethodId} {args : Array Value} {below : List Frame} {meth : Method} {c : Code} {dC : Nat → ClassId} {dI : Nat → Nat → Nat} {a : Nat → Nat} {k : Nat → ClassId} {A : Nat → Prop} {q : ST} (hC : CxB p s m args meth c dC dI k A cX11_takes RX11 none 3)  {k220 : Int32 → ST → Option (ST)} (hk220 : ∀ (x1 : Int32) (σ : ST), k220 x1 σ = some q → GoB p l e ({ frames := 1, cells := 0, slots := 0, locals := 20 } : Room) s m args below meth c (MQ below (qBv dC dI a k A q) args s 0 0 A) dC dI a k A 3 220 σ [(0, .ref (a 0)), (1, .int x1)] []) : ∀ (n : Nat) (x1 : Int32) (x2 : Int32) (σ : ST), f_X11_takes_301 k220 n x1 x2 σ = some q → GoB p l e ({ frames := 1, cells := 0, slots := 0, locals := 20 } : Room) s m args below meth c (MQ below (qBv dC dI a k A q) args s 0 0 A) dC dI a k A 3 301 σ [(0, .ref (a 0)), (1, .int x1), (2, .int x2)] [] := by
  intro n
  induction n with
  | zero =>
    intro x1 x2 σ h
    rw [f_X11_takes_301] at h
    cases h
  | succ n ih =>
    intro x1 x2 σ h
    have hC0 := hC
    obtain ⟨hx, hb, hr, hml, hown, hts, hlocks, hA, hN, hK⟩ := hC0
    intro H locs ls hP hD hS hl
    have hD0 : ∀ σ1 : ST, va_D A (wB a k σ1) := fun σ1 => wB_D hD
    rw [f_X11_takes_301] at h
    refine lv_iload_n hx hb dX11_takes_301 rfl (lv_at hl 2 rfl) ?_
    refine lv_aload_n hx hb dX11_takes_302 rfl (lv_at hl 0 rfl) ?_
    refine va_get (D := (dC, dI)) (ci := 11) (C := RX11) (T := TX11) (N := 95) hx hb hts inlX11 hown hK hP 0 gB_0 rfl 16 (by decide) (hts (.fieldLink RX11 20 "ShapeReaderModel" "typeMany" "[I") mw_27_0) (fun _ h9 => h9) rfl dX11_takes_303 ?_
    refine lv_iload_n hx hb dX11_takes_306 rfl (lv_at hl 1 rfl) ?_
    obtain ⟨hg1, h⟩ := ig h
    refine va_iald hx hb hK hP 4 3 gB_4 yB_4 (vp_in_iff.mpr hg1) dX11_takes_307 ?_
    refine lv_icmp_ge (tgt := 344) hx hb dX11_takes_308 (by decide) (fun hc => ?_) (fun hc => ?_)
    · replace h := ip hc h
      refine lv_iinc (v := (x1 + 1)) (lv' := [(1, .int (x1 + 1)), (0, .ref (a 0)), (2, .int x2)]) hx hb dX11_takes_344 hl (k := 1) rfl rfl (by decide) rfl (fun ls hl => ?_)
      refine lv_goto (tgt := 220) hx hb dX11_takes_347 (by decide) ?_
      exact hk220 _ _ h _ _ _ hP hD hS (lv_sub hl [1, 0] rfl)
    · replace h := iq hc h
      refine lv_aload_n hx hb dX11_takes_311 rfl (lv_at hl 0 rfl) ?_
      refine va_get (D := (dC, dI)) (ci := 11) (C := RX11) (T := TX11) (N := 95) hx hb hts inlX11 hown hK hP 0 gB_0 rfl 17 (by decide) (hts (.fieldLink RX11 23 "ShapeReaderModel" "branch" "[I") mw_27_1) (fun _ h9 => h9) rfl dX11_takes_312 ?_
      refine lv_iconst (v := 4) hx hb dX11_takes_315 (by decide) ?_
      refine lv_iload_n hx hb dX11_takes_316 rfl (lv_at hl 1 rfl) ?_
      refine lv_sipush (v := 400) hx hb dX11_takes_317 (by decide) ?_
      refine lv_isub hx hb dX11_takes_320 ?_
      refine lv_imul hx hb dX11_takes_321 ?_
      refine lv_iload_n hx hb dX11_takes_322 rfl (lv_at hl 2 rfl) ?_
      refine lv_iadd hx hb dX11_takes_323 ?_
      refine lv_aload_n hx hb dX11_takes_324 rfl (lv_at hl 0 rfl) ?_
      refine va_get (D := (dC, dI)) (ci := 11) (C := RX11) (T := TX11) (N := 95) hx hb hts inlX11 hown hK hP 0 gB_0 rfl 17 (by decide) (hts (.fieldLink RX11 23 "ShapeReaderModel" "branch" "[I") mw_27_1) (fun _ h9 => h9) rfl dX11_takes_325 ?_
      refine lv_iconst (v := 4) hx hb dX11_takes_328 (by decide) ?_
      refine lv_iload_n hx hb dX11_takes_329 rfl (lv_at hl 1 rfl) ?_
      refine lv_imul hx hb dX11_takes_330 ?_
      refine lv_iload_n hx hb dX11_takes_331 rfl (lv_at hl 2 rfl) ?_
      refine lv_iadd hx hb dX11_takes_332 ?_
      obtain ⟨hg2, h⟩ := ig h
      refine va_iald hx hb hK hP 5 4 gB_5 yB_5 (vp_in_iff.mpr hg2) dX11_takes_333 ?_
      obtain ⟨q3, hc, h⟩ := ib h
      have hF := va_frees hD hS hA
      refine va_calli (va_runS (As := [.int (σ.1 5 ((4 * x1) + x2).toNatClampNeg)]) (rest := [.int ((4 * (x1 - 400)) + x2), .ref (a 5)]) ⟨hx, hb, hml, hown, hts⟩ (s_X11_moved hc) (va_cwS 1 hts (gS mw_33_6 mw_33_7 mw_0_15 mw_55_5) rfl rfl rfl (by decide +kernel) ⟨(Nat.le_of_ble_eq_true rfl), (Nat.le_of_ble_eq_true rfl)⟩) (vS hK hP hD hN) rfl rfl hl.1 rfl (lv_room (Nat.le_of_ble_eq_true rfl)) dX11_takes_334 ⟨(Nat.le_of_ble_eq_true rfl), (Nat.le_of_ble_eq_true rfl)⟩) hS (fun q _ h => hF q h) hF (fun r4 u t H locs ht hvm hw hB _ _ hS => ?_)
      obtain rfl : r4 = q3.1 := hw
      replace hP : va_P (dC, dI) vwCl (wB a k q3.2) H := by rw [← ht]; exact hB.1
      replace hD := hD0 (q3.2)
      clear hB hF
      obtain ⟨hg5, h⟩ := ig h
      refine va_iast hx hb hK hP hD hS 5 4 gB_5 yB_5 (vp_in_iff.mpr hg5) dX11_takes_337 (fun H locs hP hD hS => ?_)
      replace hP := uB_5 hP
      replace hD := hD0 ((stI q3.2 5 ((4 * (x1 - 400)) + x2).toNatClampNeg q3.1))
      refine lv_iinc (v := (x2 + 1)) (lv' := [(2, .int (x2 + 1)), (0, .ref (a 0)), (1, .int x1)]) hx hb dX11_takes_338 hl (k := 2) rfl rfl (by decide) rfl (fun ls hl => ?_)
      refine lv_goto (tgt := 301) hx hb dX11_takes_341 (by decide) ?_
      exact ih _ _ _ h _ _ _ hP hD hS (lv_sub hl [1, 2, 0] rfl)

set_option maxRecDepth 100000 in
set_option maxHeartbeats 4000000 in
theorem b_X11_takes_282 {p : Program} {l : Launch} {e : Env} {s : State} {m : MethodId} {args : Array Value} {below : List Frame} {meth : Method} {c : Code} {dC : Nat → ClassId} {dI : Nat → Nat → Nat} {a : Nat → Nat} {k : Nat → ClassId} {A : Nat → Prop} {q : ST} (hC : CxB p s m args meth c dC dI k A cX11_takes RX11 none 3)  {k220 : Int32 → ST → Option (ST)} (hk220 : ∀ (x1 : Int32) (σ : ST), k220 x1 σ = some q → GoB p l e ({ frames := 1, cells := 0, slots := 0, locals := 20 } : Room) s m args below meth c (MQ below (qBv dC dI a k A q) args s 0 0 A) dC dI a k A 3 220 σ [(0, .ref (a 0)), (1, .int x1)] []) {x1 : Int32} {y0 : Int32} {y1 : Int32} {σ : ST} (h : f_X11_takes_282 k220 x1 y0 y1 σ = some q) : GoB p l e ({ frames := 1, cells := 0, slots := 0, locals := 20 } : Room) s m args below meth c (MQ below (qBv dC dI a k A q) args s 0 0 A) dC dI a k A 3 282 σ [(0, .ref (a 0)), (1, .int x1)] [.int y0, .int y1, .ref (a 3)] := by
  have hC0 := hC
  obtain ⟨hx, hb, hr, hml, hown, hts, hlocks, hA, hN, hK⟩ := hC0
  intro H locs ls hP hD hS hl
  have hD0 : ∀ σ1 : ST, va_D A (wB a k σ1) := fun σ1 => wB_D hD
  unfold f_X11_takes_282 at h
  obtain ⟨hg1, h⟩ := ig h
  refine va_iast hx hb hK hP hD hS 3 2 gB_3 yB_3 (vp_in_iff.mpr hg1) dX11_takes_282 (fun H locs hP hD hS => ?_)
  replace hP := uB_3 hP
  replace hD := hD0 ((stI σ 3 y1.toNatClampNeg y0))
  refine lv_aload_n hx hb dX11_takes_283 rfl (lv_at hl 0 rfl) ?_
  refine va_get (D := (dC, dI)) (ci := 11) (C := RX11) (T := TX11) (N := 95) hx hb hts inlX11 hown hK hP 0 gB_0 rfl 16 (by decide) (hts (.fieldLink RX11 20 "ShapeReaderModel" "typeMany" "[I") mw_27_0) (fun _ h9 => h9) rfl dX11_takes_284 ?_
  refine lv_iload_n hx hb dX11_takes_287 rfl (lv_at hl 1 rfl) ?_
  refine lv_sipush (v := 400) hx hb dX11_takes_288 (by decide) ?_
  refine lv_isub hx hb dX11_takes_291 ?_
  refine lv_aload_n hx hb dX11_takes_292 rfl (lv_at hl 0 rfl) ?_
  refine va_get (D := (dC, dI)) (ci := 11) (C := RX11) (T := TX11) (N := 95) hx hb hts inlX11 hown hK hP 0 gB_0 rfl 16 (by decide) (hts (.fieldLink RX11 20 "ShapeReaderModel" "typeMany" "[I") mw_27_0) (fun _ h9 => h9) rfl dX11_takes_293 ?_
  refine lv_iload_n hx hb dX11_takes_296 rfl (lv_at hl 1 rfl) ?_
  obtain ⟨hg2, h⟩ := ig h
  refine va_iald hx hb hK hP 4 3 gB_4 yB_4 (vp_in_iff.mpr hg2) dX11_takes_297 ?_
  obtain ⟨hg3, h⟩ := ig h
  refine va_iast hx hb hK hP hD hS 4 3 gB_4 yB_4 (vp_in_iff.mpr hg3) dX11_takes_298 (fun H locs hP hD hS => ?_)
  replace hP := uB_4 hP
  replace hD := hD0 ((stI (stI σ 3 y1.toNatClampNeg y0) 4 (x1 - 400).toNatClampNeg ((stI σ 3 y1.toNatClampNeg y0).1 4 x1.toNatClampNeg)))
  obtain ⟨z4, hs, h⟩ := ib h
  replace hs := Option.some.inj hs
  replace hP : va_P (dC, dI) vwCl (wB a k z4) H := by rw [← hs]; exact hP
  replace hD := hD0 z4
  clear hs
  refine lv_iconst (v := 0) hx hb dX11_takes_299 (by decide) ?_
  refine lv_istore_n (lv' := [(2, .int 0), (0, .ref (a 0)), (1, .int x1)]) hx hb dX11_takes_300 rfl hl (by decide) rfl (fun ls hl => ?_)
  exact b_X11_takes_301 hC hk220 FU _ _ _ h _ _ _ hP hD hS (lv_sub hl [1, 2, 0] rfl)

set_option maxRecDepth 100000 in
set_option maxHeartbeats 4000000 in
theorem b_X11_takes_220 {p : Program} {l : Launch} {e : Env} {s : State} {m : MethodId} {args : Array Value} {below : List Frame} {meth : Method} {c : Code} {dC : Nat → ClassId} {dI : Nat → Nat → Nat} {a : Nat → Nat} {k : Nat → ClassId} {A : Nat → Prop} {q : ST} (hC : CxB p s m args meth c dC dI k A cX11_takes RX11 none 3)   : ∀ (n : Nat) (x1 : Int32) (σ : ST), f_X11_takes_220  n x1 σ = some q → GoB p l e ({ frames := 1, cells := 0, slots := 0, locals := 20 } : Room) s m args below meth c (MQ below (qBv dC dI a k A q) args s 0 0 A) dC dI a k A 3 220 σ [(0, .ref (a 0)), (1, .int x1)] [] := by
  intro n
  induction n with
  | zero =>
    intro x1 σ h
    rw [f_X11_takes_220] at h
    cases h
  | succ n ih =>
    intro x1 σ h
    have hC0 := hC
    obtain ⟨hx, hb, hr, hml, hown, hts, hlocks, hA, hN, hK⟩ := hC0
    intro H locs ls hP hD hS hl
    have hD0 : ∀ σ1 : ST, va_D A (wB a k σ1) := fun σ1 => wB_D hD
    rw [f_X11_takes_220] at h
    refine lv_iload_n hx hb dX11_takes_220 rfl (lv_at hl 1 rfl) ?_
    refine lv_aload_n hx hb dX11_takes_221 rfl (lv_at hl 0 rfl) ?_
    refine va_get (D := (dC, dI)) (ci := 11) (C := RX11) (T := TX11) (N := 95) hx hb hts inlX11 hown hK hP 0 gB_0 rfl 34 (by decide) (hts (.fieldLink RX11 318 "ShapeReaderModel" "types" "I") mw_31_20) (fun _ h9 => h9) rfl dX11_takes_222 ?_
    refine lv_icmp_ge (tgt := 350) hx hb dX11_takes_225 (by decide) (fun hc => ?_) (fun hc => ?_)
    · replace h := ip hc h
      obtain rfl := Option.some.inj h
      exact W.vret hx hb hr (fun t ht hW => ⟨⟨(), rfl, trivial, ⟨by rw [ht]; exact hP, va_K.moved hW.alike hK, hD⟩⟩, hS.F ht⟩) hS.2.2 dX11_takes_350
    · replace h := iq hc h
      refine lv_aload_n hx hb dX11_takes_228 rfl (lv_at hl 0 rfl) ?_
      refine va_get (D := (dC, dI)) (ci := 11) (C := RX11) (T := TX11) (N := 95) hx hb hts inlX11 hown hK hP 0 gB_0 rfl 14 (by decide) (hts (.fieldLink RX11 13 "ShapeReaderModel" "typeSort" "[I") mw_26_28) (fun _ h9 => h9) rfl dX11_takes_229 ?_
      refine lv_iload_n hx hb dX11_takes_232 rfl (lv_at hl 1 rfl) ?_
      refine lv_sipush (v := 400) hx hb dX11_takes_233 (by decide) ?_
      refine lv_isub hx hb dX11_takes_236 ?_
      refine lv_aload_n hx hb dX11_takes_237 rfl (lv_at hl 0 rfl) ?_
      refine va_get (D := (dC, dI)) (ci := 11) (C := RX11) (T := TX11) (N := 95) hx hb hts inlX11 hown hK hP 0 gB_0 rfl 14 (by decide) (hts (.fieldLink RX11 13 "ShapeReaderModel" "typeSort" "[I") mw_26_28) (fun _ h9 => h9) rfl dX11_takes_238 ?_
      refine lv_iload_n hx hb dX11_takes_241 rfl (lv_at hl 1 rfl) ?_
      obtain ⟨hg1, h⟩ := ig h
      refine va_iald hx hb hK hP 2 1 gB_2 yB_2 (vp_in_iff.mpr hg1) dX11_takes_242 ?_
      obtain ⟨hg2, h⟩ := ig h
      refine va_iast hx hb hK hP hD hS 2 1 gB_2 yB_2 (vp_in_iff.mpr hg2) dX11_takes_243 (fun H locs hP hD hS => ?_)
      replace hP := uB_2 hP
      replace hD := hD0 ((stI σ 2 (x1 - 400).toNatClampNeg (σ.1 2 x1.toNatClampNeg)))
      refine lv_aload_n hx hb dX11_takes_244 rfl (lv_at hl 0 rfl) ?_
      refine va_get (D := (dC, dI)) (ci := 11) (C := RX11) (T := TX11) (N := 95) hx hb hts inlX11 hown hK hP 0 gB_0 rfl 15 (by decide) (hts (.fieldLink RX11 17 "ShapeReaderModel" "typeArg" "[I") mw_26_29) (fun _ h9 => h9) rfl dX11_takes_245 ?_
      refine lv_iload_n hx hb dX11_takes_248 rfl (lv_at hl 1 rfl) ?_
      refine lv_sipush (v := 400) hx hb dX11_takes_249 (by decide) ?_
      refine lv_isub hx hb dX11_takes_252 ?_
      refine lv_aload_n hx hb dX11_takes_253 rfl (lv_at hl 0 rfl) ?_
      refine va_get (D := (dC, dI)) (ci := 11) (C := RX11) (T := TX11) (N := 95) hx hb hts inlX11 hown hK hP 0 gB_0 rfl 14 (by decide) (hts (.fieldLink RX11 13 "ShapeReaderModel" "typeSort" "[I") mw_26_28) (fun _ h9 => h9) rfl dX11_takes_254 ?_
      refine lv_iload_n hx hb dX11_takes_257 rfl (lv_at hl 1 rfl) ?_
      refine va_iald hx hb hK hP 2 1 gB_2 yB_2 (vp_in_iff.mpr hg1) dX11_takes_258 ?_
      refine lv_bipush (v := 6) hx hb dX11_takes_259 (by decide) ?_
      refine lv_icmp_ne (tgt := 276) hx hb dX11_takes_261 (by decide) (fun hc => ?_) (fun hc => ?_)
      · replace h := iq hc h
        refine lv_aload_n hx hb dX11_takes_276 rfl (lv_at hl 0 rfl) ?_
        refine va_get (D := (dC, dI)) (ci := 11) (C := RX11) (T := TX11) (N := 95) hx hb hts inlX11 hown hK hP 0 gB_0 rfl 15 (by decide) (hts (.fieldLink RX11 17 "ShapeReaderModel" "typeArg" "[I") mw_26_29) (fun _ h9 => h9) rfl dX11_takes_277 ?_
        refine lv_iload_n hx hb dX11_takes_280 rfl (lv_at hl 1 rfl) ?_
        refine va_iald hx hb hK hP 3 2 gB_3 yB_3 (vp_in_iff.mpr hg1) dX11_takes_281 ?_
        exact b_X11_takes_282 hC ih h _ _ _ hP hD hS (lv_sub hl [0, 1] rfl)
      · replace h := ip hc h
        refine lv_aload_n hx hb dX11_takes_264 rfl (lv_at hl 0 rfl) ?_
        refine va_get (D := (dC, dI)) (ci := 11) (C := RX11) (T := TX11) (N := 95) hx hb hts inlX11 hown hK hP 0 gB_0 rfl 15 (by decide) (hts (.fieldLink RX11 17 "ShapeReaderModel" "typeArg" "[I") mw_26_29) (fun _ h9 => h9) rfl dX11_takes_265 ?_
        refine lv_iload_n hx hb dX11_takes_268 rfl (lv_at hl 1 rfl) ?_
        refine va_iald hx hb hK hP 3 2 gB_3 yB_3 (vp_in_iff.mpr hg1) dX11_takes_269 ?_
        obtain ⟨q3, hc, h⟩ := ib h
        have hF := va_frees hD hS hA
        refine va_calli (va_runS (As := [.int ((stI σ 2 (x1 - 400).toNatClampNeg (σ.1 2 x1.toNatClampNeg)).1 3 x1.toNatClampNeg)]) (rest := [.int (x1 - 400), .ref (a 3)]) ⟨hx, hb, hml, hown, hts⟩ (s_X11_moved hc) (va_cwS 1 hts (gS mw_33_6 mw_33_7 mw_0_15 mw_55_5) rfl rfl rfl (by decide +kernel) ⟨(Nat.le_of_ble_eq_true rfl), (Nat.le_of_ble_eq_true rfl)⟩) (vS hK hP hD hN) rfl rfl hl.1 rfl (lv_room (Nat.le_of_ble_eq_true rfl)) dX11_takes_270 ⟨(Nat.le_of_ble_eq_true rfl), (Nat.le_of_ble_eq_true rfl)⟩) hS (fun q _ h => hF q h) hF (fun r4 u t H locs ht hvm hw hB _ _ hS => ?_)
        obtain rfl : r4 = q3.1 := hw
        replace hP : va_P (dC, dI) vwCl (wB a k q3.2) H := by rw [← ht]; exact hB.1
        replace hD := hD0 (q3.2)
        clear hB hF
        refine lv_goto (tgt := 282) hx hb dX11_takes_273 (by decide) ?_
        exact b_X11_takes_282 hC ih h _ _ _ hP hD hS (lv_sub hl [0, 1] rfl)

set_option maxRecDepth 100000 in
set_option maxHeartbeats 4000000 in
theorem b_X11_takes_98 {p : Program} {l : Launch} {e : Env} {s : State} {m : MethodId} {args : Array Value} {below : List Frame} {meth : Method} {c : Code} {dC : Nat → ClassId} {dI : Nat → Nat → Nat} {a : Nat → Nat} {k : Nat → ClassId} {A : Nat → Prop} {q : ST} (hC : CxB p s m args meth c dC dI k A cX11_takes RX11 none 3)   : ∀ (n : Nat) (x1 : Int32) (σ : ST), f_X11_takes_98  n x1 σ = some q → GoB p l e ({ frames := 1, cells := 0, slots := 0, locals := 20 } : Room) s m args below meth c (MQ below (qBv dC dI a k A q) args s 0 0 A) dC dI a k A 3 98 σ [(0, .ref (a 0)), (1, .int x1)] [] := by
  intro n
  induction n with
  | zero =>
    intro x1 σ h
    rw [f_X11_takes_98] at h
    cases h
  | succ n ih =>
    intro x1 σ h
    have hC0 := hC
    obtain ⟨hx, hb, hr, hml, hown, hts, hlocks, hA, hN, hK⟩ := hC0
    intro H locs ls hP hD hS hl
    have hD0 : ∀ σ1 : ST, va_D A (wB a k σ1) := fun σ1 => wB_D hD
    rw [f_X11_takes_98] at h
    refine lv_iload_n hx hb dX11_takes_98 rfl (lv_at hl 1 rfl) ?_
    refine lv_sipush (v := 288) hx hb dX11_takes_99 (by decide) ?_
    refine lv_icmp_ge (tgt := 216) hx hb dX11_takes_102 (by decide) (fun hc => ?_) (fun hc => ?_)
    · replace h := ip hc h
      refine lv_sipush (v := 400) hx hb dX11_takes_216 (by decide) ?_
      refine lv_istore_n (lv' := [(1, .int 400), (0, .ref (a 0))]) hx hb dX11_takes_219 rfl hl (by decide) rfl (fun ls hl => ?_)
      exact b_X11_takes_220 hC FU _ _ h _ _ _ hP hD hS (lv_sub hl [1, 0] rfl)
    · replace h := iq hc h
      refine lv_iload_n hx hb dX11_takes_105 rfl (lv_at hl 1 rfl) ?_
      refine lv_sipush (v := 288) hx hb dX11_takes_106 (by decide) ?_
      refine lv_iadd hx hb dX11_takes_109 ?_
      refine lv_istore_n (lv' := [(2, .int (x1 + 288)), (0, .ref (a 0)), (1, .int x1)]) hx hb dX11_takes_110 rfl hl (by decide) rfl (fun ls hl => ?_)
      refine lv_aload_n hx hb dX11_takes_111 rfl (lv_at hl 1 rfl) ?_
      refine va_get (D := (dC, dI)) (ci := 11) (C := RX11) (T := TX11) (N := 95) hx hb hts inlX11 hown hK hP 0 gB_0 rfl 24 (by decide) (hts (.fieldLink RX11 45 "ShapeReaderModel" "fieldName" "[J") mw_27_8) (fun _ h9 => h9) rfl dX11_takes_112 ?_
      refine lv_iload_n hx hb dX11_takes_115 rfl (lv_at hl 2 rfl) ?_
      refine lv_aload_n hx hb dX11_takes_116 rfl (lv_at hl 1 rfl) ?_
      refine va_get (D := (dC, dI)) (ci := 11) (C := RX11) (T := TX11) (N := 95) hx hb hts inlX11 hown hK hP 0 gB_0 rfl 24 (by decide) (hts (.fieldLink RX11 45 "ShapeReaderModel" "fieldName" "[J") mw_27_8) (fun _ h9 => h9) rfl dX11_takes_117 ?_
      refine lv_iload_n hx hb dX11_takes_120 rfl (lv_at hl 0 rfl) ?_
      obtain ⟨hg1, h⟩ := ig h
      refine va_lald hx hb hK hP 12 11 gB_12 yB_12 (vp_in_iff.mpr hg1) dX11_takes_121 ?_
      obtain ⟨hg2, h⟩ := ig h
      refine va_last hx hb hK hP hD hS 12 11 gB_12 yB_12 (vp_in_iff.mpr hg2) dX11_takes_122 (fun H locs hP hD hS => ?_)
      replace hP := uB_12 hP
      replace hD := hD0 ((stL σ 12 x1.toNatClampNeg (σ.2.1 12 (x1 + 288).toNatClampNeg)))
      refine lv_aload_n hx hb dX11_takes_123 rfl (lv_at hl 1 rfl) ?_
      refine va_get (D := (dC, dI)) (ci := 11) (C := RX11) (T := TX11) (N := 95) hx hb hts inlX11 hown hK hP 0 gB_0 rfl 25 (by decide) (hts (.fieldLink RX11 48 "ShapeReaderModel" "fieldLetters" "[I") mw_27_9) (fun _ h9 => h9) rfl dX11_takes_124 ?_
      refine lv_iload_n hx hb dX11_takes_127 rfl (lv_at hl 2 rfl) ?_
      refine lv_aload_n hx hb dX11_takes_128 rfl (lv_at hl 1 rfl) ?_
      refine va_get (D := (dC, dI)) (ci := 11) (C := RX11) (T := TX11) (N := 95) hx hb hts inlX11 hown hK hP 0 gB_0 rfl 25 (by decide) (hts (.fieldLink RX11 48 "ShapeReaderModel" "fieldLetters" "[I") mw_27_9) (fun _ h9 => h9) rfl dX11_takes_129 ?_
      refine lv_iload_n hx hb dX11_takes_132 rfl (lv_at hl 0 rfl) ?_
      refine va_iald hx hb hK hP 13 12 gB_13 yB_13 (vp_in_iff.mpr hg1) dX11_takes_133 ?_
      refine va_iast hx hb hK hP hD hS 13 12 gB_13 yB_13 (vp_in_iff.mpr hg2) dX11_takes_134 (fun H locs hP hD hS => ?_)
      replace hP := uB_13 hP
      replace hD := hD0 ((stI (stL σ 12 x1.toNatClampNeg (σ.2.1 12 (x1 + 288).toNatClampNeg)) 13 x1.toNatClampNeg ((stL σ 12 x1.toNatClampNeg (σ.2.1 12 (x1 + 288).toNatClampNeg)).1 13 (x1 + 288).toNatClampNeg)))
      obtain ⟨z3, hs, h⟩ := ib h
      replace hs := Option.some.inj hs
      replace hP : va_P (dC, dI) vwCl (wB a k z3) H := by rw [← hs]; exact hP
      replace hD := hD0 z3
      clear hs
      refine lv_aload_n hx hb dX11_takes_135 rfl (lv_at hl 1 rfl) ?_
      refine va_get (D := (dC, dI)) (ci := 11) (C := RX11) (T := TX11) (N := 95) hx hb hts inlX11 hown hK hP 0 gB_0 rfl 26 (by decide) (hts (.fieldLink RX11 51 "ShapeReaderModel" "fieldWas" "[J") mw_27_10) (fun _ h9 => h9) rfl dX11_takes_136 ?_
      refine lv_iload_n hx hb dX11_takes_139 rfl (lv_at hl 2 rfl) ?_
      refine lv_aload_n hx hb dX11_takes_140 rfl (lv_at hl 1 rfl) ?_
      refine va_get (D := (dC, dI)) (ci := 11) (C := RX11) (T := TX11) (N := 95) hx hb hts inlX11 hown hK hP 0 gB_0 rfl 26 (by decide) (hts (.fieldLink RX11 51 "ShapeReaderModel" "fieldWas" "[J") mw_27_10) (fun _ h9 => h9) rfl dX11_takes_141 ?_
      refine lv_iload_n hx hb dX11_takes_144 rfl (lv_at hl 0 rfl) ?_
      refine va_lald hx hb hK hP 14 13 gB_14 yB_14 (vp_in_iff.mpr hg1) dX11_takes_145 ?_
      refine va_last hx hb hK hP hD hS 14 13 gB_14 yB_14 (vp_in_iff.mpr hg2) dX11_takes_146 (fun H locs hP hD hS => ?_)
      replace hP := uB_14 hP
      replace hD := hD0 ((stL z3 14 x1.toNatClampNeg (z3.2.1 14 (x1 + 288).toNatClampNeg)))
      refine lv_aload_n hx hb dX11_takes_147 rfl (lv_at hl 1 rfl) ?_
      refine va_get (D := (dC, dI)) (ci := 11) (C := RX11) (T := TX11) (N := 95) hx hb hts inlX11 hown hK hP 0 gB_0 rfl 27 (by decide) (hts (.fieldLink RX11 54 "ShapeReaderModel" "fieldType" "[I") mw_27_11) (fun _ h9 => h9) rfl dX11_takes_148 ?_
      refine lv_iload_n hx hb dX11_takes_151 rfl (lv_at hl 2 rfl) ?_
      refine lv_aload_n hx hb dX11_takes_152 rfl (lv_at hl 1 rfl) ?_
      refine va_get (D := (dC, dI)) (ci := 11) (C := RX11) (T := TX11) (N := 95) hx hb hts inlX11 hown hK hP 0 gB_0 rfl 27 (by decide) (hts (.fieldLink RX11 54 "ShapeReaderModel" "fieldType" "[I") mw_27_11) (fun _ h9 => h9) rfl dX11_takes_153 ?_
      refine lv_iload_n hx hb dX11_takes_156 rfl (lv_at hl 0 rfl) ?_
      refine va_iald hx hb hK hP 15 14 gB_15 yB_15 (vp_in_iff.mpr hg1) dX11_takes_157 ?_
      obtain ⟨q4, hc, h⟩ := ib h
      have hF := va_frees hD hS hA
      refine va_calli (va_runS (As := [.int ((stL z3 14 x1.toNatClampNeg (z3.2.1 14 (x1 + 288).toNatClampNeg)).1 15 (x1 + 288).toNatClampNeg)]) (rest := [.int x1, .ref (a 15)]) ⟨hx, hb, hml, hown, hts⟩ (s_X11_moved hc) (va_cwS 1 hts (gS mw_33_6 mw_33_7 mw_0_15 mw_55_5) rfl rfl rfl (by decide +kernel) ⟨(Nat.le_of_ble_eq_true rfl), (Nat.le_of_ble_eq_true rfl)⟩) (vS hK hP hD hN) rfl rfl hl.1 rfl (lv_room (Nat.le_of_ble_eq_true rfl)) dX11_takes_158 ⟨(Nat.le_of_ble_eq_true rfl), (Nat.le_of_ble_eq_true rfl)⟩) hS (fun q _ h => hF q h) hF (fun r5 u t H locs ht hvm hw hB _ _ hS => ?_)
      obtain rfl : r5 = q4.1 := hw
      replace hP : va_P (dC, dI) vwCl (wB a k q4.2) H := by rw [← ht]; exact hB.1
      replace hD := hD0 (q4.2)
      clear hB hF
      refine va_iast hx hb hK hP hD hS 15 14 gB_15 yB_15 (vp_in_iff.mpr hg2) dX11_takes_161 (fun H locs hP hD hS => ?_)
      replace hP := uB_15 hP
      replace hD := hD0 ((stI q4.2 15 x1.toNatClampNeg q4.1))
      refine lv_aload_n hx hb dX11_takes_162 rfl (lv_at hl 1 rfl) ?_
      refine va_get (D := (dC, dI)) (ci := 11) (C := RX11) (T := TX11) (N := 95) hx hb hts inlX11 hown hK hP 0 gB_0 rfl 28 (by decide) (hts (.fieldLink RX11 57 "ShapeReaderModel" "hasElse" "[Z") mw_27_12) (fun _ h9 => h9) rfl dX11_takes_163 ?_
      refine lv_iload_n hx hb dX11_takes_166 rfl (lv_at hl 2 rfl) ?_
      refine lv_aload_n hx hb dX11_takes_167 rfl (lv_at hl 1 rfl) ?_
      refine va_get (D := (dC, dI)) (ci := 11) (C := RX11) (T := TX11) (N := 95) hx hb hts inlX11 hown hK hP 0 gB_0 rfl 28 (by decide) (hts (.fieldLink RX11 57 "ShapeReaderModel" "hasElse" "[Z") mw_27_12) (fun _ h9 => h9) rfl dX11_takes_168 ?_
      refine lv_iload_n hx hb dX11_takes_171 rfl (lv_at hl 0 rfl) ?_
      refine va_zald hx hb hK hP 16 15 gB_16 yB_16 (vp_in_iff.mpr hg1) dX11_takes_172 ?_
      refine va_zast hx hb hK hP hD hS 16 15 gB_16 yB_16 (vp_in_iff.mpr hg2) dX11_takes_173 (fun H locs hP hD hS => ?_)
      replace hP := uB_16 hP
      replace hD := hD0 ((stI (stI q4.2 15 x1.toNatClampNeg q4.1) 16 x1.toNatClampNeg (vp_nar .boolean ((stI q4.2 15 x1.toNatClampNeg q4.1).1 16 (x1 + 288).toNatClampNeg))))
      obtain ⟨z6, hs, h⟩ := ib h
      replace hs := Option.some.inj hs
      replace hP : va_P (dC, dI) vwCl (wB a k z6) H := by rw [← hs]; exact hP
      replace hD := hD0 z6
      clear hs
      refine lv_aload_n hx hb dX11_takes_174 rfl (lv_at hl 1 rfl) ?_
      refine va_get (D := (dC, dI)) (ci := 11) (C := RX11) (T := TX11) (N := 95) hx hb hts inlX11 hown hK hP 0 gB_0 rfl 29 (by decide) (hts (.fieldLink RX11 61 "ShapeReaderModel" "elseBits" "[J") mw_27_13) (fun _ h9 => h9) rfl dX11_takes_175 ?_
      refine lv_iload_n hx hb dX11_takes_178 rfl (lv_at hl 2 rfl) ?_
      refine lv_aload_n hx hb dX11_takes_179 rfl (lv_at hl 1 rfl) ?_
      refine va_get (D := (dC, dI)) (ci := 11) (C := RX11) (T := TX11) (N := 95) hx hb hts inlX11 hown hK hP 0 gB_0 rfl 29 (by decide) (hts (.fieldLink RX11 61 "ShapeReaderModel" "elseBits" "[J") mw_27_13) (fun _ h9 => h9) rfl dX11_takes_180 ?_
      refine lv_iload_n hx hb dX11_takes_183 rfl (lv_at hl 0 rfl) ?_
      refine va_lald hx hb hK hP 17 16 gB_17 yB_17 (vp_in_iff.mpr hg1) dX11_takes_184 ?_
      refine va_last hx hb hK hP hD hS 17 16 gB_17 yB_17 (vp_in_iff.mpr hg2) dX11_takes_185 (fun H locs hP hD hS => ?_)
      replace hP := uB_17 hP
      replace hD := hD0 ((stL z6 17 x1.toNatClampNeg (z6.2.1 17 (x1 + 288).toNatClampNeg)))
      refine lv_aload_n hx hb dX11_takes_186 rfl (lv_at hl 1 rfl) ?_
      refine va_get (D := (dC, dI)) (ci := 11) (C := RX11) (T := TX11) (N := 95) hx hb hts inlX11 hown hK hP 0 gB_0 rfl 30 (by decide) (hts (.fieldLink RX11 64 "ShapeReaderModel" "elseText" "[J") mw_27_14) (fun _ h9 => h9) rfl dX11_takes_187 ?_
      refine lv_iload_n hx hb dX11_takes_190 rfl (lv_at hl 2 rfl) ?_
      refine lv_aload_n hx hb dX11_takes_191 rfl (lv_at hl 1 rfl) ?_
      refine va_get (D := (dC, dI)) (ci := 11) (C := RX11) (T := TX11) (N := 95) hx hb hts inlX11 hown hK hP 0 gB_0 rfl 30 (by decide) (hts (.fieldLink RX11 64 "ShapeReaderModel" "elseText" "[J") mw_27_14) (fun _ h9 => h9) rfl dX11_takes_192 ?_
      refine lv_iload_n hx hb dX11_takes_195 rfl (lv_at hl 0 rfl) ?_
      refine va_lald hx hb hK hP 18 17 gB_18 yB_18 (vp_in_iff.mpr hg1) dX11_takes_196 ?_
      refine va_last hx hb hK hP hD hS 18 17 gB_18 yB_18 (vp_in_iff.mpr hg2) dX11_takes_197 (fun H locs hP hD hS => ?_)
      replace hP := uB_18 hP
      replace hD := hD0 ((stL (stL z6 17 x1.toNatClampNeg (z6.2.1 17 (x1 + 288).toNatClampNeg)) 18 x1.toNatClampNeg ((stL z6 17 x1.toNatClampNeg (z6.2.1 17 (x1 + 288).toNatClampNeg)).2.1 18 (x1 + 288).toNatClampNeg)))
      obtain ⟨z7, hs, h⟩ := ib h
      replace hs := Option.some.inj hs
      replace hP : va_P (dC, dI) vwCl (wB a k z7) H := by rw [← hs]; exact hP
      replace hD := hD0 z7
      clear hs
      refine lv_aload_n hx hb dX11_takes_198 rfl (lv_at hl 1 rfl) ?_
      refine va_get (D := (dC, dI)) (ci := 11) (C := RX11) (T := TX11) (N := 95) hx hb hts inlX11 hown hK hP 0 gB_0 rfl 31 (by decide) (hts (.fieldLink RX11 67 "ShapeReaderModel" "elseLetters" "[I") mw_27_15) (fun _ h9 => h9) rfl dX11_takes_199 ?_
      refine lv_iload_n hx hb dX11_takes_202 rfl (lv_at hl 2 rfl) ?_
      refine lv_aload_n hx hb dX11_takes_203 rfl (lv_at hl 1 rfl) ?_
      refine va_get (D := (dC, dI)) (ci := 11) (C := RX11) (T := TX11) (N := 95) hx hb hts inlX11 hown hK hP 0 gB_0 rfl 31 (by decide) (hts (.fieldLink RX11 67 "ShapeReaderModel" "elseLetters" "[I") mw_27_15) (fun _ h9 => h9) rfl dX11_takes_204 ?_
      refine lv_iload_n hx hb dX11_takes_207 rfl (lv_at hl 0 rfl) ?_
      refine va_iald hx hb hK hP 19 18 gB_19 yB_19 (vp_in_iff.mpr hg1) dX11_takes_208 ?_
      refine va_iast hx hb hK hP hD hS 19 18 gB_19 yB_19 (vp_in_iff.mpr hg2) dX11_takes_209 (fun H locs hP hD hS => ?_)
      replace hP := uB_19 hP
      replace hD := hD0 ((stI z7 19 x1.toNatClampNeg (z7.1 19 (x1 + 288).toNatClampNeg)))
      refine lv_iinc (v := (x1 + 1)) (lv' := [(1, .int (x1 + 1)), (2, .int (x1 + 288)), (0, .ref (a 0))]) hx hb dX11_takes_210 hl (k := 2) rfl rfl (by decide) rfl (fun ls hl => ?_)
      refine lv_goto (tgt := 98) hx hb dX11_takes_213 (by decide) ?_
      exact ih _ _ h _ _ _ hP hD hS (lv_sub hl [2, 0] rfl)

set_option maxRecDepth 100000 in
set_option maxHeartbeats 4000000 in
theorem b_X11_takes_39 {p : Program} {l : Launch} {e : Env} {s : State} {m : MethodId} {args : Array Value} {below : List Frame} {meth : Method} {c : Code} {dC : Nat → ClassId} {dI : Nat → Nat → Nat} {a : Nat → Nat} {k : Nat → ClassId} {A : Nat → Prop} {q : ST} (hC : CxB p s m args meth c dC dI k A cX11_takes RX11 none 3)   : ∀ (n : Nat) (x1 : Int32) (σ : ST), f_X11_takes_39  n x1 σ = some q → GoB p l e ({ frames := 1, cells := 0, slots := 0, locals := 20 } : Room) s m args below meth c (MQ below (qBv dC dI a k A q) args s 0 0 A) dC dI a k A 3 39 σ [(0, .ref (a 0)), (1, .int x1)] [] := by
  intro n
  induction n with
  | zero =>
    intro x1 σ h
    rw [f_X11_takes_39] at h
    cases h
  | succ n ih =>
    intro x1 σ h
    have hC0 := hC
    obtain ⟨hx, hb, hr, hml, hown, hts, hlocks, hA, hN, hK⟩ := hC0
    intro H locs ls hP hD hS hl
    have hD0 : ∀ σ1 : ST, va_D A (wB a k σ1) := fun σ1 => wB_D hD
    rw [f_X11_takes_39] at h
    refine lv_iload_n hx hb dX11_takes_39 rfl (lv_at hl 1 rfl) ?_
    refine lv_bipush (v := 36) hx hb dX11_takes_40 (by decide) ?_
    refine lv_icmp_ge (tgt := 96) hx hb dX11_takes_42 (by decide) (fun hc => ?_) (fun hc => ?_)
    · replace h := ip hc h
      refine lv_iconst (v := 0) hx hb dX11_takes_96 (by decide) ?_
      refine lv_istore_n (lv' := [(1, .int 0), (0, .ref (a 0))]) hx hb dX11_takes_97 rfl hl (by decide) rfl (fun ls hl => ?_)
      exact b_X11_takes_98 hC FU _ _ h _ _ _ hP hD hS (lv_sub hl [1, 0] rfl)
    · replace h := iq hc h
      refine lv_aload_n hx hb dX11_takes_45 rfl (lv_at hl 0 rfl) ?_
      refine va_get (D := (dC, dI)) (ci := 11) (C := RX11) (T := TX11) (N := 95) hx hb hts inlX11 hown hK hP 0 gB_0 rfl 21 (by decide) (hts (.fieldLink RX11 36 "ShapeReaderModel" "recordName" "[J") mw_27_5) (fun _ h9 => h9) rfl dX11_takes_46 ?_
      refine lv_iload_n hx hb dX11_takes_49 rfl (lv_at hl 1 rfl) ?_
      refine lv_aload_n hx hb dX11_takes_50 rfl (lv_at hl 0 rfl) ?_
      refine va_get (D := (dC, dI)) (ci := 11) (C := RX11) (T := TX11) (N := 95) hx hb hts inlX11 hown hK hP 0 gB_0 rfl 21 (by decide) (hts (.fieldLink RX11 36 "ShapeReaderModel" "recordName" "[J") mw_27_5) (fun _ h9 => h9) rfl dX11_takes_51 ?_
      refine lv_iload_n hx hb dX11_takes_54 rfl (lv_at hl 1 rfl) ?_
      refine lv_bipush (v := 36) hx hb dX11_takes_55 (by decide) ?_
      refine lv_iadd hx hb dX11_takes_57 ?_
      obtain ⟨hg1, h⟩ := ig h
      refine va_lald hx hb hK hP 9 8 gB_9 yB_9 (vp_in_iff.mpr hg1) dX11_takes_58 ?_
      obtain ⟨hg2, h⟩ := ig h
      refine va_last hx hb hK hP hD hS 9 8 gB_9 yB_9 (vp_in_iff.mpr hg2) dX11_takes_59 (fun H locs hP hD hS => ?_)
      replace hP := uB_9 hP
      replace hD := hD0 ((stL σ 9 x1.toNatClampNeg (σ.2.1 9 (x1 + 36).toNatClampNeg)))
      refine lv_aload_n hx hb dX11_takes_60 rfl (lv_at hl 0 rfl) ?_
      refine va_get (D := (dC, dI)) (ci := 11) (C := RX11) (T := TX11) (N := 95) hx hb hts inlX11 hown hK hP 0 gB_0 rfl 22 (by decide) (hts (.fieldLink RX11 39 "ShapeReaderModel" "recordLetters" "[I") mw_27_6) (fun _ h9 => h9) rfl dX11_takes_61 ?_
      refine lv_iload_n hx hb dX11_takes_64 rfl (lv_at hl 1 rfl) ?_
      refine lv_aload_n hx hb dX11_takes_65 rfl (lv_at hl 0 rfl) ?_
      refine va_get (D := (dC, dI)) (ci := 11) (C := RX11) (T := TX11) (N := 95) hx hb hts inlX11 hown hK hP 0 gB_0 rfl 22 (by decide) (hts (.fieldLink RX11 39 "ShapeReaderModel" "recordLetters" "[I") mw_27_6) (fun _ h9 => h9) rfl dX11_takes_66 ?_
      refine lv_iload_n hx hb dX11_takes_69 rfl (lv_at hl 1 rfl) ?_
      refine lv_bipush (v := 36) hx hb dX11_takes_70 (by decide) ?_
      refine lv_iadd hx hb dX11_takes_72 ?_
      refine va_iald hx hb hK hP 10 9 gB_10 yB_10 (vp_in_iff.mpr hg1) dX11_takes_73 ?_
      refine va_iast hx hb hK hP hD hS 10 9 gB_10 yB_10 (vp_in_iff.mpr hg2) dX11_takes_74 (fun H locs hP hD hS => ?_)
      replace hP := uB_10 hP
      replace hD := hD0 ((stI (stL σ 9 x1.toNatClampNeg (σ.2.1 9 (x1 + 36).toNatClampNeg)) 10 x1.toNatClampNeg ((stL σ 9 x1.toNatClampNeg (σ.2.1 9 (x1 + 36).toNatClampNeg)).1 10 (x1 + 36).toNatClampNeg)))
      obtain ⟨z3, hs, h⟩ := ib h
      replace hs := Option.some.inj hs
      replace hP : va_P (dC, dI) vwCl (wB a k z3) H := by rw [← hs]; exact hP
      replace hD := hD0 z3
      clear hs
      refine lv_aload_n hx hb dX11_takes_75 rfl (lv_at hl 0 rfl) ?_
      refine va_get (D := (dC, dI)) (ci := 11) (C := RX11) (T := TX11) (N := 95) hx hb hts inlX11 hown hK hP 0 gB_0 rfl 23 (by decide) (hts (.fieldLink RX11 42 "ShapeReaderModel" "fieldMany" "[I") mw_27_7) (fun _ h9 => h9) rfl dX11_takes_76 ?_
      refine lv_iload_n hx hb dX11_takes_79 rfl (lv_at hl 1 rfl) ?_
      refine lv_aload_n hx hb dX11_takes_80 rfl (lv_at hl 0 rfl) ?_
      refine va_get (D := (dC, dI)) (ci := 11) (C := RX11) (T := TX11) (N := 95) hx hb hts inlX11 hown hK hP 0 gB_0 rfl 23 (by decide) (hts (.fieldLink RX11 42 "ShapeReaderModel" "fieldMany" "[I") mw_27_7) (fun _ h9 => h9) rfl dX11_takes_81 ?_
      refine lv_iload_n hx hb dX11_takes_84 rfl (lv_at hl 1 rfl) ?_
      refine lv_bipush (v := 36) hx hb dX11_takes_85 (by decide) ?_
      refine lv_iadd hx hb dX11_takes_87 ?_
      refine va_iald hx hb hK hP 11 10 gB_11 yB_11 (vp_in_iff.mpr hg1) dX11_takes_88 ?_
      refine va_iast hx hb hK hP hD hS 11 10 gB_11 yB_11 (vp_in_iff.mpr hg2) dX11_takes_89 (fun H locs hP hD hS => ?_)
      replace hP := uB_11 hP
      replace hD := hD0 ((stI z3 11 x1.toNatClampNeg (z3.1 11 (x1 + 36).toNatClampNeg)))
      refine lv_iinc (v := (x1 + 1)) (lv' := [(1, .int (x1 + 1)), (0, .ref (a 0))]) hx hb dX11_takes_90 hl (k := 1) rfl rfl (by decide) rfl (fun ls hl => ?_)
      refine lv_goto (tgt := 39) hx hb dX11_takes_93 (by decide) ?_
      exact ih _ _ h _ _ _ hP hD hS (lv_sub hl [1, 0] rfl)

set_option maxRecDepth 100000 in
set_option maxHeartbeats 4000000 in
theorem b_X11_takes_10 {p : Program} {l : Launch} {e : Env} {s : State} {m : MethodId} {args : Array Value} {below : List Frame} {meth : Method} {c : Code} {dC : Nat → ClassId} {dI : Nat → Nat → Nat} {a : Nat → Nat} {k : Nat → ClassId} {A : Nat → Prop} {q : ST} (hC : CxB p s m args meth c dC dI k A cX11_takes RX11 none 3)   : ∀ (n : Nat) (x1 : Int32) (σ : ST), f_X11_takes_10  n x1 σ = some q → GoB p l e ({ frames := 1, cells := 0, slots := 0, locals := 20 } : Room) s m args below meth c (MQ below (qBv dC dI a k A q) args s 0 0 A) dC dI a k A 3 10 σ [(0, .ref (a 0)), (1, .int x1)] [] := by
  intro n
  induction n with
  | zero =>
    intro x1 σ h
    rw [f_X11_takes_10] at h
    cases h
  | succ n ih =>
    intro x1 σ h
    have hC0 := hC
    obtain ⟨hx, hb, hr, hml, hown, hts, hlocks, hA, hN, hK⟩ := hC0
    intro H locs ls hP hD hS hl
    have hD0 : ∀ σ1 : ST, va_D A (wB a k σ1) := fun σ1 => wB_D hD
    rw [f_X11_takes_10] at h
    refine lv_iload_n hx hb dX11_takes_10 rfl (lv_at hl 1 rfl) ?_
    refine lv_bipush (v := 6) hx hb dX11_takes_11 (by decide) ?_
    refine lv_icmp_ge (tgt := 37) hx hb dX11_takes_13 (by decide) (fun hc => ?_) (fun hc => ?_)
    · replace h := ip hc h
      refine lv_iconst (v := 0) hx hb dX11_takes_37 (by decide) ?_
      refine lv_istore_n (lv' := [(1, .int 0), (0, .ref (a 0))]) hx hb dX11_takes_38 rfl hl (by decide) rfl (fun ls hl => ?_)
      exact b_X11_takes_39 hC FU _ _ h _ _ _ hP hD hS (lv_sub hl [1, 0] rfl)
    · replace h := iq hc h
      refine lv_aload_n hx hb dX11_takes_16 rfl (lv_at hl 0 rfl) ?_
      refine va_get (D := (dC, dI)) (ci := 11) (C := RX11) (T := TX11) (N := 95) hx hb hts inlX11 hown hK hP 0 gB_0 rfl 20 (by decide) (hts (.fieldLink RX11 33 "ShapeReaderModel" "recordMany" "[I") mw_27_4) (fun _ h9 => h9) rfl dX11_takes_17 ?_
      refine lv_iload_n hx hb dX11_takes_20 rfl (lv_at hl 1 rfl) ?_
      refine lv_aload_n hx hb dX11_takes_21 rfl (lv_at hl 0 rfl) ?_
      refine va_get (D := (dC, dI)) (ci := 11) (C := RX11) (T := TX11) (N := 95) hx hb hts inlX11 hown hK hP 0 gB_0 rfl 20 (by decide) (hts (.fieldLink RX11 33 "ShapeReaderModel" "recordMany" "[I") mw_27_4) (fun _ h9 => h9) rfl dX11_takes_22 ?_
      refine lv_iload_n hx hb dX11_takes_25 rfl (lv_at hl 1 rfl) ?_
      refine lv_bipush (v := 6) hx hb dX11_takes_26 (by decide) ?_
      refine lv_iadd hx hb dX11_takes_28 ?_
      obtain ⟨hg1, h⟩ := ig h
      refine va_iald hx hb hK hP 8 7 gB_8 yB_8 (vp_in_iff.mpr hg1) dX11_takes_29 ?_
      obtain ⟨hg2, h⟩ := ig h
      refine va_iast hx hb hK hP hD hS 8 7 gB_8 yB_8 (vp_in_iff.mpr hg2) dX11_takes_30 (fun H locs hP hD hS => ?_)
      replace hP := uB_8 hP
      replace hD := hD0 ((stI σ 8 x1.toNatClampNeg (σ.1 8 (x1 + 6).toNatClampNeg)))
      refine lv_iinc (v := (x1 + 1)) (lv' := [(1, .int (x1 + 1)), (0, .ref (a 0))]) hx hb dX11_takes_31 hl (k := 1) rfl rfl (by decide) rfl (fun ls hl => ?_)
      refine lv_goto (tgt := 10) hx hb dX11_takes_34 (by decide) ?_
      exact ih _ _ h _ _ _ hP hD hS (lv_sub hl [1, 0] rfl)

set_option maxRecDepth 100000 in
set_option maxHeartbeats 4000000 in
theorem b_X11_takes_e {p : Program} {l : Launch} {e : Env} {s : State} {m : MethodId} {args : Array Value} {below : List Frame} {meth : Method} {c : Code} {dC : Nat → ClassId} {dI : Nat → Nat → Nat} {a : Nat → Nat} {k : Nat → ClassId} {A : Nat → Prop} {q : ST} (hC : CxB p s m args meth c dC dI k A cX11_takes RX11 none 3)    {σ : ST} (h : f_X11_takes   σ = some q) : GoB p l e ({ frames := 1, cells := 0, slots := 0, locals := 20 } : Room) s m args below meth c (MQ below (qBv dC dI a k A q) args s 0 0 A) dC dI a k A 3 0 σ (lv_args 0 [.ref (a 0)]) [] := by
  have hC0 := hC
  obtain ⟨hx, hb, hr, hml, hown, hts, hlocks, hA, hN, hK⟩ := hC0
  intro H locs ls hP hD hS hl
  have hD0 : ∀ σ1 : ST, va_D A (wB a k σ1) := fun σ1 => wB_D hD
  replace hl : lv_has ls 3 [(0, .ref (a 0))] := hl
  unfold f_X11_takes at h
  refine lv_aload_n hx hb dX11_takes_0 rfl (lv_at hl 0 rfl) ?_
  refine lv_aload_n hx hb dX11_takes_1 rfl (lv_at hl 0 rfl) ?_
  refine va_get (D := (dC, dI)) (ci := 11) (C := RX11) (T := TX11) (N := 95) hx hb hts inlX11 hown hK hP 0 gB_0 rfl 33 (by decide) (hts (.fieldLink RX11 368 "ShapeReaderModel" "readPlans" "I") mw_32_28) (fun _ h9 => h9) rfl dX11_takes_2 ?_
  refine va_put (D := (dC, dI)) (ci := 11) (ty := .int) (C := RX11) (T := TX11) (N := 95) hx hb hts inlX11 tyX11 tyX11_ok nmX11 hown hK hP hD hS 0 gB_0 rfl 32 (by decide) (hts (.fieldLink RX11 377 "ShapeReaderModel" "planMany" "I") mw_33_5) (fun _ h9 => h9) rfl (by decide +kernel) rfl rfl (Nat.le_of_ble_eq_true rfl) dX11_takes_5 (fun H locs hP hD hS => ?_)
  replace hP := uB_0_32 hP
  replace hD := hD0 ((stI σ 0 32 (σ.1 0 33)))
  refine lv_iconst (v := 0) hx hb dX11_takes_8 (by decide) ?_
  refine lv_istore_n (lv' := [(1, .int 0), (0, .ref (a 0))]) hx hb dX11_takes_9 rfl hl (by decide) rfl (fun ls hl => ?_)
  exact b_X11_takes_10 hC FU _ _ h _ _ _ hP hD hS (lv_sub hl [1, 0] rfl)

theorem s_X11_takes {l : Launch} {dC : Nat → ClassId} {dI : Nat → Nat → Nat} {a : Nat → Nat} {k : Nat → ClassId} {sz : Nat}  {σ : ST} {q : ST} (h : f_X11_takes   σ = some q) : Met l yX11_takes (.code yX11_takes cX11_takes 3 none :: pw) ({ frames := 1, cells := 0, slots := 0, locals := 20 } : Room) (va_Pc [.ref (a 0)] (vPre dC dI (wB a k σ) (tB k) sz)) (qBv dC dI a k (va_A (wB a k σ) sz) q) 0 0 (va_A (wB a k σ) sz) := metB (fun A => qBv dC dI a k A q) (plainFor_of_name (by decide)) (Nat.le_of_ble_eq_true rfl) (fun _ _ _ _ _ _ _ _ hC => b_X11_takes_e hC h)
