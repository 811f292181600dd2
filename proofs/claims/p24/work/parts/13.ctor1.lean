theorem dX0_init_0 : decode cX0_init 0 = .ok (.aload_n 0, 1) := by decide +kernel
theorem dX0_init_1 : decode cX0_init 1 = .ok (.invokespecial 3, 3) := by decide +kernel
theorem dX0_init_4 : decode cX0_init 4 = .ok (.aload_n 0, 1) := by decide +kernel
theorem dX0_init_5 : decode cX0_init 5 = .ok (.bipush 36, 2) := by decide +kernel
theorem dX0_init_7 : decode cX0_init 7 = .ok (.newarray .long, 2) := by decide +kernel
theorem dX0_init_9 : decode cX0_init 9 = .ok (.putfield 9, 3) := by decide +kernel
theorem dX0_init_12 : decode cX0_init 12 = .ok (.aload_n 0, 1) := by decide +kernel
theorem dX0_init_13 : decode cX0_init 13 = .ok (.lconst 0, 1) := by decide +kernel
theorem dX0_init_14 : decode cX0_init 14 = .ok (.putfield 15, 3) := by decide +kernel
theorem dX0_init_17 : decode cX0_init 17 = .ok (.aload_n 0, 1) := by decide +kernel
theorem dX0_init_18 : decode cX0_init 18 = .ok (.bipush 36, 2) := by decide +kernel
theorem dX0_init_20 : decode cX0_init 20 = .ok (.newarray .int, 2) := by decide +kernel
theorem dX0_init_22 : decode cX0_init 22 = .ok (.putfield 19, 3) := by decide +kernel
theorem dX0_init_25 : decode cX0_init 25 = .ok (.aload_n 0, 1) := by decide +kernel
theorem dX0_init_26 : decode cX0_init 26 = .ok (.lconst 0, 1) := by decide +kernel
theorem dX0_init_27 : decode cX0_init 27 = .ok (.putfield 23, 3) := by decide +kernel
theorem dX0_init_30 : decode cX0_init 30 = .ok (.aload_n 0, 1) := by decide +kernel
theorem dX0_init_31 : decode cX0_init 31 = .ok (.iconst (-1), 1) := by decide +kernel
theorem dX0_init_32 : decode cX0_init 32 = .ok (.putfield 26, 3) := by decide +kernel
theorem dX0_init_35 : decode cX0_init 35 = .ok (.aload_n 0, 1) := by decide +kernel
theorem dX0_init_36 : decode cX0_init 36 = .ok (.iconst 0, 1) := by decide +kernel
theorem dX0_init_37 : decode cX0_init 37 = .ok (.putfield 30, 3) := by decide +kernel
theorem dX0_init_40 : decode cX0_init 40 = .ok (.aload_n 0, 1) := by decide +kernel
theorem dX0_init_41 : decode cX0_init 41 = .ok (.bipush 20, 2) := by decide +kernel
theorem dX0_init_43 : decode cX0_init 43 = .ok (.newarray .int, 2) := by decide +kernel
theorem dX0_init_45 : decode cX0_init 45 = .ok (.putfield 33, 3) := by decide +kernel
theorem dX0_init_48 : decode cX0_init 48 = .ok (.aload_n 0, 1) := by decide +kernel
theorem dX0_init_49 : decode cX0_init 49 = .ok (.bipush 20, 2) := by decide +kernel
theorem dX0_init_51 : decode cX0_init 51 = .ok (.newarray .int, 2) := by decide +kernel
theorem dX0_init_53 : decode cX0_init 53 = .ok (.putfield 36, 3) := by decide +kernel
theorem dX0_init_56 : decode cX0_init 56 = .ok (.aload_n 0, 1) := by decide +kernel
theorem dX0_init_57 : decode cX0_init 57 = .ok (.sipush 640, 3) := by decide +kernel
theorem dX0_init_60 : decode cX0_init 60 = .ok (.newarray .int, 2) := by decide +kernel
theorem dX0_init_62 : decode cX0_init 62 = .ok (.putfield 39, 3) := by decide +kernel
theorem dX0_init_65 : decode cX0_init 65 = .ok (.aload_n 0, 1) := by decide +kernel
theorem dX0_init_66 : decode cX0_init 66 = .ok (.bipush 32, 2) := by decide +kernel
theorem dX0_init_68 : decode cX0_init 68 = .ok (.newarray .int, 2) := by decide +kernel
theorem dX0_init_70 : decode cX0_init 70 = .ok (.putfield 42, 3) := by decide +kernel
theorem dX0_init_73 : decode cX0_init 73 = .ok (.aload_n 0, 1) := by decide +kernel
theorem dX0_init_74 : decode cX0_init 74 = .ok (.iconst 0, 1) := by decide +kernel
theorem dX0_init_75 : decode cX0_init 75 = .ok (.putfield 45, 3) := by decide +kernel
theorem dX0_init_78 : decode cX0_init 78 = .ok (.aload_n 0, 1) := by decide +kernel
theorem dX0_init_79 : decode cX0_init 79 = .ok (.lconst 0, 1) := by decide +kernel
theorem dX0_init_80 : decode cX0_init 80 = .ok (.putfield 48, 3) := by decide +kernel
theorem dX0_init_83 : decode cX0_init 83 = .ok (.aload_n 0, 1) := by decide +kernel
theorem dX0_init_84 : decode cX0_init 84 = .ok (.aload_n 1, 1) := by decide +kernel
theorem dX0_init_85 : decode cX0_init 85 = .ok (.putfield 51, 3) := by decide +kernel
theorem dX0_init_88 : decode cX0_init 88 = .ok (.aload_n 0, 1) := by decide +kernel
theorem dX0_init_89 : decode cX0_init 89 = .ok (.getfield 19, 3) := by decide +kernel
theorem dX0_init_92 : decode cX0_init 92 = .ok (.iconst (-1), 1) := by decide +kernel
theorem dX0_init_93 : decode cX0_init 93 = .ok (.invokestatic 55, 3) := by decide +kernel
theorem dX0_init_96 : decode cX0_init 96 = .ok (.return_, 1) := by decide +kernel
theorem dX1_init_0 : decode cX1_init 0 = .ok (.aload_n 0, 1) := by decide +kernel
theorem dX1_init_1 : decode cX1_init 1 = .ok (.invokespecial 3, 3) := by decide +kernel
theorem dX1_init_4 : decode cX1_init 4 = .ok (.aload_n 0, 1) := by decide +kernel
theorem dX1_init_5 : decode cX1_init 5 = .ok (.sipush 1600, 3) := by decide +kernel
theorem dX1_init_8 : decode cX1_init 8 = .ok (.newarray .byte, 2) := by decide +kernel
theorem dX1_init_10 : decode cX1_init 10 = .ok (.putfield 9, 3) := by decide +kernel
theorem dX1_init_13 : decode cX1_init 13 = .ok (.aload_n 0, 1) := by decide +kernel
theorem dX1_init_14 : decode cX1_init 14 = .ok (.iconst 4, 1) := by decide +kernel
theorem dX1_init_15 : decode cX1_init 15 = .ok (.newarray .int, 2) := by decide +kernel
theorem dX1_init_17 : decode cX1_init 17 = .ok (.putfield 15, 3) := by decide +kernel
theorem dX1_init_20 : decode cX1_init 20 = .ok (.aload_n 0, 1) := by decide +kernel
theorem dX1_init_21 : decode cX1_init 21 = .ok (.iconst 4, 1) := by decide +kernel
theorem dX1_init_22 : decode cX1_init 22 = .ok (.newarray .int, 2) := by decide +kernel
theorem dX1_init_24 : decode cX1_init 24 = .ok (.putfield 19, 3) := by decide +kernel
theorem dX1_init_27 : decode cX1_init 27 = .ok (.aload_n 0, 1) := by decide +kernel
theorem dX1_init_28 : decode cX1_init 28 = .ok (.getfield 19, 3) := by decide +kernel
theorem dX1_init_31 : decode cX1_init 31 = .ok (.iconst (-1), 1) := by decide +kernel
theorem dX1_init_32 : decode cX1_init 32 = .ok (.invokestatic 22, 3) := by decide +kernel
theorem dX1_init_35 : decode cX1_init 35 = .ok (.return_, 1) := by decide +kernel
theorem dX2_init_0 : decode cX2_init 0 = .ok (.aload_n 0, 1) := by decide +kernel
theorem dX2_init_1 : decode cX2_init 1 = .ok (.invokespecial 3, 3) := by decide +kernel
theorem dX2_init_4 : decode cX2_init 4 = .ok (.aload_n 0, 1) := by decide +kernel
theorem dX2_init_5 : decode cX2_init 5 = .ok (.sipush 400, 3) := by decide +kernel
theorem dX2_init_8 : decode cX2_init 8 = .ok (.newarray .byte, 2) := by decide +kernel
theorem dX2_init_10 : decode cX2_init 10 = .ok (.putfield 9, 3) := by decide +kernel
theorem dX2_init_13 : decode cX2_init 13 = .ok (.aload_n 0, 1) := by decide +kernel
theorem dX2_init_14 : decode cX2_init 14 = .ok (.iconst 0, 1) := by decide +kernel
theorem dX2_init_15 : decode cX2_init 15 = .ok (.putfield 15, 3) := by decide +kernel
theorem dX2_init_18 : decode cX2_init 18 = .ok (.aload_n 0, 1) := by decide +kernel
theorem dX2_init_19 : decode cX2_init 19 = .ok (.aload_n 1, 1) := by decide +kernel
theorem dX2_init_20 : decode cX2_init 20 = .ok (.putfield 19, 3) := by decide +kernel
theorem dX2_init_23 : decode cX2_init 23 = .ok (.return_, 1) := by decide +kernel
theorem dX3_init_0 : decode cX3_init 0 = .ok (.aload_n 0, 1) := by decide +kernel
theorem dX3_init_1 : decode cX3_init 1 = .ok (.invokespecial 3, 3) := by decide +kernel
theorem dX3_init_4 : decode cX3_init 4 = .ok (.aload_n 0, 1) := by decide +kernel
theorem dX3_init_5 : decode cX3_init 5 = .ok (.aload_n 1, 1) := by decide +kernel
theorem dX3_init_6 : decode cX3_init 6 = .ok (.putfield 9, 3) := by decide +kernel
theorem dX3_init_9 : decode cX3_init 9 = .ok (.aload_n 0, 1) := by decide +kernel
theorem dX3_init_10 : decode cX3_init 10 = .ok (.aload_n 2, 1) := by decide +kernel
theorem dX3_init_11 : decode cX3_init 11 = .ok (.putfield 15, 3) := by decide +kernel
theorem dX3_init_14 : decode cX3_init 14 = .ok (.return_, 1) := by decide +kernel
theorem dX4_init_0 : decode cX4_init 0 = .ok (.aload_n 0, 1) := by decide +kernel
theorem dX4_init_1 : decode cX4_init 1 = .ok (.invokespecial 3, 3) := by decide +kernel
theorem dX4_init_4 : decode cX4_init 4 = .ok (.aload_n 0, 1) := by decide +kernel
theorem dX4_init_5 : decode cX4_init 5 = .ok (.iconst 0, 1) := by decide +kernel
theorem dX4_init_6 : decode cX4_init 6 = .ok (.putfield 9, 3) := by decide +kernel
theorem dX4_init_9 : decode cX4_init 9 = .ok (.aload_n 0, 1) := by decide +kernel
theorem dX4_init_10 : decode cX4_init 10 = .ok (.iconst 0, 1) := by decide +kernel
theorem dX4_init_11 : decode cX4_init 11 = .ok (.putfield 15, 3) := by decide +kernel
theorem dX4_init_14 : decode cX4_init 14 = .ok (.aload_n 0, 1) := by decide +kernel
theorem dX4_init_15 : decode cX4_init 15 = .ok (.iconst 0, 1) := by decide +kernel
theorem dX4_init_16 : decode cX4_init 16 = .ok (.putfield 18, 3) := by decide +kernel
theorem dX4_init_19 : decode cX4_init 19 = .ok (.aload_n 0, 1) := by decide +kernel
theorem dX4_init_20 : decode cX4_init 20 = .ok (.iconst 0, 1) := by decide +kernel
theorem dX4_init_21 : decode cX4_init 21 = .ok (.putfield 21, 3) := by decide +kernel
theorem dX4_init_24 : decode cX4_init 24 = .ok (.aload_n 0, 1) := by decide +kernel
theorem dX4_init_25 : decode cX4_init 25 = .ok (.iconst (-1), 1) := by decide +kernel
theorem dX4_init_26 : decode cX4_init 26 = .ok (.putfield 24, 3) := by decide +kernel
theorem dX4_init_29 : decode cX4_init 29 = .ok (.aload_n 0, 1) := by decide +kernel
theorem dX4_init_30 : decode cX4_init 30 = .ok (.bipush 64, 2) := by decide +kernel
theorem dX4_init_32 : decode cX4_init 32 = .ok (.newarray .int, 2) := by decide +kernel
theorem dX4_init_34 : decode cX4_init 34 = .ok (.putfield 27, 3) := by decide +kernel
theorem dX4_init_37 : decode cX4_init 37 = .ok (.aload_n 0, 1) := by decide +kernel
theorem dX4_init_38 : decode cX4_init 38 = .ok (.iconst 0, 1) := by decide +kernel
theorem dX4_init_39 : decode cX4_init 39 = .ok (.putfield 31, 3) := by decide +kernel
theorem dX4_init_42 : decode cX4_init 42 = .ok (.aload_n 0, 1) := by decide +kernel
theorem dX4_init_43 : decode cX4_init 43 = .ok (.sipush 256, 3) := by decide +kernel
theorem dX4_init_46 : decode cX4_init 46 = .ok (.newarray .int, 2) := by decide +kernel
theorem dX4_init_48 : decode cX4_init 48 = .ok (.putfield 34, 3) := by decide +kernel
theorem dX4_init_51 : decode cX4_init 51 = .ok (.aload_n 0, 1) := by decide +kernel
theorem dX4_init_52 : decode cX4_init 52 = .ok (.aload_n 1, 1) := by decide +kernel
theorem dX4_init_53 : decode cX4_init 53 = .ok (.putfield 37, 3) := by decide +kernel
theorem dX4_init_56 : decode cX4_init 56 = .ok (.aload_n 0, 1) := by decide +kernel
theorem dX4_init_57 : decode cX4_init 57 = .ok (.aload_n 2, 1) := by decide +kernel
theorem dX4_init_58 : decode cX4_init 58 = .ok (.putfield 41, 3) := by decide +kernel
theorem dX4_init_61 : decode cX4_init 61 = .ok (.aload_n 0, 1) := by decide +kernel
theorem dX4_init_62 : decode cX4_init 62 = .ok (.aload_n 3, 1) := by decide +kernel
theorem dX4_init_63 : decode cX4_init 63 = .ok (.putfield 45, 3) := by decide +kernel
theorem dX4_init_66 : decode cX4_init 66 = .ok (.aload_n 0, 1) := by decide +kernel
theorem dX4_init_67 : decode cX4_init 67 = .ok (.aload 4, 2) := by decide +kernel
theorem dX4_init_69 : decode cX4_init 69 = .ok (.putfield 49, 3) := by decide +kernel
theorem dX4_init_72 : decode cX4_init 72 = .ok (.return_, 1) := by decide +kernel
theorem dX5_init_0 : decode cX5_init 0 = .ok (.aload_n 0, 1) := by decide +kernel
theorem dX5_init_1 : decode cX5_init 1 = .ok (.invokespecial 3, 3) := by decide +kernel
theorem dX5_init_4 : decode cX5_init 4 = .ok (.aload_n 0, 1) := by decide +kernel
theorem dX5_init_5 : decode cX5_init 5 = .ok (.iconst 0, 1) := by decide +kernel
theorem dX5_init_6 : decode cX5_init 6 = .ok (.putfield 9, 3) := by decide +kernel
theorem dX5_init_9 : decode cX5_init 9 = .ok (.aload_n 0, 1) := by decide +kernel
theorem dX5_init_10 : decode cX5_init 10 = .ok (.iconst 0, 1) := by decide +kernel
theorem dX5_init_11 : decode cX5_init 11 = .ok (.putfield 15, 3) := by decide +kernel
theorem dX5_init_14 : decode cX5_init 14 = .ok (.aload_n 0, 1) := by decide +kernel
theorem dX5_init_15 : decode cX5_init 15 = .ok (.bipush 6, 2) := by decide +kernel
theorem dX5_init_17 : decode cX5_init 17 = .ok (.newarray .int, 2) := by decide +kernel
theorem dX5_init_19 : decode cX5_init 19 = .ok (.putfield 18, 3) := by decide +kernel
theorem dX5_init_22 : decode cX5_init 22 = .ok (.aload_n 0, 1) := by decide +kernel
theorem dX5_init_23 : decode cX5_init 23 = .ok (.bipush 6, 2) := by decide +kernel
theorem dX5_init_25 : decode cX5_init 25 = .ok (.newarray .int, 2) := by decide +kernel
theorem dX5_init_27 : decode cX5_init 27 = .ok (.putfield 22, 3) := by decide +kernel
theorem dX5_init_30 : decode cX5_init 30 = .ok (.aload_n 0, 1) := by decide +kernel
theorem dX5_init_31 : decode cX5_init 31 = .ok (.bipush 36, 2) := by decide +kernel
theorem dX5_init_33 : decode cX5_init 33 = .ok (.newarray .int, 2) := by decide +kernel
theorem dX5_init_35 : decode cX5_init 35 = .ok (.putfield 25, 3) := by decide +kernel
theorem dX5_init_38 : decode cX5_init 38 = .ok (.aload_n 0, 1) := by decide +kernel
theorem dX5_init_39 : decode cX5_init 39 = .ok (.bipush 36, 2) := by decide +kernel
theorem dX5_init_41 : decode cX5_init 41 = .ok (.newarray .long, 2) := by decide +kernel
theorem dX5_init_43 : decode cX5_init 43 = .ok (.putfield 28, 3) := by decide +kernel
theorem dX5_init_46 : decode cX5_init 46 = .ok (.aload_n 0, 1) := by decide +kernel
theorem dX5_init_47 : decode cX5_init 47 = .ok (.bipush 36, 2) := by decide +kernel
theorem dX5_init_49 : decode cX5_init 49 = .ok (.newarray .int, 2) := by decide +kernel
theorem dX5_init_51 : decode cX5_init 51 = .ok (.putfield 32, 3) := by decide +kernel
theorem dX5_init_54 : decode cX5_init 54 = .ok (.aload_n 0, 1) := by decide +kernel
theorem dX5_init_55 : decode cX5_init 55 = .ok (.bipush 36, 2) := by decide +kernel
theorem dX5_init_57 : decode cX5_init 57 = .ok (.newarray .int, 2) := by decide +kernel
theorem dX5_init_59 : decode cX5_init 59 = .ok (.putfield 35, 3) := by decide +kernel
theorem dX5_init_62 : decode cX5_init 62 = .ok (.aload_n 0, 1) := by decide +kernel
theorem dX5_init_63 : decode cX5_init 63 = .ok (.sipush 288, 3) := by decide +kernel
theorem dX5_init_66 : decode cX5_init 66 = .ok (.newarray .long, 2) := by decide +kernel
theorem dX5_init_68 : decode cX5_init 68 = .ok (.putfield 38, 3) := by decide +kernel
theorem dX5_init_71 : decode cX5_init 71 = .ok (.aload_n 0, 1) := by decide +kernel
theorem dX5_init_72 : decode cX5_init 72 = .ok (.sipush 288, 3) := by decide +kernel
theorem dX5_init_75 : decode cX5_init 75 = .ok (.newarray .long, 2) := by decide +kernel
theorem dX5_init_77 : decode cX5_init 77 = .ok (.putfield 41, 3) := by decide +kernel
theorem dX5_init_80 : decode cX5_init 80 = .ok (.aload_n 0, 1) := by decide +kernel
theorem dX5_init_81 : decode cX5_init 81 = .ok (.sipush 288, 3) := by decide +kernel
theorem dX5_init_84 : decode cX5_init 84 = .ok (.newarray .int, 2) := by decide +kernel
theorem dX5_init_86 : decode cX5_init 86 = .ok (.putfield 44, 3) := by decide +kernel
theorem dX5_init_89 : decode cX5_init 89 = .ok (.aload_n 0, 1) := by decide +kernel
theorem dX5_init_90 : decode cX5_init 90 = .ok (.sipush 288, 3) := by decide +kernel
theorem dX5_init_93 : decode cX5_init 93 = .ok (.newarray .long, 2) := by decide +kernel
theorem dX5_init_95 : decode cX5_init 95 = .ok (.putfield 47, 3) := by decide +kernel
theorem dX5_init_98 : decode cX5_init 98 = .ok (.aload_n 0, 1) := by decide +kernel
theorem dX5_init_99 : decode cX5_init 99 = .ok (.sipush 262, 3) := by decide +kernel
theorem dX5_init_102 : decode cX5_init 102 = .ok (.newarray .int, 2) := by decide +kernel
theorem dX5_init_104 : decode cX5_init 104 = .ok (.putfield 50, 3) := by decide +kernel
theorem dX5_init_107 : decode cX5_init 107 = .ok (.aload_n 0, 1) := by decide +kernel
theorem dX5_init_108 : decode cX5_init 108 = .ok (.sipush 262, 3) := by decide +kernel
theorem dX5_init_111 : decode cX5_init 111 = .ok (.newarray .int, 2) := by decide +kernel
theorem dX5_init_113 : decode cX5_init 113 = .ok (.putfield 53, 3) := by decide +kernel
theorem dX5_init_116 : decode cX5_init 116 = .ok (.aload_n 0, 1) := by decide +kernel
theorem dX5_init_117 : decode cX5_init 117 = .ok (.sipush 262, 3) := by decide +kernel
theorem dX5_init_120 : decode cX5_init 120 = .ok (.newarray .int, 2) := by decide +kernel
theorem dX5_init_122 : decode cX5_init 122 = .ok (.putfield 56, 3) := by decide +kernel
theorem dX5_init_125 : decode cX5_init 125 = .ok (.aload_n 0, 1) := by decide +kernel
theorem dX5_init_126 : decode cX5_init 126 = .ok (.sipush 262, 3) := by decide +kernel
theorem dX5_init_129 : decode cX5_init 129 = .ok (.newarray .long, 2) := by decide +kernel
theorem dX5_init_131 : decode cX5_init 131 = .ok (.putfield 59, 3) := by decide +kernel
theorem dX5_init_134 : decode cX5_init 134 = .ok (.aload_n 0, 1) := by decide +kernel
theorem dX5_init_135 : decode cX5_init 135 = .ok (.sipush 262, 3) := by decide +kernel
theorem dX5_init_138 : decode cX5_init 138 = .ok (.newarray .int, 2) := by decide +kernel
theorem dX5_init_140 : decode cX5_init 140 = .ok (.putfield 62, 3) := by decide +kernel
theorem dX5_init_143 : decode cX5_init 143 = .ok (.return_, 1) := by decide +kernel
theorem dX7_init_0 : decode cX7_init 0 = .ok (.aload_n 0, 1) := by decide +kernel
theorem dX7_init_1 : decode cX7_init 1 = .ok (.invokespecial 3, 3) := by decide +kernel
theorem dX7_init_4 : decode cX7_init 4 = .ok (.aload_n 0, 1) := by decide +kernel
theorem dX7_init_5 : decode cX7_init 5 = .ok (.iconst 0, 1) := by decide +kernel
theorem dX7_init_6 : decode cX7_init 6 = .ok (.putfield 9, 3) := by decide +kernel
theorem dX7_init_9 : decode cX7_init 9 = .ok (.aload_n 0, 1) := by decide +kernel
theorem dX7_init_10 : decode cX7_init 10 = .ok (.iload_n 1, 1) := by decide +kernel
theorem dX7_init_11 : decode cX7_init 11 = .ok (.putfield 15, 3) := by decide +kernel
theorem dX7_init_14 : decode cX7_init 14 = .ok (.aload_n 0, 1) := by decide +kernel
theorem dX7_init_15 : decode cX7_init 15 = .ok (.iload_n 1, 1) := by decide +kernel
theorem dX7_init_16 : decode cX7_init 16 = .ok (.newarray .int, 2) := by decide +kernel
theorem dX7_init_18 : decode cX7_init 18 = .ok (.putfield 18, 3) := by decide +kernel
theorem dX7_init_21 : decode cX7_init 21 = .ok (.aload_n 0, 1) := by decide +kernel
theorem dX7_init_22 : decode cX7_init 22 = .ok (.iload_n 1, 1) := by decide +kernel
theorem dX7_init_23 : decode cX7_init 23 = .ok (.newarray .int, 2) := by decide +kernel
theorem dX7_init_25 : decode cX7_init 25 = .ok (.putfield 22, 3) := by decide +kernel
theorem dX7_init_28 : decode cX7_init 28 = .ok (.aload_n 0, 1) := by decide +kernel
theorem dX7_init_29 : decode cX7_init 29 = .ok (.iload_n 1, 1) := by decide +kernel
theorem dX7_init_30 : decode cX7_init 30 = .ok (.newarray .int, 2) := by decide +kernel
theorem dX7_init_32 : decode cX7_init 32 = .ok (.putfield 25, 3) := by decide +kernel
theorem dX7_init_35 : decode cX7_init 35 = .ok (.aload_n 0, 1) := by decide +kernel
theorem dX7_init_36 : decode cX7_init 36 = .ok (.iload_n 1, 1) := by decide +kernel
theorem dX7_init_37 : decode cX7_init 37 = .ok (.newarray .int, 2) := by decide +kernel
theorem dX7_init_39 : decode cX7_init 39 = .ok (.putfield 28, 3) := by decide +kernel
theorem dX7_init_42 : decode cX7_init 42 = .ok (.aload_n 0, 1) := by decide +kernel
theorem dX7_init_43 : decode cX7_init 43 = .ok (.iload_n 1, 1) := by decide +kernel
theorem dX7_init_44 : decode cX7_init 44 = .ok (.newarray .boolean, 2) := by decide +kernel
theorem dX7_init_46 : decode cX7_init 46 = .ok (.putfield 31, 3) := by decide +kernel
theorem dX7_init_49 : decode cX7_init 49 = .ok (.aload_n 0, 1) := by decide +kernel
theorem dX7_init_50 : decode cX7_init 50 = .ok (.iload_n 1, 1) := by decide +kernel
theorem dX7_init_51 : decode cX7_init 51 = .ok (.newarray .long, 2) := by decide +kernel
theorem dX7_init_53 : decode cX7_init 53 = .ok (.putfield 35, 3) := by decide +kernel
theorem dX7_init_56 : decode cX7_init 56 = .ok (.aload_n 0, 1) := by decide +kernel
theorem dX7_init_57 : decode cX7_init 57 = .ok (.iload_n 1, 1) := by decide +kernel
theorem dX7_init_58 : decode cX7_init 58 = .ok (.newarray .int, 2) := by decide +kernel
theorem dX7_init_60 : decode cX7_init 60 = .ok (.putfield 39, 3) := by decide +kernel
theorem dX7_init_63 : decode cX7_init 63 = .ok (.aload_n 0, 1) := by decide +kernel
theorem dX7_init_64 : decode cX7_init 64 = .ok (.iload_n 1, 1) := by decide +kernel
theorem dX7_init_65 : decode cX7_init 65 = .ok (.newarray .int, 2) := by decide +kernel
theorem dX7_init_67 : decode cX7_init 67 = .ok (.putfield 42, 3) := by decide +kernel
theorem dX7_init_70 : decode cX7_init 70 = .ok (.aload_n 0, 1) := by decide +kernel
theorem dX7_init_71 : decode cX7_init 71 = .ok (.iload_n 1, 1) := by decide +kernel
theorem dX7_init_72 : decode cX7_init 72 = .ok (.newarray .int, 2) := by decide +kernel
theorem dX7_init_74 : decode cX7_init 74 = .ok (.putfield 45, 3) := by decide +kernel
theorem dX7_init_77 : decode cX7_init 77 = .ok (.aload_n 0, 1) := by decide +kernel
theorem dX7_init_78 : decode cX7_init 78 = .ok (.iload_n 1, 1) := by decide +kernel
theorem dX7_init_79 : decode cX7_init 79 = .ok (.newarray .int, 2) := by decide +kernel
theorem dX7_init_81 : decode cX7_init 81 = .ok (.putfield 48, 3) := by decide +kernel
theorem dX7_init_84 : decode cX7_init 84 = .ok (.aload_n 0, 1) := by decide +kernel
theorem dX7_init_85 : decode cX7_init 85 = .ok (.iload_n 1, 1) := by decide +kernel
theorem dX7_init_86 : decode cX7_init 86 = .ok (.newarray .int, 2) := by decide +kernel
theorem dX7_init_88 : decode cX7_init 88 = .ok (.putfield 51, 3) := by decide +kernel
theorem dX7_init_91 : decode cX7_init 91 = .ok (.return_, 1) := by decide +kernel
theorem dX8_init_0 : decode cX8_init 0 = .ok (.aload_n 0, 1) := by decide +kernel
theorem dX8_init_1 : decode cX8_init 1 = .ok (.invokespecial 3, 3) := by decide +kernel
theorem dX8_init_4 : decode cX8_init 4 = .ok (.aload_n 0, 1) := by decide +kernel
theorem dX8_init_5 : decode cX8_init 5 = .ok (.aload_n 1, 1) := by decide +kernel
theorem dX8_init_6 : decode cX8_init 6 = .ok (.putfield 9, 3) := by decide +kernel
theorem dX8_init_9 : decode cX8_init 9 = .ok (.aload_n 0, 1) := by decide +kernel
theorem dX8_init_10 : decode cX8_init 10 = .ok (.aload_n 2, 1) := by decide +kernel
theorem dX8_init_11 : decode cX8_init 11 = .ok (.putfield 15, 3) := by decide +kernel
theorem dX8_init_14 : decode cX8_init 14 = .ok (.aload_n 0, 1) := by decide +kernel
theorem dX8_init_15 : decode cX8_init 15 = .ok (.aload_n 3, 1) := by decide +kernel
theorem dX8_init_16 : decode cX8_init 16 = .ok (.putfield 19, 3) := by decide +kernel
theorem dX8_init_19 : decode cX8_init 19 = .ok (.return_, 1) := by decide +kernel
theorem dX9_init_0 : decode cX9_init 0 = .ok (.aload_n 0, 1) := by decide +kernel
theorem dX9_init_1 : decode cX9_init 1 = .ok (.invokespecial 3, 3) := by decide +kernel
theorem dX9_init_4 : decode cX9_init 4 = .ok (.aload_n 0, 1) := by decide +kernel
theorem dX9_init_5 : decode cX9_init 5 = .ok (.iconst 4, 1) := by decide +kernel
theorem dX9_init_6 : decode cX9_init 6 = .ok (.newarray .int, 2) := by decide +kernel
theorem dX9_init_8 : decode cX9_init 8 = .ok (.putfield 11, 3) := by decide +kernel
theorem dX9_init_11 : decode cX9_init 11 = .ok (.aload_n 0, 1) := by decide +kernel
theorem dX9_init_12 : decode cX9_init 12 = .ok (.iconst 0, 1) := by decide +kernel
theorem dX9_init_13 : decode cX9_init 13 = .ok (.putfield 15, 3) := by decide +kernel
theorem dX9_init_16 : decode cX9_init 16 = .ok (.aload_n 0, 1) := by decide +kernel
theorem dX9_init_17 : decode cX9_init 17 = .ok (.iconst 0, 1) := by decide +kernel
theorem dX9_init_18 : decode cX9_init 18 = .ok (.putfield 19, 3) := by decide +kernel
theorem dX9_init_21 : decode cX9_init 21 = .ok (.aload_n 0, 1) := by decide +kernel
theorem dX9_init_22 : decode cX9_init 22 = .ok (.iconst 0, 1) := by decide +kernel
theorem dX9_init_23 : decode cX9_init 23 = .ok (.putfield 22, 3) := by decide +kernel
theorem dX9_init_26 : decode cX9_init 26 = .ok (.return_, 1) := by decide +kernel
def law_bytes : List Int32 := (112 :: 108 :: 97 :: 110 :: 32 :: 114 :: 101 :: 99 :: 111 :: 114 :: 100 :: 32 :: 119 :: 97 :: 115 :: 32 :: 101 :: 108 :: 115 :: 101 :: 32 :: 108 :: 105 :: 115 :: 116 :: 32 :: 101 :: 105 :: 116 :: 104 :: 101 :: 114 :: 32 :: 111 :: 114 :: 32 :: 110 :: 111 :: 110 :: 101 :: 32 :: 102 :: 108 :: 97 :: 103 :: 32 :: 105 :: 110 :: 116 :: 32 :: 108 :: 111 :: 110 :: 103 :: 32 :: 114 :: 101 :: 97 :: 108 :: 32 :: 116 :: 101 :: 120 :: 116 :: 32 :: 121 :: 101 :: 115 :: 32 :: 110 :: 111 :: 32 :: [])
/-- the bytes of the words' text -/
def tx : Nat → Int32 := fun j => law_bytes.getD j 0
/-- its letter at a place -/
def tch (p0 : Int32) : Int32 := ((tx p0.toNatClampNeg &&& 255).toUInt32 % 65536).toInt32
/-- what the words' loop has laid after so many letters: word, letter, words -/
def tkS : Nat → Int32 × Int32 × (Nat → Int64)
  | 0 => (0, 0, fun _ => 0)
  | i + 1 => if tch (nI i) = 32 then ((tkS i).1 + 1, 0, (tkS i).2.2) else (if 15 ≤ (tkS i).1 then tkS i else ((tkS i).1, (tkS i).2.1 + 1, vp_updL (tkS i).2.2 (tkS i).1.toNatClampNeg ((tkS i).2.2 (tkS i).1.toNatClampNeg ||| ((tch (nI i) - 97 + 1).toInt64 <<< ((5 * (tkS i).2.1).toInt64 &&& 63)))))
def kw0 : Nat → Int64 := (tkS 72).2.2
theorem vd_X0 : ∀ j, j < 13 → defaultValue (tyX0 j) = vp_V [.null, .null, .long 0, .null, .long 0, .int 0, .int 0, .null, .null, .null, .null, .int 0, .long 0] j := by decide +kernel
theorem vd_X1 : ∀ j, j < 3 → defaultValue (tyX1 j) = vp_V [.null, .null, .null] j := by decide +kernel
theorem vd_X2 : ∀ j, j < 3 → defaultValue (tyX2 j) = vp_V [.null, .null, .int 0] j := by decide +kernel
theorem vd_X3 : ∀ j, j < 2 → defaultValue (tyX3 j) = vp_V [.null, .null] j := by decide +kernel
theorem vd_X4 : ∀ j, j < 12 → defaultValue (tyX4 j) = vp_V [.null, .null, .null, .null, .int 0, .int 0, .int 0, .int 0, .int 0, .null, .int 0, .null] j := by decide +kernel
theorem vd_X5 : ∀ j, j < 17 → defaultValue (tyX5 j) = vp_V [.int 0, .int 0, .null, .null, .null, .null, .null, .null, .null, .null, .null, .null, .null, .null, .null, .null, .null] j := by decide +kernel
theorem vd_X6 : ∀ j, j < 14 → defaultValue (tyX6 j) = vp_V [.null, .null, .int 0, .int 0, .int 0, .int 0, .int 0, .long 0, .long 0, .int 0, .int 0, .int 0, .int 0, .int 0] j := by decide +kernel
theorem vd_X7 : ∀ j, j < 13 → defaultValue (tyX7 j) = vp_V [.int 0, .int 0, .null, .null, .null, .null, .null, .null, .null, .null, .null, .null, .null] j := by decide +kernel
theorem vd_X8 : ∀ j, j < 3 → defaultValue (tyX8 j) = vp_V [.null, .null, .null] j := by decide +kernel
theorem vd_X9 : ∀ j, j < 4 → defaultValue (tyX9 j) = vp_V [.null, .int 0, .int 0, .int 0] j := by decide +kernel
theorem vd_X10 : ∀ j, j < 16 → defaultValue (tyX10 j) = vp_V [.null, .int 0, .null, .null, .null, .null, .null, .null, .null, .null, .null, .null, .null, .null, .null, .null] j := by decide +kernel
theorem vd_X11 : ∀ j, j < 95 → defaultValue (tyX11 j) = vp_V (.int 0 :: .null :: .int 0 :: .int 0 :: .int 0 :: .int 0 :: .int 0 :: .long 0 :: .int 0 :: .long 0 :: .int 0 :: (.double 0) :: .int 0 :: .int 0 :: .null :: .null :: .null :: .null :: .null :: .null :: .null :: .null :: .null :: .null :: .null :: .null :: .null :: .null :: .null :: .null :: .null :: .null :: .int 0 :: .int 0 :: .int 0 :: .null :: .null :: .null :: .null :: .null :: .null :: .null :: .null :: .null :: .null :: .null :: .int 0 :: .null :: .int 0 :: .int 0 :: .null :: .null :: .null :: .int 0 :: .int 0 :: .null :: .null :: .int 0 :: .null :: .null :: .null :: .int 0 :: .null :: .int 0 :: .int 0 :: .int 0 :: .int 0 :: .int 0 :: .int 0 :: .null :: .long 0 :: .long 0 :: .int 0 :: .int 0 :: .null :: .null :: .null :: .null :: .null :: .null :: .null :: .int 0 :: .int 0 :: .int 0 :: .null :: .null :: .null :: .null :: .int 0 :: .null :: .null :: .null :: .int 0 :: .int 0 :: .int 0 :: []) j := by decide +kernel
/-- the String constant of Tokens: q, its bytes v; and the two statics that String's methods read -/
def sx (q v : Nat) (A : Nat → Prop) (U : State) (H : Heap) : Prop := va_O "java/lang/String" q A U H ∧ va_OF "java/lang/String" "coder" "B" (.int 0) q A U H ∧ va_OF "java/lang/String" "value" "[B" (.ref v) q A U H ∧ va_T .byte v 72 (fun j => .int (tx j)) A U H ∧ va_Z "java/lang/String" "COMPACT_STRINGS" "Z" (.int 1) A U H ∧ va_Zq "jdk/internal/util/Preconditions" "SIOOBE_FORMATTER" "Ljava/util/function/BiFunction;" A U H
theorem sx.moved {q v : Nat} {A : Nat → Prop} {u U : State} {H : Heap} (hvm : u.vm.Alike U.vm) (h : sx q v A u H) : sx q v A U H := by
  obtain ⟨h1, h2, h3, h4, h5, h6⟩ := h
  exact ⟨va_O.moved hvm h1, va_OF.moved hvm h2, va_OF.moved hvm h3, va_T.moved hvm h4, va_Z.moved hvm h5, va_Zq.moved hvm h6⟩
theorem sx.kept {q v : Nat} {A : Nat → Prop} {U : State} {H H1 : Heap} (h : sx q v A U H) (hq : ∀ a : Nat, a < H.size → ¬ A a → H1[a]? = H[a]?) : sx q v A U H1 := by
  obtain ⟨h1, h2, h3, h4, h5, h6⟩ := h
  exact ⟨h1.kept hq, h2.kept hq, h3.kept hq, h4.kept hq, h5.kept hq, h6.kept hq⟩
theorem sx.narrow {q v : Nat} {A B : Nat → Prop} {U : State} {H : Heap} (h : sx q v A U H) (hAB : ∀ q, B q → A q) : sx q v B U H := by
  obtain ⟨h1, h2, h3, h4, h5, h6⟩ := h
  exact ⟨h1.narrow hAB, h2.narrow hAB, h3.narrow hAB, h4.narrow hAB, h5.narrow hAB, h6.narrow hAB⟩
theorem vSX {dC : Nat → ClassId} {dI : Nat → Nat → Nat} {s : State} {H : Heap} {A : Nat → Prop} {locs : List Loc} {q v : Nat} {ws : va_W} {tys : List (ClassId × FieldType)} {As : List Value} (hKc : va_K (dC, dI) vwCl tys s) (hPc : va_P (dC, dI) vwCl ws H) (hDc : va_D A ws) (hN : nN s) (hX : sx q v A s s.heap) (hS : va_S A s.heap H locs) (hF : ∀ z, va_A ws H.size z → A z) : PreS s H (va_Pc As (fun U => vPre dC dI ws tys H.size U ∧ sx q v (va_A ws H.size) U U.heap)) As :=
  ⟨fun a U g mk h => ⟨h.1, vPre_call h.2.1, sx.moved (u := U) (U := U.calling g mk a) (Vm.Alike.refl U.vm) h.2.2⟩, fun _ hU hW => ⟨rfl, vPre_at hKc hPc hDc hN hU hW, by rw [hU]; exact ((hX.kept hS.2.1).moved hW.alike).narrow hF⟩⟩
theorem vVX {dC : Nat → ClassId} {dI : Nat → Nat → Nat} {s : State} {H : Heap} {A : Nat → Prop} {locs : List Loc} {q v : Nat} {ws : va_W} {tys : List (ClassId × FieldType)} {As : List Value} (hKc : va_K (dC, dI) vwCl tys s) (hPc : va_P (dC, dI) vwCl ws H) (hDc : va_D A ws) (hN : nN s) (hX : sx q v A s s.heap) (hS : va_S A s.heap H locs) (hF : ∀ z, va_A ws H.size z → A z) : PreV s H RJ0 q (va_Pc (.ref q :: As) (fun U => vPre dC dI ws tys H.size U ∧ sx q v (va_A ws H.size) U U.heap)) As := by
  refine ⟨fun a U g mk h => ⟨h.1, vPre_call h.2.1, sx.moved (u := U) (U := U.calling g mk a) (Vm.Alike.refl U.vm) h.2.2⟩, ?_, fun _ hU hW => ⟨rfl, vPre_at hKc hPc hDc hN hU hW, by rw [hU]; exact ((hX.kept hS.2.1).moved hW.alike).narrow hF⟩⟩
  obtain ⟨cell, h1, h2, h3, -⟩ := hX.1.kept hS.2.1
  exact ⟨cell, h1, h2, h3⟩
theorem il_add1 {x : Int32} (h0 : 0 ≤ x.toInt) (h : x.toInt ≤ 1000) : (x + 1).toInt = x.toInt + 1 := by
  have h1 : ¬ x < 0 := fun h2 => by have h3 := il_lt h2; rw [show (0 : Int32).toInt = 0 from by decide] at h3; omega
  obtain ⟨j, hj, rfl⟩ := nI_of h1
  rw [nI_toInt hj] at h ⊢
  rw [nI_1, nI_toInt (by omega)]
  omega
theorem vSR {dC : Nat → ClassId} {dI : Nat → Nat → Nat} {s : State} {H : Heap} {A : Nat → Prop} {locs : List Loc} {q v : Nat} {ws : va_W} {tys : List (ClassId × FieldType)} {As : List Value} (hKc : va_K (dC, dI) vwCl tys s) (hPc : va_P (dC, dI) vwCl ws H) (hDc : va_D A ws) (hN : nN s) (hR : vk_R RX6 58 "plan record was else list either or none flag int long real text yes no " q s) (hX : sx q v A s s.heap) (hS : va_S A s.heap H locs) (hF : ∀ z, va_A ws H.size z → A z) : PreS s H (va_Pc As (fun U => vPre dC dI ws tys H.size U ∧ vk_R RX6 58 "plan record was else list either or none flag int long real text yes no " q U ∧ sx q v (va_A ws H.size) U U.heap)) As :=
  ⟨fun a U g mk h => ⟨h.1, vPre_call h.2.1, vk_R.same (u := U) (U := U.calling g mk a) rfl h.2.2.1, sx.moved (u := U) (U := U.calling g mk a) (Vm.Alike.refl U.vm) h.2.2.2⟩, fun _ hU hW => ⟨rfl, vPre_at hKc hPc hDc hN hU hW, vk_R.warm hW hR, by rw [hU]; exact ((hX.kept hS.2.1).moved hW.alike).narrow hF⟩⟩

set_option maxRecDepth 100000 in
set_option maxHeartbeats 4000000 in
theorem c_j5 (l : Launch) (dC : Nat → ClassId) (dI : Nat → Nat → Nat) (h0 : Nat) (sz : Nat) : Met l yX5_init (.code yX5_init cX5_init 1 none :: pw) ({ frames := 1, cells := 15, slots := 2618, locals := 12 }) (va_Pc [.ref h0] (vPre dC dI [(h0, .inr (5, [.int 0, .int 0, .null, .null, .null, .null, .null, .null, .null, .null, .null, .null, .null, .null, .null, .null, .null]))] [] sz)) (va_Qv (fun (_ : Unit) => True) (fun (_ : Unit) t => ∃ (e1 : Nat), ∃ (k1 : ClassId), ∃ (e2 : Nat), ∃ (k2 : ClassId), ∃ (e3 : Nat), ∃ (k3 : ClassId), ∃ (e4 : Nat), ∃ (k4 : ClassId), ∃ (e5 : Nat), ∃ (k5 : ClassId), ∃ (e6 : Nat), ∃ (k6 : ClassId), ∃ (e7 : Nat), ∃ (k7 : ClassId), ∃ (e8 : Nat), ∃ (k8 : ClassId), ∃ (e9 : Nat), ∃ (k9 : ClassId), ∃ (e10 : Nat), ∃ (k10 : ClassId), ∃ (e11 : Nat), ∃ (k11 : ClassId), ∃ (e12 : Nat), ∃ (k12 : ClassId), ∃ (e13 : Nat), ∃ (k13 : ClassId), ∃ (e14 : Nat), ∃ (k14 : ClassId), ∃ (e15 : Nat), ∃ (k15 : ClassId), vPst dC dI (va_A [(h0, .inr (5, [.int 0, .int 0, .null, .null, .null, .null, .null, .null, .null, .null, .null, .null, .null, .null, .null, .null, .null]))] sz) [(h0, .inr (5, [.int 0, .int 0, .ref e1, .ref e2, .ref e3, .ref e4, .ref e5, .ref e6, .ref e7, .ref e8, .ref e9, .ref e10, .ref e11, .ref e12, .ref e13, .ref e14, .ref e15])), (e1, .inl (k1, 6, .inl (fun _ => 0))), (e2, .inl (k2, 6, .inl (fun _ => 0))), (e3, .inl (k3, 36, .inl (fun _ => 0))), (e4, .inl (k4, 36, .inr (.inl (fun _ => 0)))), (e5, .inl (k5, 36, .inl (fun _ => 0))), (e6, .inl (k6, 36, .inl (fun _ => 0))), (e7, .inl (k7, 288, .inr (.inl (fun _ => 0)))), (e8, .inl (k8, 288, .inr (.inl (fun _ => 0)))), (e9, .inl (k9, 288, .inl (fun _ => 0))), (e10, .inl (k10, 288, .inr (.inl (fun _ => 0)))), (e11, .inl (k11, 262, .inl (fun _ => 0))), (e12, .inl (k12, 262, .inl (fun _ => 0))), (e13, .inl (k13, 262, .inl (fun _ => 0))), (e14, .inl (k14, 262, .inr (.inl (fun _ => 0)))), (e15, .inl (k15, 262, .inl (fun _ => 0)))] [(k1, .int), (k2, .int), (k3, .int), (k4, .long), (k5, .int), (k6, .int), (k7, .long), (k8, .long), (k9, .int), (k10, .long), (k11, .int), (k12, .int), (k13, .int), (k14, .long), (k15, .int)] t) (va_A [(h0, .inr (5, [.int 0, .int 0, .null, .null, .null, .null, .null, .null, .null, .null, .null, .null, .null, .null, .null, .null, .null]))] sz)) 15 2618 (va_A [(h0, .inr (5, [.int 0, .int 0, .null, .null, .null, .null, .null, .null, .null, .null, .null, .null, .null, .null, .null, .null, .null]))] sz) := by
  refine Met.ofW (cc := cX5_init) (maxL := 1) (ret := none) (by decide) rfl ?_
  intro p e s m args below meth c s₁ B hml hv
  obtain ⟨rfl, hsz, hP, hK, hD0, hN⟩ := hv
  have hx := B.exec
  have hb := B.bytes
  have hr := B.returns
  have hts := atoms_spec (ws := .code yX5_init cX5_init 1 none :: pw) B.pre
  have hts : ∀ w ∈ pw, w.before _ s = true := fun w h => hts w (List.mem_cons_of_mem _ h)
  have hown : s.vm.findClass RX5 = some m.cls := findClass_of_methodNamed B.named
  have hlocks := B.notSynchronized
  have hin : meth.name = "<init>" := (name_of_methodNamed B.named B.method).1
  subst hsz
  have hD := hD0.self (sz := s.heap.size)
  generalize hAe : va_A [(h0, .inr (5, [.int 0, .int 0, .null, .null, .null, .null, .null, .null, .null, .null, .null, .null, .null, .null, .null, .null, .null]))] s.heap.size = A at hD ⊢
  have hA : ∀ q : Nat, s.heap.size ≤ q → A q := fun q h => by rw [← hAe]; exact Or.inr h
  have hS : va_S A s.heap s.heap [] := va_S.rf
  have hP : va_P (dC, dI) vwCl [(h0, .inr (5, [.int 0, .int 0, .null, .null, .null, .null, .null, .null, .null, .null, .null, .null, .null, .null, .null, .null, .null]))] s.heap := hP
  have hl := lv_entry ([.ref h0]) (n := 1) (Nat.le_of_ble_eq_true rfl)
  rw [lg_entry_eq]
  generalize (lg_sl ([.ref h0]) ++ List.replicate (1 - (lg_sl ([.ref h0])).length) Slot.unset).toArray = ls at hl ⊢
  have hl : lv_has ls 1 [(0, .ref h0)] := hl
  refine lv_aload_n hx hb dX5_init_0 rfl (lv_at hl 0 rfl) ?_
  refine W.objInit hx hb hown (hts (.methodLink RX5 3 objectInit) mw_14_16) (hts (.instanceMethod objectInit) mw_0_17) (hts (.code objectInit ⟨#[0xb1]⟩ 1 none) mw_47_1) rfl (by rw [hml]; exact hl.1) rfl dX5_init_1 (Nat.le_of_ble_eq_true rfl) (Nat.le_of_ble_eq_true rfl) ?_
  refine W.eq (g2 := F0 m 4 ls []) rfl ?_
  refine lv_aload_n hx hb dX5_init_4 rfl (lv_at hl 0 rfl) ?_
  refine lv_iconst (v := 0) hx hb dX5_init_5 (by decide) ?_
  refine va_put (D := (dC, dI)) (ci := 5) (v := .int 0) (ty := .int) (C := RX5) (T := TX5) (N := 17) hx hb hts inlX5 tyX5 tyX5_ok nmX5 hown hK hP hD hS 0 rfl rfl 0 (by decide) (hts (.fieldLink RX5 9 "ShapeReader$Shapes" "planCount" "I") mw_14_17) (fun _ h9 => h9) rfl (by decide +kernel) rfl rfl (Nat.le_of_ble_eq_true rfl) dX5_init_6 (fun H locs hP hD hS => ?_)
  have hP : va_P (dC, dI) vwCl [(h0, .inr (5, [.int 0, .int 0, .null, .null, .null, .null, .null, .null, .null, .null, .null, .null, .null, .null, .null, .null, .null]))] H := hP
  have hD : va_D A [(h0, .inr (5, [.int 0, .int 0, .null, .null, .null, .null, .null, .null, .null, .null, .null, .null, .null, .null, .null, .null, .null]))] := hD
  refine lv_aload_n hx hb dX5_init_9 rfl (lv_at hl 0 rfl) ?_
  refine lv_iconst (v := 0) hx hb dX5_init_10 (by decide) ?_
  refine va_put (D := (dC, dI)) (ci := 5) (v := .int 0) (ty := .int) (C := RX5) (T := TX5) (N := 17) hx hb hts inlX5 tyX5 tyX5_ok nmX5 hown hK hP hD hS 0 rfl rfl 1 (by decide) (hts (.fieldLink RX5 15 "ShapeReader$Shapes" "typeCount" "I") mw_14_18) (fun _ h9 => h9) rfl (by decide +kernel) rfl rfl (Nat.le_of_ble_eq_true rfl) dX5_init_11 (fun H locs hP hD hS => ?_)
  have hP : va_P (dC, dI) vwCl [(h0, .inr (5, [.int 0, .int 0, .null, .null, .null, .null, .null, .null, .null, .null, .null, .null, .null, .null, .null, .null, .null]))] H := hP
  have hD : va_D A [(h0, .inr (5, [.int 0, .int 0, .null, .null, .null, .null, .null, .null, .null, .null, .null, .null, .null, .null, .null, .null, .null]))] := hD
  refine lv_aload_n hx hb dX5_init_14 rfl (lv_at hl 0 rfl) ?_
  refine lv_bipush (v := 6) hx hb dX5_init_15 (by decide) ?_
  refine va_newa (atype := .int) hx hb (hts (.arrayClass .int) mw_0_1) (ty := .int) rfl hK hP hD hS hA (n := 6) (N' := 6) (a0 := (6, .inl (fun _ => 0))) (fun _ => rfl) (by decide) (by decide) (Nat.le_of_ble_eq_true rfl) (Nat.le_of_ble_eq_true rfl) (Nat.le_of_ble_eq_true rfl) dX5_init_17 (fun q_1 cA_2 H hK hP hD hS => ?_)
  have hP : va_P (dC, dI) vwCl [(h0, .inr (5, [.int 0, .int 0, .null, .null, .null, .null, .null, .null, .null, .null, .null, .null, .null, .null, .null, .null, .null])), (q_1, .inl (cA_2, 6, .inl (fun _ => 0)))] H := hP
  have hD : va_D A [(h0, .inr (5, [.int 0, .int 0, .null, .null, .null, .null, .null, .null, .null, .null, .null, .null, .null, .null, .null, .null, .null])), (q_1, .inl (cA_2, 6, .inl (fun _ => 0)))] := hD
  have hK : va_K (dC, dI) vwCl [(cA_2, .int)] s := hK
  refine W.widen (k := 1) (n := 6) (Nat.le_of_ble_eq_true rfl) (Nat.le_of_ble_eq_true rfl) ?_
  refine va_putF (D := (dC, dI)) (ci := 5) (v := .ref q_1) (ty := .array .int) (C := RX5) (T := TX5) (N := 17) hx hb hts inlX5 tyX5 tyX5_ok nmX5 hown hK hP hD hS 0 rfl rfl 2 (by decide) (hts (.fieldLink RX5 18 "ShapeReader$Shapes" "recordCounts" "[I") mw_14_19) (fun _ h9 => h9) rfl hin rfl (by decide +kernel) rfl rfl (Nat.le_of_ble_eq_true rfl) dX5_init_19 (fun H locs hP hD hS => ?_)
  have hP : va_P (dC, dI) vwCl [(h0, .inr (5, [.int 0, .int 0, .ref q_1, .null, .null, .null, .null, .null, .null, .null, .null, .null, .null, .null, .null, .null, .null])), (q_1, .inl (cA_2, 6, .inl (fun _ => 0)))] H := hP
  have hD : va_D A [(h0, .inr (5, [.int 0, .int 0, .ref q_1, .null, .null, .null, .null, .null, .null, .null, .null, .null, .null, .null, .null, .null, .null])), (q_1, .inl (cA_2, 6, .inl (fun _ => 0)))] := hD
  refine lv_aload_n hx hb dX5_init_22 rfl (lv_at hl 0 rfl) ?_
  refine lv_bipush (v := 6) hx hb dX5_init_23 (by decide) ?_
  refine va_newa (atype := .int) hx hb (hts (.arrayClass .int) mw_0_1) (ty := .int) rfl hK hP hD hS hA (n := 6) (N' := 6) (a0 := (6, .inl (fun _ => 0))) (fun _ => rfl) (by decide) (by decide) (Nat.le_of_ble_eq_true rfl) (Nat.le_of_ble_eq_true rfl) (Nat.le_of_ble_eq_true rfl) dX5_init_25 (fun q_3 cA_4 H hK hP hD hS => ?_)
  have hP : va_P (dC, dI) vwCl [(h0, .inr (5, [.int 0, .int 0, .ref q_1, .null, .null, .null, .null, .null, .null, .null, .null, .null, .null, .null, .null, .null, .null])), (q_1, .inl (cA_2, 6, .inl (fun _ => 0))), (q_3, .inl (cA_4, 6, .inl (fun _ => 0)))] H := hP
  have hD : va_D A [(h0, .inr (5, [.int 0, .int 0, .ref q_1, .null, .null, .null, .null, .null, .null, .null, .null, .null, .null, .null, .null, .null, .null])), (q_1, .inl (cA_2, 6, .inl (fun _ => 0))), (q_3, .inl (cA_4, 6, .inl (fun _ => 0)))] := hD
  have hK : va_K (dC, dI) vwCl [(cA_2, .int), (cA_4, .int)] s := hK
  refine W.widen (k := 2) (n := 12) (Nat.le_of_ble_eq_true rfl) (Nat.le_of_ble_eq_true rfl) ?_
  refine va_putF (D := (dC, dI)) (ci := 5) (v := .ref q_3) (ty := .array .int) (C := RX5) (T := TX5) (N := 17) hx hb hts inlX5 tyX5 tyX5_ok nmX5 hown hK hP hD hS 0 rfl rfl 3 (by decide) (hts (.fieldLink RX5 22 "ShapeReader$Shapes" "rootTypes" "[I") mw_14_20) (fun _ h9 => h9) rfl hin rfl (by decide +kernel) rfl rfl (Nat.le_of_ble_eq_true rfl) dX5_init_27 (fun H locs hP hD hS => ?_)
  have hP : va_P (dC, dI) vwCl [(h0, .inr (5, [.int 0, .int 0, .ref q_1, .ref q_3, .null, .null, .null, .null, .null, .null, .null, .null, .null, .null, .null, .null, .null])), (q_1, .inl (cA_2, 6, .inl (fun _ => 0))), (q_3, .inl (cA_4, 6, .inl (fun _ => 0)))] H := hP
  have hD : va_D A [(h0, .inr (5, [.int 0, .int 0, .ref q_1, .ref q_3, .null, .null, .null, .null, .null, .null, .null, .null, .null, .null, .null, .null, .null])), (q_1, .inl (cA_2, 6, .inl (fun _ => 0))), (q_3, .inl (cA_4, 6, .inl (fun _ => 0)))] := hD
  refine lv_aload_n hx hb dX5_init_30 rfl (lv_at hl 0 rfl) ?_
  refine lv_bipush (v := 36) hx hb dX5_init_31 (by decide) ?_
  refine va_newa (atype := .int) hx hb (hts (.arrayClass .int) mw_0_1) (ty := .int) rfl hK hP hD hS hA (n := 36) (N' := 36) (a0 := (36, .inl (fun _ => 0))) (fun _ => rfl) (by decide) (by decide) (Nat.le_of_ble_eq_true rfl) (Nat.le_of_ble_eq_true rfl) (Nat.le_of_ble_eq_true rfl) dX5_init_33 (fun q_5 cA_6 H hK hP hD hS => ?_)
  have hP : va_P (dC, dI) vwCl [(h0, .inr (5, [.int 0, .int 0, .ref q_1, .ref q_3, .null, .null, .null, .null, .null, .null, .null, .null, .null, .null, .null, .null, .null])), (q_1, .inl (cA_2, 6, .inl (fun _ => 0))), (q_3, .inl (cA_4, 6, .inl (fun _ => 0))), (q_5, .inl (cA_6, 36, .inl (fun _ => 0)))] H := hP
  have hD : va_D A [(h0, .inr (5, [.int 0, .int 0, .ref q_1, .ref q_3, .null, .null, .null, .null, .null, .null, .null, .null, .null, .null, .null, .null, .null])), (q_1, .inl (cA_2, 6, .inl (fun _ => 0))), (q_3, .inl (cA_4, 6, .inl (fun _ => 0))), (q_5, .inl (cA_6, 36, .inl (fun _ => 0)))] := hD
  have hK : va_K (dC, dI) vwCl [(cA_2, .int), (cA_4, .int), (cA_6, .int)] s := hK
  refine W.widen (k := 3) (n := 48) (Nat.le_of_ble_eq_true rfl) (Nat.le_of_ble_eq_true rfl) ?_
  refine va_putF (D := (dC, dI)) (ci := 5) (v := .ref q_5) (ty := .array .int) (C := RX5) (T := TX5) (N := 17) hx hb hts inlX5 tyX5 tyX5_ok nmX5 hown hK hP hD hS 0 rfl rfl 4 (by decide) (hts (.fieldLink RX5 25 "ShapeReader$Shapes" "fieldCounts" "[I") mw_14_21) (fun _ h9 => h9) rfl hin rfl (by decide +kernel) rfl rfl (Nat.le_of_ble_eq_true rfl) dX5_init_35 (fun H locs hP hD hS => ?_)
  have hP : va_P (dC, dI) vwCl [(h0, .inr (5, [.int 0, .int 0, .ref q_1, .ref q_3, .ref q_5, .null, .null, .null, .null, .null, .null, .null, .null, .null, .null, .null, .null])), (q_1, .inl (cA_2, 6, .inl (fun _ => 0))), (q_3, .inl (cA_4, 6, .inl (fun _ => 0))), (q_5, .inl (cA_6, 36, .inl (fun _ => 0)))] H := hP
  have hD : va_D A [(h0, .inr (5, [.int 0, .int 0, .ref q_1, .ref q_3, .ref q_5, .null, .null, .null, .null, .null, .null, .null, .null, .null, .null, .null, .null])), (q_1, .inl (cA_2, 6, .inl (fun _ => 0))), (q_3, .inl (cA_4, 6, .inl (fun _ => 0))), (q_5, .inl (cA_6, 36, .inl (fun _ => 0)))] := hD
  refine lv_aload_n hx hb dX5_init_38 rfl (lv_at hl 0 rfl) ?_
  refine lv_bipush (v := 36) hx hb dX5_init_39 (by decide) ?_
  refine va_newa (atype := .long) hx hb (hts (.arrayClass .long) mw_0_2) (ty := .long) rfl hK hP hD hS hA (n := 36) (N' := 36) (a0 := (36, .inr (.inl (fun _ => 0)))) (fun _ => rfl) (by decide) (by decide) (Nat.le_of_ble_eq_true rfl) (Nat.le_of_ble_eq_true rfl) (Nat.le_of_ble_eq_true rfl) dX5_init_41 (fun q_7 cA_8 H hK hP hD hS => ?_)
  have hP : va_P (dC, dI) vwCl [(h0, .inr (5, [.int 0, .int 0, .ref q_1, .ref q_3, .ref q_5, .null, .null, .null, .null, .null, .null, .null, .null, .null, .null, .null, .null])), (q_1, .inl (cA_2, 6, .inl (fun _ => 0))), (q_3, .inl (cA_4, 6, .inl (fun _ => 0))), (q_5, .inl (cA_6, 36, .inl (fun _ => 0))), (q_7, .inl (cA_8, 36, .inr (.inl (fun _ => 0))))] H := hP
  have hD : va_D A [(h0, .inr (5, [.int 0, .int 0, .ref q_1, .ref q_3, .ref q_5, .null, .null, .null, .null, .null, .null, .null, .null, .null, .null, .null, .null])), (q_1, .inl (cA_2, 6, .inl (fun _ => 0))), (q_3, .inl (cA_4, 6, .inl (fun _ => 0))), (q_5, .inl (cA_6, 36, .inl (fun _ => 0))), (q_7, .inl (cA_8, 36, .inr (.inl (fun _ => 0))))] := hD
  have hK : va_K (dC, dI) vwCl [(cA_2, .int), (cA_4, .int), (cA_6, .int), (cA_8, .long)] s := hK
  refine W.widen (k := 4) (n := 84) (Nat.le_of_ble_eq_true rfl) (Nat.le_of_ble_eq_true rfl) ?_
  refine va_putF (D := (dC, dI)) (ci := 5) (v := .ref q_7) (ty := .array .long) (C := RX5) (T := TX5) (N := 17) hx hb hts inlX5 tyX5 tyX5_ok nmX5 hown hK hP hD hS 0 rfl rfl 5 (by decide) (hts (.fieldLink RX5 28 "ShapeReader$Shapes" "recordNames" "[J") mw_14_22) (fun _ h9 => h9) rfl hin rfl (by decide +kernel) rfl rfl (Nat.le_of_ble_eq_true rfl) dX5_init_43 (fun H locs hP hD hS => ?_)
  have hP : va_P (dC, dI) vwCl [(h0, .inr (5, [.int 0, .int 0, .ref q_1, .ref q_3, .ref q_5, .ref q_7, .null, .null, .null, .null, .null, .null, .null, .null, .null, .null, .null])), (q_1, .inl (cA_2, 6, .inl (fun _ => 0))), (q_3, .inl (cA_4, 6, .inl (fun _ => 0))), (q_5, .inl (cA_6, 36, .inl (fun _ => 0))), (q_7, .inl (cA_8, 36, .inr (.inl (fun _ => 0))))] H := hP
  have hD : va_D A [(h0, .inr (5, [.int 0, .int 0, .ref q_1, .ref q_3, .ref q_5, .ref q_7, .null, .null, .null, .null, .null, .null, .null, .null, .null, .null, .null])), (q_1, .inl (cA_2, 6, .inl (fun _ => 0))), (q_3, .inl (cA_4, 6, .inl (fun _ => 0))), (q_5, .inl (cA_6, 36, .inl (fun _ => 0))), (q_7, .inl (cA_8, 36, .inr (.inl (fun _ => 0))))] := hD
  refine lv_aload_n hx hb dX5_init_46 rfl (lv_at hl 0 rfl) ?_
  refine lv_bipush (v := 36) hx hb dX5_init_47 (by decide) ?_
  refine va_newa (atype := .int) hx hb (hts (.arrayClass .int) mw_0_1) (ty := .int) rfl hK hP hD hS hA (n := 36) (N' := 36) (a0 := (36, .inl (fun _ => 0))) (fun _ => rfl) (by decide) (by decide) (Nat.le_of_ble_eq_true rfl) (Nat.le_of_ble_eq_true rfl) (Nat.le_of_ble_eq_true rfl) dX5_init_49 (fun q_9 cA_10 H hK hP hD hS => ?_)
  have hP : va_P (dC, dI) vwCl [(h0, .inr (5, [.int 0, .int 0, .ref q_1, .ref q_3, .ref q_5, .ref q_7, .null, .null, .null, .null, .null, .null, .null, .null, .null, .null, .null])), (q_1, .inl (cA_2, 6, .inl (fun _ => 0))), (q_3, .inl (cA_4, 6, .inl (fun _ => 0))), (q_5, .inl (cA_6, 36, .inl (fun _ => 0))), (q_7, .inl (cA_8, 36, .inr (.inl (fun _ => 0)))), (q_9, .inl (cA_10, 36, .inl (fun _ => 0)))] H := hP
  have hD : va_D A [(h0, .inr (5, [.int 0, .int 0, .ref q_1, .ref q_3, .ref q_5, .ref q_7, .null, .null, .null, .null, .null, .null, .null, .null, .null, .null, .null])), (q_1, .inl (cA_2, 6, .inl (fun _ => 0))), (q_3, .inl (cA_4, 6, .inl (fun _ => 0))), (q_5, .inl (cA_6, 36, .inl (fun _ => 0))), (q_7, .inl (cA_8, 36, .inr (.inl (fun _ => 0)))), (q_9, .inl (cA_10, 36, .inl (fun _ => 0)))] := hD
  have hK : va_K (dC, dI) vwCl [(cA_2, .int), (cA_4, .int), (cA_6, .int), (cA_8, .long), (cA_10, .int)] s := hK
  refine W.widen (k := 5) (n := 120) (Nat.le_of_ble_eq_true rfl) (Nat.le_of_ble_eq_true rfl) ?_
  refine va_putF (D := (dC, dI)) (ci := 5) (v := .ref q_9) (ty := .array .int) (C := RX5) (T := TX5) (N := 17) hx hb hts inlX5 tyX5 tyX5_ok nmX5 hown hK hP hD hS 0 rfl rfl 6 (by decide) (hts (.fieldLink RX5 32 "ShapeReader$Shapes" "elseBits" "[I") mw_14_23) (fun _ h9 => h9) rfl hin rfl (by decide +kernel) rfl rfl (Nat.le_of_ble_eq_true rfl) dX5_init_51 (fun H locs hP hD hS => ?_)
  have hP : va_P (dC, dI) vwCl [(h0, .inr (5, [.int 0, .int 0, .ref q_1, .ref q_3, .ref q_5, .ref q_7, .ref q_9, .null, .null, .null, .null, .null, .null, .null, .null, .null, .null])), (q_1, .inl (cA_2, 6, .inl (fun _ => 0))), (q_3, .inl (cA_4, 6, .inl (fun _ => 0))), (q_5, .inl (cA_6, 36, .inl (fun _ => 0))), (q_7, .inl (cA_8, 36, .inr (.inl (fun _ => 0)))), (q_9, .inl (cA_10, 36, .inl (fun _ => 0)))] H := hP
  have hD : va_D A [(h0, .inr (5, [.int 0, .int 0, .ref q_1, .ref q_3, .ref q_5, .ref q_7, .ref q_9, .null, .null, .null, .null, .null, .null, .null, .null, .null, .null])), (q_1, .inl (cA_2, 6, .inl (fun _ => 0))), (q_3, .inl (cA_4, 6, .inl (fun _ => 0))), (q_5, .inl (cA_6, 36, .inl (fun _ => 0))), (q_7, .inl (cA_8, 36, .inr (.inl (fun _ => 0)))), (q_9, .inl (cA_10, 36, .inl (fun _ => 0)))] := hD
  refine lv_aload_n hx hb dX5_init_54 rfl (lv_at hl 0 rfl) ?_
  refine lv_bipush (v := 36) hx hb dX5_init_55 (by decide) ?_
  refine va_newa (atype := .int) hx hb (hts (.arrayClass .int) mw_0_1) (ty := .int) rfl hK hP hD hS hA (n := 36) (N' := 36) (a0 := (36, .inl (fun _ => 0))) (fun _ => rfl) (by decide) (by decide) (Nat.le_of_ble_eq_true rfl) (Nat.le_of_ble_eq_true rfl) (Nat.le_of_ble_eq_true rfl) dX5_init_57 (fun q_11 cA_12 H hK hP hD hS => ?_)
  have hP : va_P (dC, dI) vwCl [(h0, .inr (5, [.int 0, .int 0, .ref q_1, .ref q_3, .ref q_5, .ref q_7, .ref q_9, .null, .null, .null, .null, .null, .null, .null, .null, .null, .null])), (q_1, .inl (cA_2, 6, .inl (fun _ => 0))), (q_3, .inl (cA_4, 6, .inl (fun _ => 0))), (q_5, .inl (cA_6, 36, .inl (fun _ => 0))), (q_7, .inl (cA_8, 36, .inr (.inl (fun _ => 0)))), (q_9, .inl (cA_10, 36, .inl (fun _ => 0))), (q_11, .inl (cA_12, 36, .inl (fun _ => 0)))] H := hP
  have hD : va_D A [(h0, .inr (5, [.int 0, .int 0, .ref q_1, .ref q_3, .ref q_5, .ref q_7, .ref q_9, .null, .null, .null, .null, .null, .null, .null, .null, .null, .null])), (q_1, .inl (cA_2, 6, .inl (fun _ => 0))), (q_3, .inl (cA_4, 6, .inl (fun _ => 0))), (q_5, .inl (cA_6, 36, .inl (fun _ => 0))), (q_7, .inl (cA_8, 36, .inr (.inl (fun _ => 0)))), (q_9, .inl (cA_10, 36, .inl (fun _ => 0))), (q_11, .inl (cA_12, 36, .inl (fun _ => 0)))] := hD
  have hK : va_K (dC, dI) vwCl [(cA_2, .int), (cA_4, .int), (cA_6, .int), (cA_8, .long), (cA_10, .int), (cA_12, .int)] s := hK
  refine W.widen (k := 6) (n := 156) (Nat.le_of_ble_eq_true rfl) (Nat.le_of_ble_eq_true rfl) ?_
  refine va_putF (D := (dC, dI)) (ci := 5) (v := .ref q_11) (ty := .array .int) (C := RX5) (T := TX5) (N := 17) hx hb hts inlX5 tyX5 tyX5_ok nmX5 hown hK hP hD hS 0 rfl rfl 7 (by decide) (hts (.fieldLink RX5 35 "ShapeReader$Shapes" "emptyHeights" "[I") mw_14_24) (fun _ h9 => h9) rfl hin rfl (by decide +kernel) rfl rfl (Nat.le_of_ble_eq_true rfl) dX5_init_59 (fun H locs hP hD hS => ?_)
  have hP : va_P (dC, dI) vwCl [(h0, .inr (5, [.int 0, .int 0, .ref q_1, .ref q_3, .ref q_5, .ref q_7, .ref q_9, .ref q_11, .null, .null, .null, .null, .null, .null, .null, .null, .null])), (q_1, .inl (cA_2, 6, .inl (fun _ => 0))), (q_3, .inl (cA_4, 6, .inl (fun _ => 0))), (q_5, .inl (cA_6, 36, .inl (fun _ => 0))), (q_7, .inl (cA_8, 36, .inr (.inl (fun _ => 0)))), (q_9, .inl (cA_10, 36, .inl (fun _ => 0))), (q_11, .inl (cA_12, 36, .inl (fun _ => 0)))] H := hP
  have hD : va_D A [(h0, .inr (5, [.int 0, .int 0, .ref q_1, .ref q_3, .ref q_5, .ref q_7, .ref q_9, .ref q_11, .null, .null, .null, .null, .null, .null, .null, .null, .null])), (q_1, .inl (cA_2, 6, .inl (fun _ => 0))), (q_3, .inl (cA_4, 6, .inl (fun _ => 0))), (q_5, .inl (cA_6, 36, .inl (fun _ => 0))), (q_7, .inl (cA_8, 36, .inr (.inl (fun _ => 0)))), (q_9, .inl (cA_10, 36, .inl (fun _ => 0))), (q_11, .inl (cA_12, 36, .inl (fun _ => 0)))] := hD
  refine lv_aload_n hx hb dX5_init_62 rfl (lv_at hl 0 rfl) ?_
  refine lv_sipush (v := 288) hx hb dX5_init_63 (by decide) ?_
  refine va_newa (atype := .long) hx hb (hts (.arrayClass .long) mw_0_2) (ty := .long) rfl hK hP hD hS hA (n := 288) (N' := 288) (a0 := (288, .inr (.inl (fun _ => 0)))) (fun _ => rfl) (by decide) (by decide) (Nat.le_of_ble_eq_true rfl) (Nat.le_of_ble_eq_true rfl) (Nat.le_of_ble_eq_true rfl) dX5_init_66 (fun q_13 cA_14 H hK hP hD hS => ?_)
  have hP : va_P (dC, dI) vwCl [(h0, .inr (5, [.int 0, .int 0, .ref q_1, .ref q_3, .ref q_5, .ref q_7, .ref q_9, .ref q_11, .null, .null, .null, .null, .null, .null, .null, .null, .null])), (q_1, .inl (cA_2, 6, .inl (fun _ => 0))), (q_3, .inl (cA_4, 6, .inl (fun _ => 0))), (q_5, .inl (cA_6, 36, .inl (fun _ => 0))), (q_7, .inl (cA_8, 36, .inr (.inl (fun _ => 0)))), (q_9, .inl (cA_10, 36, .inl (fun _ => 0))), (q_11, .inl (cA_12, 36, .inl (fun _ => 0))), (q_13, .inl (cA_14, 288, .inr (.inl (fun _ => 0))))] H := hP
  have hD : va_D A [(h0, .inr (5, [.int 0, .int 0, .ref q_1, .ref q_3, .ref q_5, .ref q_7, .ref q_9, .ref q_11, .null, .null, .null, .null, .null, .null, .null, .null, .null])), (q_1, .inl (cA_2, 6, .inl (fun _ => 0))), (q_3, .inl (cA_4, 6, .inl (fun _ => 0))), (q_5, .inl (cA_6, 36, .inl (fun _ => 0))), (q_7, .inl (cA_8, 36, .inr (.inl (fun _ => 0)))), (q_9, .inl (cA_10, 36, .inl (fun _ => 0))), (q_11, .inl (cA_12, 36, .inl (fun _ => 0))), (q_13, .inl (cA_14, 288, .inr (.inl (fun _ => 0))))] := hD
  have hK : va_K (dC, dI) vwCl [(cA_2, .int), (cA_4, .int), (cA_6, .int), (cA_8, .long), (cA_10, .int), (cA_12, .int), (cA_14, .long)] s := hK
  refine W.widen (k := 7) (n := 444) (Nat.le_of_ble_eq_true rfl) (Nat.le_of_ble_eq_true rfl) ?_
  refine va_putF (D := (dC, dI)) (ci := 5) (v := .ref q_13) (ty := .array .long) (C := RX5) (T := TX5) (N := 17) hx hb hts inlX5 tyX5 tyX5_ok nmX5 hown hK hP hD hS 0 rfl rfl 8 (by decide) (hts (.fieldLink RX5 38 "ShapeReader$Shapes" "fieldNames" "[J") mw_14_25) (fun _ h9 => h9) rfl hin rfl (by decide +kernel) rfl rfl (Nat.le_of_ble_eq_true rfl) dX5_init_68 (fun H locs hP hD hS => ?_)
  have hP : va_P (dC, dI) vwCl [(h0, .inr (5, [.int 0, .int 0, .ref q_1, .ref q_3, .ref q_5, .ref q_7, .ref q_9, .ref q_11, .ref q_13, .null, .null, .null, .null, .null, .null, .null, .null])), (q_1, .inl (cA_2, 6, .inl (fun _ => 0))), (q_3, .inl (cA_4, 6, .inl (fun _ => 0))), (q_5, .inl (cA_6, 36, .inl (fun _ => 0))), (q_7, .inl (cA_8, 36, .inr (.inl (fun _ => 0)))), (q_9, .inl (cA_10, 36, .inl (fun _ => 0))), (q_11, .inl (cA_12, 36, .inl (fun _ => 0))), (q_13, .inl (cA_14, 288, .inr (.inl (fun _ => 0))))] H := hP
  have hD : va_D A [(h0, .inr (5, [.int 0, .int 0, .ref q_1, .ref q_3, .ref q_5, .ref q_7, .ref q_9, .ref q_11, .ref q_13, .null, .null, .null, .null, .null, .null, .null, .null])), (q_1, .inl (cA_2, 6, .inl (fun _ => 0))), (q_3, .inl (cA_4, 6, .inl (fun _ => 0))), (q_5, .inl (cA_6, 36, .inl (fun _ => 0))), (q_7, .inl (cA_8, 36, .inr (.inl (fun _ => 0)))), (q_9, .inl (cA_10, 36, .inl (fun _ => 0))), (q_11, .inl (cA_12, 36, .inl (fun _ => 0))), (q_13, .inl (cA_14, 288, .inr (.inl (fun _ => 0))))] := hD
  refine lv_aload_n hx hb dX5_init_71 rfl (lv_at hl 0 rfl) ?_
  refine lv_sipush (v := 288) hx hb dX5_init_72 (by decide) ?_
  refine va_newa (atype := .long) hx hb (hts (.arrayClass .long) mw_0_2) (ty := .long) rfl hK hP hD hS hA (n := 288) (N' := 288) (a0 := (288, .inr (.inl (fun _ => 0)))) (fun _ => rfl) (by decide) (by decide) (Nat.le_of_ble_eq_true rfl) (Nat.le_of_ble_eq_true rfl) (Nat.le_of_ble_eq_true rfl) dX5_init_75 (fun q_15 cA_16 H hK hP hD hS => ?_)
  have hP : va_P (dC, dI) vwCl [(h0, .inr (5, [.int 0, .int 0, .ref q_1, .ref q_3, .ref q_5, .ref q_7, .ref q_9, .ref q_11, .ref q_13, .null, .null, .null, .null, .null, .null, .null, .null])), (q_1, .inl (cA_2, 6, .inl (fun _ => 0))), (q_3, .inl (cA_4, 6, .inl (fun _ => 0))), (q_5, .inl (cA_6, 36, .inl (fun _ => 0))), (q_7, .inl (cA_8, 36, .inr (.inl (fun _ => 0)))), (q_9, .inl (cA_10, 36, .inl (fun _ => 0))), (q_11, .inl (cA_12, 36, .inl (fun _ => 0))), (q_13, .inl (cA_14, 288, .inr (.inl (fun _ => 0)))), (q_15, .inl (cA_16, 288, .inr (.inl (fun _ => 0))))] H := hP
  have hD : va_D A [(h0, .inr (5, [.int 0, .int 0, .ref q_1, .ref q_3, .ref q_5, .ref q_7, .ref q_9, .ref q_11, .ref q_13, .null, .null, .null, .null, .null, .null, .null, .null])), (q_1, .inl (cA_2, 6, .inl (fun _ => 0))), (q_3, .inl (cA_4, 6, .inl (fun _ => 0))), (q_5, .inl (cA_6, 36, .inl (fun _ => 0))), (q_7, .inl (cA_8, 36, .inr (.inl (fun _ => 0)))), (q_9, .inl (cA_10, 36, .inl (fun _ => 0))), (q_11, .inl (cA_12, 36, .inl (fun _ => 0))), (q_13, .inl (cA_14, 288, .inr (.inl (fun _ => 0)))), (q_15, .inl (cA_16, 288, .inr (.inl (fun _ => 0))))] := hD
  have hK : va_K (dC, dI) vwCl [(cA_2, .int), (cA_4, .int), (cA_6, .int), (cA_8, .long), (cA_10, .int), (cA_12, .int), (cA_14, .long), (cA_16, .long)] s := hK
  refine W.widen (k := 8) (n := 732) (Nat.le_of_ble_eq_true rfl) (Nat.le_of_ble_eq_true rfl) ?_
  refine va_putF (D := (dC, dI)) (ci := 5) (v := .ref q_15) (ty := .array .long) (C := RX5) (T := TX5) (N := 17) hx hb hts inlX5 tyX5 tyX5_ok nmX5 hown hK hP hD hS 0 rfl rfl 9 (by decide) (hts (.fieldLink RX5 41 "ShapeReader$Shapes" "formerNames" "[J") mw_14_26) (fun _ h9 => h9) rfl hin rfl (by decide +kernel) rfl rfl (Nat.le_of_ble_eq_true rfl) dX5_init_77 (fun H locs hP hD hS => ?_)
  have hP : va_P (dC, dI) vwCl [(h0, .inr (5, [.int 0, .int 0, .ref q_1, .ref q_3, .ref q_5, .ref q_7, .ref q_9, .ref q_11, .ref q_13, .ref q_15, .null, .null, .null, .null, .null, .null, .null])), (q_1, .inl (cA_2, 6, .inl (fun _ => 0))), (q_3, .inl (cA_4, 6, .inl (fun _ => 0))), (q_5, .inl (cA_6, 36, .inl (fun _ => 0))), (q_7, .inl (cA_8, 36, .inr (.inl (fun _ => 0)))), (q_9, .inl (cA_10, 36, .inl (fun _ => 0))), (q_11, .inl (cA_12, 36, .inl (fun _ => 0))), (q_13, .inl (cA_14, 288, .inr (.inl (fun _ => 0)))), (q_15, .inl (cA_16, 288, .inr (.inl (fun _ => 0))))] H := hP
  have hD : va_D A [(h0, .inr (5, [.int 0, .int 0, .ref q_1, .ref q_3, .ref q_5, .ref q_7, .ref q_9, .ref q_11, .ref q_13, .ref q_15, .null, .null, .null, .null, .null, .null, .null])), (q_1, .inl (cA_2, 6, .inl (fun _ => 0))), (q_3, .inl (cA_4, 6, .inl (fun _ => 0))), (q_5, .inl (cA_6, 36, .inl (fun _ => 0))), (q_7, .inl (cA_8, 36, .inr (.inl (fun _ => 0)))), (q_9, .inl (cA_10, 36, .inl (fun _ => 0))), (q_11, .inl (cA_12, 36, .inl (fun _ => 0))), (q_13, .inl (cA_14, 288, .inr (.inl (fun _ => 0)))), (q_15, .inl (cA_16, 288, .inr (.inl (fun _ => 0))))] := hD
  refine lv_aload_n hx hb dX5_init_80 rfl (lv_at hl 0 rfl) ?_
  refine lv_sipush (v := 288) hx hb dX5_init_81 (by decide) ?_
  refine va_newa (atype := .int) hx hb (hts (.arrayClass .int) mw_0_1) (ty := .int) rfl hK hP hD hS hA (n := 288) (N' := 288) (a0 := (288, .inl (fun _ => 0))) (fun _ => rfl) (by decide) (by decide) (Nat.le_of_ble_eq_true rfl) (Nat.le_of_ble_eq_true rfl) (Nat.le_of_ble_eq_true rfl) dX5_init_84 (fun q_17 cA_18 H hK hP hD hS => ?_)
  have hP : va_P (dC, dI) vwCl [(h0, .inr (5, [.int 0, .int 0, .ref q_1, .ref q_3, .ref q_5, .ref q_7, .ref q_9, .ref q_11, .ref q_13, .ref q_15, .null, .null, .null, .null, .null, .null, .null])), (q_1, .inl (cA_2, 6, .inl (fun _ => 0))), (q_3, .inl (cA_4, 6, .inl (fun _ => 0))), (q_5, .inl (cA_6, 36, .inl (fun _ => 0))), (q_7, .inl (cA_8, 36, .inr (.inl (fun _ => 0)))), (q_9, .inl (cA_10, 36, .inl (fun _ => 0))), (q_11, .inl (cA_12, 36, .inl (fun _ => 0))), (q_13, .inl (cA_14, 288, .inr (.inl (fun _ => 0)))), (q_15, .inl (cA_16, 288, .inr (.inl (fun _ => 0)))), (q_17, .inl (cA_18, 288, .inl (fun _ => 0)))] H := hP
  have hD : va_D A [(h0, .inr (5, [.int 0, .int 0, .ref q_1, .ref q_3, .ref q_5, .ref q_7, .ref q_9, .ref q_11, .ref q_13, .ref q_15, .null, .null, .null, .null, .null, .null, .null])), (q_1, .inl (cA_2, 6, .inl (fun _ => 0))), (q_3, .inl (cA_4, 6, .inl (fun _ => 0))), (q_5, .inl (cA_6, 36, .inl (fun _ => 0))), (q_7, .inl (cA_8, 36, .inr (.inl (fun _ => 0)))), (q_9, .inl (cA_10, 36, .inl (fun _ => 0))), (q_11, .inl (cA_12, 36, .inl (fun _ => 0))), (q_13, .inl (cA_14, 288, .inr (.inl (fun _ => 0)))), (q_15, .inl (cA_16, 288, .inr (.inl (fun _ => 0)))), (q_17, .inl (cA_18, 288, .inl (fun _ => 0)))] := hD
  have hK : va_K (dC, dI) vwCl [(cA_2, .int), (cA_4, .int), (cA_6, .int), (cA_8, .long), (cA_10, .int), (cA_12, .int), (cA_14, .long), (cA_16, .long), (cA_18, .int)] s := hK
  refine W.widen (k := 9) (n := 1020) (Nat.le_of_ble_eq_true rfl) (Nat.le_of_ble_eq_true rfl) ?_
  refine va_putF (D := (dC, dI)) (ci := 5) (v := .ref q_17) (ty := .array .int) (C := RX5) (T := TX5) (N := 17) hx hb hts inlX5 tyX5 tyX5_ok nmX5 hown hK hP hD hS 0 rfl rfl 10 (by decide) (hts (.fieldLink RX5 44 "ShapeReader$Shapes" "fieldTypes" "[I") mw_14_27) (fun _ h9 => h9) rfl hin rfl (by decide +kernel) rfl rfl (Nat.le_of_ble_eq_true rfl) dX5_init_86 (fun H locs hP hD hS => ?_)
  have hP : va_P (dC, dI) vwCl [(h0, .inr (5, [.int 0, .int 0, .ref q_1, .ref q_3, .ref q_5, .ref q_7, .ref q_9, .ref q_11, .ref q_13, .ref q_15, .ref q_17, .null, .null, .null, .null, .null, .null])), (q_1, .inl (cA_2, 6, .inl (fun _ => 0))), (q_3, .inl (cA_4, 6, .inl (fun _ => 0))), (q_5, .inl (cA_6, 36, .inl (fun _ => 0))), (q_7, .inl (cA_8, 36, .inr (.inl (fun _ => 0)))), (q_9, .inl (cA_10, 36, .inl (fun _ => 0))), (q_11, .inl (cA_12, 36, .inl (fun _ => 0))), (q_13, .inl (cA_14, 288, .inr (.inl (fun _ => 0)))), (q_15, .inl (cA_16, 288, .inr (.inl (fun _ => 0)))), (q_17, .inl (cA_18, 288, .inl (fun _ => 0)))] H := hP
  have hD : va_D A [(h0, .inr (5, [.int 0, .int 0, .ref q_1, .ref q_3, .ref q_5, .ref q_7, .ref q_9, .ref q_11, .ref q_13, .ref q_15, .ref q_17, .null, .null, .null, .null, .null, .null])), (q_1, .inl (cA_2, 6, .inl (fun _ => 0))), (q_3, .inl (cA_4, 6, .inl (fun _ => 0))), (q_5, .inl (cA_6, 36, .inl (fun _ => 0))), (q_7, .inl (cA_8, 36, .inr (.inl (fun _ => 0)))), (q_9, .inl (cA_10, 36, .inl (fun _ => 0))), (q_11, .inl (cA_12, 36, .inl (fun _ => 0))), (q_13, .inl (cA_14, 288, .inr (.inl (fun _ => 0)))), (q_15, .inl (cA_16, 288, .inr (.inl (fun _ => 0)))), (q_17, .inl (cA_18, 288, .inl (fun _ => 0)))] := hD
  refine lv_aload_n hx hb dX5_init_89 rfl (lv_at hl 0 rfl) ?_
  refine lv_sipush (v := 288) hx hb dX5_init_90 (by decide) ?_
  refine va_newa (atype := .long) hx hb (hts (.arrayClass .long) mw_0_2) (ty := .long) rfl hK hP hD hS hA (n := 288) (N' := 288) (a0 := (288, .inr (.inl (fun _ => 0)))) (fun _ => rfl) (by decide) (by decide) (Nat.le_of_ble_eq_true rfl) (Nat.le_of_ble_eq_true rfl) (Nat.le_of_ble_eq_true rfl) dX5_init_93 (fun q_19 cA_20 H hK hP hD hS => ?_)
  have hP : va_P (dC, dI) vwCl [(h0, .inr (5, [.int 0, .int 0, .ref q_1, .ref q_3, .ref q_5, .ref q_7, .ref q_9, .ref q_11, .ref q_13, .ref q_15, .ref q_17, .null, .null, .null, .null, .null, .null])), (q_1, .inl (cA_2, 6, .inl (fun _ => 0))), (q_3, .inl (cA_4, 6, .inl (fun _ => 0))), (q_5, .inl (cA_6, 36, .inl (fun _ => 0))), (q_7, .inl (cA_8, 36, .inr (.inl (fun _ => 0)))), (q_9, .inl (cA_10, 36, .inl (fun _ => 0))), (q_11, .inl (cA_12, 36, .inl (fun _ => 0))), (q_13, .inl (cA_14, 288, .inr (.inl (fun _ => 0)))), (q_15, .inl (cA_16, 288, .inr (.inl (fun _ => 0)))), (q_17, .inl (cA_18, 288, .inl (fun _ => 0))), (q_19, .inl (cA_20, 288, .inr (.inl (fun _ => 0))))] H := hP
  have hD : va_D A [(h0, .inr (5, [.int 0, .int 0, .ref q_1, .ref q_3, .ref q_5, .ref q_7, .ref q_9, .ref q_11, .ref q_13, .ref q_15, .ref q_17, .null, .null, .null, .null, .null, .null])), (q_1, .inl (cA_2, 6, .inl (fun _ => 0))), (q_3, .inl (cA_4, 6, .inl (fun _ => 0))), (q_5, .inl (cA_6, 36, .inl (fun _ => 0))), (q_7, .inl (cA_8, 36, .inr (.inl (fun _ => 0)))), (q_9, .inl (cA_10, 36, .inl (fun _ => 0))), (q_11, .inl (cA_12, 36, .inl (fun _ => 0))), (q_13, .inl (cA_14, 288, .inr (.inl (fun _ => 0)))), (q_15, .inl (cA_16, 288, .inr (.inl (fun _ => 0)))), (q_17, .inl (cA_18, 288, .inl (fun _ => 0))), (q_19, .inl (cA_20, 288, .inr (.inl (fun _ => 0))))] := hD
  have hK : va_K (dC, dI) vwCl [(cA_2, .int), (cA_4, .int), (cA_6, .int), (cA_8, .long), (cA_10, .int), (cA_12, .int), (cA_14, .long), (cA_16, .long), (cA_18, .int), (cA_20, .long)] s := hK
  refine W.widen (k := 10) (n := 1308) (Nat.le_of_ble_eq_true rfl) (Nat.le_of_ble_eq_true rfl) ?_
  refine va_putF (D := (dC, dI)) (ci := 5) (v := .ref q_19) (ty := .array .long) (C := RX5) (T := TX5) (N := 17) hx hb hts inlX5 tyX5 tyX5_ok nmX5 hown hK hP hD hS 0 rfl rfl 11 (by decide) (hts (.fieldLink RX5 47 "ShapeReader$Shapes" "elseWorths" "[J") mw_14_28) (fun _ h9 => h9) rfl hin rfl (by decide +kernel) rfl rfl (Nat.le_of_ble_eq_true rfl) dX5_init_95 (fun H locs hP hD hS => ?_)
  have hP : va_P (dC, dI) vwCl [(h0, .inr (5, [.int 0, .int 0, .ref q_1, .ref q_3, .ref q_5, .ref q_7, .ref q_9, .ref q_11, .ref q_13, .ref q_15, .ref q_17, .ref q_19, .null, .null, .null, .null, .null])), (q_1, .inl (cA_2, 6, .inl (fun _ => 0))), (q_3, .inl (cA_4, 6, .inl (fun _ => 0))), (q_5, .inl (cA_6, 36, .inl (fun _ => 0))), (q_7, .inl (cA_8, 36, .inr (.inl (fun _ => 0)))), (q_9, .inl (cA_10, 36, .inl (fun _ => 0))), (q_11, .inl (cA_12, 36, .inl (fun _ => 0))), (q_13, .inl (cA_14, 288, .inr (.inl (fun _ => 0)))), (q_15, .inl (cA_16, 288, .inr (.inl (fun _ => 0)))), (q_17, .inl (cA_18, 288, .inl (fun _ => 0))), (q_19, .inl (cA_20, 288, .inr (.inl (fun _ => 0))))] H := hP
  have hD : va_D A [(h0, .inr (5, [.int 0, .int 0, .ref q_1, .ref q_3, .ref q_5, .ref q_7, .ref q_9, .ref q_11, .ref q_13, .ref q_15, .ref q_17, .ref q_19, .null, .null, .null, .null, .null])), (q_1, .inl (cA_2, 6, .inl (fun _ => 0))), (q_3, .inl (cA_4, 6, .inl (fun _ => 0))), (q_5, .inl (cA_6, 36, .inl (fun _ => 0))), (q_7, .inl (cA_8, 36, .inr (.inl (fun _ => 0)))), (q_9, .inl (cA_10, 36, .inl (fun _ => 0))), (q_11, .inl (cA_12, 36, .inl (fun _ => 0))), (q_13, .inl (cA_14, 288, .inr (.inl (fun _ => 0)))), (q_15, .inl (cA_16, 288, .inr (.inl (fun _ => 0)))), (q_17, .inl (cA_18, 288, .inl (fun _ => 0))), (q_19, .inl (cA_20, 288, .inr (.inl (fun _ => 0))))] := hD
  refine lv_aload_n hx hb dX5_init_98 rfl (lv_at hl 0 rfl) ?_
  refine lv_sipush (v := 262) hx hb dX5_init_99 (by decide) ?_
  refine va_newa (atype := .int) hx hb (hts (.arrayClass .int) mw_0_1) (ty := .int) rfl hK hP hD hS hA (n := 262) (N' := 262) (a0 := (262, .inl (fun _ => 0))) (fun _ => rfl) (by decide) (by decide) (Nat.le_of_ble_eq_true rfl) (Nat.le_of_ble_eq_true rfl) (Nat.le_of_ble_eq_true rfl) dX5_init_102 (fun q_21 cA_22 H hK hP hD hS => ?_)
  have hP : va_P (dC, dI) vwCl [(h0, .inr (5, [.int 0, .int 0, .ref q_1, .ref q_3, .ref q_5, .ref q_7, .ref q_9, .ref q_11, .ref q_13, .ref q_15, .ref q_17, .ref q_19, .null, .null, .null, .null, .null])), (q_1, .inl (cA_2, 6, .inl (fun _ => 0))), (q_3, .inl (cA_4, 6, .inl (fun _ => 0))), (q_5, .inl (cA_6, 36, .inl (fun _ => 0))), (q_7, .inl (cA_8, 36, .inr (.inl (fun _ => 0)))), (q_9, .inl (cA_10, 36, .inl (fun _ => 0))), (q_11, .inl (cA_12, 36, .inl (fun _ => 0))), (q_13, .inl (cA_14, 288, .inr (.inl (fun _ => 0)))), (q_15, .inl (cA_16, 288, .inr (.inl (fun _ => 0)))), (q_17, .inl (cA_18, 288, .inl (fun _ => 0))), (q_19, .inl (cA_20, 288, .inr (.inl (fun _ => 0)))), (q_21, .inl (cA_22, 262, .inl (fun _ => 0)))] H := hP
  have hD : va_D A [(h0, .inr (5, [.int 0, .int 0, .ref q_1, .ref q_3, .ref q_5, .ref q_7, .ref q_9, .ref q_11, .ref q_13, .ref q_15, .ref q_17, .ref q_19, .null, .null, .null, .null, .null])), (q_1, .inl (cA_2, 6, .inl (fun _ => 0))), (q_3, .inl (cA_4, 6, .inl (fun _ => 0))), (q_5, .inl (cA_6, 36, .inl (fun _ => 0))), (q_7, .inl (cA_8, 36, .inr (.inl (fun _ => 0)))), (q_9, .inl (cA_10, 36, .inl (fun _ => 0))), (q_11, .inl (cA_12, 36, .inl (fun _ => 0))), (q_13, .inl (cA_14, 288, .inr (.inl (fun _ => 0)))), (q_15, .inl (cA_16, 288, .inr (.inl (fun _ => 0)))), (q_17, .inl (cA_18, 288, .inl (fun _ => 0))), (q_19, .inl (cA_20, 288, .inr (.inl (fun _ => 0)))), (q_21, .inl (cA_22, 262, .inl (fun _ => 0)))] := hD
  have hK : va_K (dC, dI) vwCl [(cA_2, .int), (cA_4, .int), (cA_6, .int), (cA_8, .long), (cA_10, .int), (cA_12, .int), (cA_14, .long), (cA_16, .long), (cA_18, .int), (cA_20, .long), (cA_22, .int)] s := hK
  refine W.widen (k := 11) (n := 1570) (Nat.le_of_ble_eq_true rfl) (Nat.le_of_ble_eq_true rfl) ?_
  refine va_putF (D := (dC, dI)) (ci := 5) (v := .ref q_21) (ty := .array .int) (C := RX5) (T := TX5) (N := 17) hx hb hts inlX5 tyX5 tyX5_ok nmX5 hown hK hP hD hS 0 rfl rfl 12 (by decide) (hts (.fieldLink RX5 50 "ShapeReader$Shapes" "sorts" "[I") mw_14_29) (fun _ h9 => h9) rfl hin rfl (by decide +kernel) rfl rfl (Nat.le_of_ble_eq_true rfl) dX5_init_104 (fun H locs hP hD hS => ?_)
  have hP : va_P (dC, dI) vwCl [(h0, .inr (5, [.int 0, .int 0, .ref q_1, .ref q_3, .ref q_5, .ref q_7, .ref q_9, .ref q_11, .ref q_13, .ref q_15, .ref q_17, .ref q_19, .ref q_21, .null, .null, .null, .null])), (q_1, .inl (cA_2, 6, .inl (fun _ => 0))), (q_3, .inl (cA_4, 6, .inl (fun _ => 0))), (q_5, .inl (cA_6, 36, .inl (fun _ => 0))), (q_7, .inl (cA_8, 36, .inr (.inl (fun _ => 0)))), (q_9, .inl (cA_10, 36, .inl (fun _ => 0))), (q_11, .inl (cA_12, 36, .inl (fun _ => 0))), (q_13, .inl (cA_14, 288, .inr (.inl (fun _ => 0)))), (q_15, .inl (cA_16, 288, .inr (.inl (fun _ => 0)))), (q_17, .inl (cA_18, 288, .inl (fun _ => 0))), (q_19, .inl (cA_20, 288, .inr (.inl (fun _ => 0)))), (q_21, .inl (cA_22, 262, .inl (fun _ => 0)))] H := hP
  have hD : va_D A [(h0, .inr (5, [.int 0, .int 0, .ref q_1, .ref q_3, .ref q_5, .ref q_7, .ref q_9, .ref q_11, .ref q_13, .ref q_15, .ref q_17, .ref q_19, .ref q_21, .null, .null, .null, .null])), (q_1, .inl (cA_2, 6, .inl (fun _ => 0))), (q_3, .inl (cA_4, 6, .inl (fun _ => 0))), (q_5, .inl (cA_6, 36, .inl (fun _ => 0))), (q_7, .inl (cA_8, 36, .inr (.inl (fun _ => 0)))), (q_9, .inl (cA_10, 36, .inl (fun _ => 0))), (q_11, .inl (cA_12, 36, .inl (fun _ => 0))), (q_13, .inl (cA_14, 288, .inr (.inl (fun _ => 0)))), (q_15, .inl (cA_16, 288, .inr (.inl (fun _ => 0)))), (q_17, .inl (cA_18, 288, .inl (fun _ => 0))), (q_19, .inl (cA_20, 288, .inr (.inl (fun _ => 0)))), (q_21, .inl (cA_22, 262, .inl (fun _ => 0)))] := hD
  refine lv_aload_n hx hb dX5_init_107 rfl (lv_at hl 0 rfl) ?_
  refine lv_sipush (v := 262) hx hb dX5_init_108 (by decide) ?_
  refine va_newa (atype := .int) hx hb (hts (.arrayClass .int) mw_0_1) (ty := .int) rfl hK hP hD hS hA (n := 262) (N' := 262) (a0 := (262, .inl (fun _ => 0))) (fun _ => rfl) (by decide) (by decide) (Nat.le_of_ble_eq_true rfl) (Nat.le_of_ble_eq_true rfl) (Nat.le_of_ble_eq_true rfl) dX5_init_111 (fun q_23 cA_24 H hK hP hD hS => ?_)
  have hP : va_P (dC, dI) vwCl [(h0, .inr (5, [.int 0, .int 0, .ref q_1, .ref q_3, .ref q_5, .ref q_7, .ref q_9, .ref q_11, .ref q_13, .ref q_15, .ref q_17, .ref q_19, .ref q_21, .null, .null, .null, .null])), (q_1, .inl (cA_2, 6, .inl (fun _ => 0))), (q_3, .inl (cA_4, 6, .inl (fun _ => 0))), (q_5, .inl (cA_6, 36, .inl (fun _ => 0))), (q_7, .inl (cA_8, 36, .inr (.inl (fun _ => 0)))), (q_9, .inl (cA_10, 36, .inl (fun _ => 0))), (q_11, .inl (cA_12, 36, .inl (fun _ => 0))), (q_13, .inl (cA_14, 288, .inr (.inl (fun _ => 0)))), (q_15, .inl (cA_16, 288, .inr (.inl (fun _ => 0)))), (q_17, .inl (cA_18, 288, .inl (fun _ => 0))), (q_19, .inl (cA_20, 288, .inr (.inl (fun _ => 0)))), (q_21, .inl (cA_22, 262, .inl (fun _ => 0))), (q_23, .inl (cA_24, 262, .inl (fun _ => 0)))] H := hP
  have hD : va_D A [(h0, .inr (5, [.int 0, .int 0, .ref q_1, .ref q_3, .ref q_5, .ref q_7, .ref q_9, .ref q_11, .ref q_13, .ref q_15, .ref q_17, .ref q_19, .ref q_21, .null, .null, .null, .null])), (q_1, .inl (cA_2, 6, .inl (fun _ => 0))), (q_3, .inl (cA_4, 6, .inl (fun _ => 0))), (q_5, .inl (cA_6, 36, .inl (fun _ => 0))), (q_7, .inl (cA_8, 36, .inr (.inl (fun _ => 0)))), (q_9, .inl (cA_10, 36, .inl (fun _ => 0))), (q_11, .inl (cA_12, 36, .inl (fun _ => 0))), (q_13, .inl (cA_14, 288, .inr (.inl (fun _ => 0)))), (q_15, .inl (cA_16, 288, .inr (.inl (fun _ => 0)))), (q_17, .inl (cA_18, 288, .inl (fun _ => 0))), (q_19, .inl (cA_20, 288, .inr (.inl (fun _ => 0)))), (q_21, .inl (cA_22, 262, .inl (fun _ => 0))), (q_23, .inl (cA_24, 262, .inl (fun _ => 0)))] := hD
  have hK : va_K (dC, dI) vwCl [(cA_2, .int), (cA_4, .int), (cA_6, .int), (cA_8, .long), (cA_10, .int), (cA_12, .int), (cA_14, .long), (cA_16, .long), (cA_18, .int), (cA_20, .long), (cA_22, .int), (cA_24, .int)] s := hK
  refine W.widen (k := 12) (n := 1832) (Nat.le_of_ble_eq_true rfl) (Nat.le_of_ble_eq_true rfl) ?_
  refine va_putF (D := (dC, dI)) (ci := 5) (v := .ref q_23) (ty := .array .int) (C := RX5) (T := TX5) (N := 17) hx hb hts inlX5 tyX5 tyX5_ok nmX5 hown hK hP hD hS 0 rfl rfl 13 (by decide) (hts (.fieldLink RX5 53 "ShapeReader$Shapes" "inners" "[I") mw_15_0) (fun _ h9 => h9) rfl hin rfl (by decide +kernel) rfl rfl (Nat.le_of_ble_eq_true rfl) dX5_init_113 (fun H locs hP hD hS => ?_)
  have hP : va_P (dC, dI) vwCl [(h0, .inr (5, [.int 0, .int 0, .ref q_1, .ref q_3, .ref q_5, .ref q_7, .ref q_9, .ref q_11, .ref q_13, .ref q_15, .ref q_17, .ref q_19, .ref q_21, .ref q_23, .null, .null, .null])), (q_1, .inl (cA_2, 6, .inl (fun _ => 0))), (q_3, .inl (cA_4, 6, .inl (fun _ => 0))), (q_5, .inl (cA_6, 36, .inl (fun _ => 0))), (q_7, .inl (cA_8, 36, .inr (.inl (fun _ => 0)))), (q_9, .inl (cA_10, 36, .inl (fun _ => 0))), (q_11, .inl (cA_12, 36, .inl (fun _ => 0))), (q_13, .inl (cA_14, 288, .inr (.inl (fun _ => 0)))), (q_15, .inl (cA_16, 288, .inr (.inl (fun _ => 0)))), (q_17, .inl (cA_18, 288, .inl (fun _ => 0))), (q_19, .inl (cA_20, 288, .inr (.inl (fun _ => 0)))), (q_21, .inl (cA_22, 262, .inl (fun _ => 0))), (q_23, .inl (cA_24, 262, .inl (fun _ => 0)))] H := hP
  have hD : va_D A [(h0, .inr (5, [.int 0, .int 0, .ref q_1, .ref q_3, .ref q_5, .ref q_7, .ref q_9, .ref q_11, .ref q_13, .ref q_15, .ref q_17, .ref q_19, .ref q_21, .ref q_23, .null, .null, .null])), (q_1, .inl (cA_2, 6, .inl (fun _ => 0))), (q_3, .inl (cA_4, 6, .inl (fun _ => 0))), (q_5, .inl (cA_6, 36, .inl (fun _ => 0))), (q_7, .inl (cA_8, 36, .inr (.inl (fun _ => 0)))), (q_9, .inl (cA_10, 36, .inl (fun _ => 0))), (q_11, .inl (cA_12, 36, .inl (fun _ => 0))), (q_13, .inl (cA_14, 288, .inr (.inl (fun _ => 0)))), (q_15, .inl (cA_16, 288, .inr (.inl (fun _ => 0)))), (q_17, .inl (cA_18, 288, .inl (fun _ => 0))), (q_19, .inl (cA_20, 288, .inr (.inl (fun _ => 0)))), (q_21, .inl (cA_22, 262, .inl (fun _ => 0))), (q_23, .inl (cA_24, 262, .inl (fun _ => 0)))] := hD
  refine lv_aload_n hx hb dX5_init_116 rfl (lv_at hl 0 rfl) ?_
  refine lv_sipush (v := 262) hx hb dX5_init_117 (by decide) ?_
  refine va_newa (atype := .int) hx hb (hts (.arrayClass .int) mw_0_1) (ty := .int) rfl hK hP hD hS hA (n := 262) (N' := 262) (a0 := (262, .inl (fun _ => 0))) (fun _ => rfl) (by decide) (by decide) (Nat.le_of_ble_eq_true rfl) (Nat.le_of_ble_eq_true rfl) (Nat.le_of_ble_eq_true rfl) dX5_init_120 (fun q_25 cA_26 H hK hP hD hS => ?_)
  have hP : va_P (dC, dI) vwCl [(h0, .inr (5, [.int 0, .int 0, .ref q_1, .ref q_3, .ref q_5, .ref q_7, .ref q_9, .ref q_11, .ref q_13, .ref q_15, .ref q_17, .ref q_19, .ref q_21, .ref q_23, .null, .null, .null])), (q_1, .inl (cA_2, 6, .inl (fun _ => 0))), (q_3, .inl (cA_4, 6, .inl (fun _ => 0))), (q_5, .inl (cA_6, 36, .inl (fun _ => 0))), (q_7, .inl (cA_8, 36, .inr (.inl (fun _ => 0)))), (q_9, .inl (cA_10, 36, .inl (fun _ => 0))), (q_11, .inl (cA_12, 36, .inl (fun _ => 0))), (q_13, .inl (cA_14, 288, .inr (.inl (fun _ => 0)))), (q_15, .inl (cA_16, 288, .inr (.inl (fun _ => 0)))), (q_17, .inl (cA_18, 288, .inl (fun _ => 0))), (q_19, .inl (cA_20, 288, .inr (.inl (fun _ => 0)))), (q_21, .inl (cA_22, 262, .inl (fun _ => 0))), (q_23, .inl (cA_24, 262, .inl (fun _ => 0))), (q_25, .inl (cA_26, 262, .inl (fun _ => 0)))] H := hP
  have hD : va_D A [(h0, .inr (5, [.int 0, .int 0, .ref q_1, .ref q_3, .ref q_5, .ref q_7, .ref q_9, .ref q_11, .ref q_13, .ref q_15, .ref q_17, .ref q_19, .ref q_21, .ref q_23, .null, .null, .null])), (q_1, .inl (cA_2, 6, .inl (fun _ => 0))), (q_3, .inl (cA_4, 6, .inl (fun _ => 0))), (q_5, .inl (cA_6, 36, .inl (fun _ => 0))), (q_7, .inl (cA_8, 36, .inr (.inl (fun _ => 0)))), (q_9, .inl (cA_10, 36, .inl (fun _ => 0))), (q_11, .inl (cA_12, 36, .inl (fun _ => 0))), (q_13, .inl (cA_14, 288, .inr (.inl (fun _ => 0)))), (q_15, .inl (cA_16, 288, .inr (.inl (fun _ => 0)))), (q_17, .inl (cA_18, 288, .inl (fun _ => 0))), (q_19, .inl (cA_20, 288, .inr (.inl (fun _ => 0)))), (q_21, .inl (cA_22, 262, .inl (fun _ => 0))), (q_23, .inl (cA_24, 262, .inl (fun _ => 0))), (q_25, .inl (cA_26, 262, .inl (fun _ => 0)))] := hD
  have hK : va_K (dC, dI) vwCl [(cA_2, .int), (cA_4, .int), (cA_6, .int), (cA_8, .long), (cA_10, .int), (cA_12, .int), (cA_14, .long), (cA_16, .long), (cA_18, .int), (cA_20, .long), (cA_22, .int), (cA_24, .int), (cA_26, .int)] s := hK
  refine W.widen (k := 13) (n := 2094) (Nat.le_of_ble_eq_true rfl) (Nat.le_of_ble_eq_true rfl) ?_
  refine va_putF (D := (dC, dI)) (ci := 5) (v := .ref q_25) (ty := .array .int) (C := RX5) (T := TX5) (N := 17) hx hb hts inlX5 tyX5 tyX5_ok nmX5 hown hK hP hD hS 0 rfl rfl 14 (by decide) (hts (.fieldLink RX5 56 "ShapeReader$Shapes" "nextBranches" "[I") mw_15_1) (fun _ h9 => h9) rfl hin rfl (by decide +kernel) rfl rfl (Nat.le_of_ble_eq_true rfl) dX5_init_122 (fun H locs hP hD hS => ?_)
  have hP : va_P (dC, dI) vwCl [(h0, .inr (5, [.int 0, .int 0, .ref q_1, .ref q_3, .ref q_5, .ref q_7, .ref q_9, .ref q_11, .ref q_13, .ref q_15, .ref q_17, .ref q_19, .ref q_21, .ref q_23, .ref q_25, .null, .null])), (q_1, .inl (cA_2, 6, .inl (fun _ => 0))), (q_3, .inl (cA_4, 6, .inl (fun _ => 0))), (q_5, .inl (cA_6, 36, .inl (fun _ => 0))), (q_7, .inl (cA_8, 36, .inr (.inl (fun _ => 0)))), (q_9, .inl (cA_10, 36, .inl (fun _ => 0))), (q_11, .inl (cA_12, 36, .inl (fun _ => 0))), (q_13, .inl (cA_14, 288, .inr (.inl (fun _ => 0)))), (q_15, .inl (cA_16, 288, .inr (.inl (fun _ => 0)))), (q_17, .inl (cA_18, 288, .inl (fun _ => 0))), (q_19, .inl (cA_20, 288, .inr (.inl (fun _ => 0)))), (q_21, .inl (cA_22, 262, .inl (fun _ => 0))), (q_23, .inl (cA_24, 262, .inl (fun _ => 0))), (q_25, .inl (cA_26, 262, .inl (fun _ => 0)))] H := hP
  have hD : va_D A [(h0, .inr (5, [.int 0, .int 0, .ref q_1, .ref q_3, .ref q_5, .ref q_7, .ref q_9, .ref q_11, .ref q_13, .ref q_15, .ref q_17, .ref q_19, .ref q_21, .ref q_23, .ref q_25, .null, .null])), (q_1, .inl (cA_2, 6, .inl (fun _ => 0))), (q_3, .inl (cA_4, 6, .inl (fun _ => 0))), (q_5, .inl (cA_6, 36, .inl (fun _ => 0))), (q_7, .inl (cA_8, 36, .inr (.inl (fun _ => 0)))), (q_9, .inl (cA_10, 36, .inl (fun _ => 0))), (q_11, .inl (cA_12, 36, .inl (fun _ => 0))), (q_13, .inl (cA_14, 288, .inr (.inl (fun _ => 0)))), (q_15, .inl (cA_16, 288, .inr (.inl (fun _ => 0)))), (q_17, .inl (cA_18, 288, .inl (fun _ => 0))), (q_19, .inl (cA_20, 288, .inr (.inl (fun _ => 0)))), (q_21, .inl (cA_22, 262, .inl (fun _ => 0))), (q_23, .inl (cA_24, 262, .inl (fun _ => 0))), (q_25, .inl (cA_26, 262, .inl (fun _ => 0)))] := hD
  refine lv_aload_n hx hb dX5_init_125 rfl (lv_at hl 0 rfl) ?_
  refine lv_sipush (v := 262) hx hb dX5_init_126 (by decide) ?_
  refine va_newa (atype := .long) hx hb (hts (.arrayClass .long) mw_0_2) (ty := .long) rfl hK hP hD hS hA (n := 262) (N' := 262) (a0 := (262, .inr (.inl (fun _ => 0)))) (fun _ => rfl) (by decide) (by decide) (Nat.le_of_ble_eq_true rfl) (Nat.le_of_ble_eq_true rfl) (Nat.le_of_ble_eq_true rfl) dX5_init_129 (fun q_27 cA_28 H hK hP hD hS => ?_)
  have hP : va_P (dC, dI) vwCl [(h0, .inr (5, [.int 0, .int 0, .ref q_1, .ref q_3, .ref q_5, .ref q_7, .ref q_9, .ref q_11, .ref q_13, .ref q_15, .ref q_17, .ref q_19, .ref q_21, .ref q_23, .ref q_25, .null, .null])), (q_1, .inl (cA_2, 6, .inl (fun _ => 0))), (q_3, .inl (cA_4, 6, .inl (fun _ => 0))), (q_5, .inl (cA_6, 36, .inl (fun _ => 0))), (q_7, .inl (cA_8, 36, .inr (.inl (fun _ => 0)))), (q_9, .inl (cA_10, 36, .inl (fun _ => 0))), (q_11, .inl (cA_12, 36, .inl (fun _ => 0))), (q_13, .inl (cA_14, 288, .inr (.inl (fun _ => 0)))), (q_15, .inl (cA_16, 288, .inr (.inl (fun _ => 0)))), (q_17, .inl (cA_18, 288, .inl (fun _ => 0))), (q_19, .inl (cA_20, 288, .inr (.inl (fun _ => 0)))), (q_21, .inl (cA_22, 262, .inl (fun _ => 0))), (q_23, .inl (cA_24, 262, .inl (fun _ => 0))), (q_25, .inl (cA_26, 262, .inl (fun _ => 0))), (q_27, .inl (cA_28, 262, .inr (.inl (fun _ => 0))))] H := hP
  have hD : va_D A [(h0, .inr (5, [.int 0, .int 0, .ref q_1, .ref q_3, .ref q_5, .ref q_7, .ref q_9, .ref q_11, .ref q_13, .ref q_15, .ref q_17, .ref q_19, .ref q_21, .ref q_23, .ref q_25, .null, .null])), (q_1, .inl (cA_2, 6, .inl (fun _ => 0))), (q_3, .inl (cA_4, 6, .inl (fun _ => 0))), (q_5, .inl (cA_6, 36, .inl (fun _ => 0))), (q_7, .inl (cA_8, 36, .inr (.inl (fun _ => 0)))), (q_9, .inl (cA_10, 36, .inl (fun _ => 0))), (q_11, .inl (cA_12, 36, .inl (fun _ => 0))), (q_13, .inl (cA_14, 288, .inr (.inl (fun _ => 0)))), (q_15, .inl (cA_16, 288, .inr (.inl (fun _ => 0)))), (q_17, .inl (cA_18, 288, .inl (fun _ => 0))), (q_19, .inl (cA_20, 288, .inr (.inl (fun _ => 0)))), (q_21, .inl (cA_22, 262, .inl (fun _ => 0))), (q_23, .inl (cA_24, 262, .inl (fun _ => 0))), (q_25, .inl (cA_26, 262, .inl (fun _ => 0))), (q_27, .inl (cA_28, 262, .inr (.inl (fun _ => 0))))] := hD
  have hK : va_K (dC, dI) vwCl [(cA_2, .int), (cA_4, .int), (cA_6, .int), (cA_8, .long), (cA_10, .int), (cA_12, .int), (cA_14, .long), (cA_16, .long), (cA_18, .int), (cA_20, .long), (cA_22, .int), (cA_24, .int), (cA_26, .int), (cA_28, .long)] s := hK
  refine W.widen (k := 14) (n := 2356) (Nat.le_of_ble_eq_true rfl) (Nat.le_of_ble_eq_true rfl) ?_
  refine va_putF (D := (dC, dI)) (ci := 5) (v := .ref q_27) (ty := .array .long) (C := RX5) (T := TX5) (N := 17) hx hb hts inlX5 tyX5 tyX5_ok nmX5 hown hK hP hD hS 0 rfl rfl 15 (by decide) (hts (.fieldLink RX5 59 "ShapeReader$Shapes" "askedNames" "[J") mw_15_2) (fun _ h9 => h9) rfl hin rfl (by decide +kernel) rfl rfl (Nat.le_of_ble_eq_true rfl) dX5_init_131 (fun H locs hP hD hS => ?_)
  have hP : va_P (dC, dI) vwCl [(h0, .inr (5, [.int 0, .int 0, .ref q_1, .ref q_3, .ref q_5, .ref q_7, .ref q_9, .ref q_11, .ref q_13, .ref q_15, .ref q_17, .ref q_19, .ref q_21, .ref q_23, .ref q_25, .ref q_27, .null])), (q_1, .inl (cA_2, 6, .inl (fun _ => 0))), (q_3, .inl (cA_4, 6, .inl (fun _ => 0))), (q_5, .inl (cA_6, 36, .inl (fun _ => 0))), (q_7, .inl (cA_8, 36, .inr (.inl (fun _ => 0)))), (q_9, .inl (cA_10, 36, .inl (fun _ => 0))), (q_11, .inl (cA_12, 36, .inl (fun _ => 0))), (q_13, .inl (cA_14, 288, .inr (.inl (fun _ => 0)))), (q_15, .inl (cA_16, 288, .inr (.inl (fun _ => 0)))), (q_17, .inl (cA_18, 288, .inl (fun _ => 0))), (q_19, .inl (cA_20, 288, .inr (.inl (fun _ => 0)))), (q_21, .inl (cA_22, 262, .inl (fun _ => 0))), (q_23, .inl (cA_24, 262, .inl (fun _ => 0))), (q_25, .inl (cA_26, 262, .inl (fun _ => 0))), (q_27, .inl (cA_28, 262, .inr (.inl (fun _ => 0))))] H := hP
  have hD : va_D A [(h0, .inr (5, [.int 0, .int 0, .ref q_1, .ref q_3, .ref q_5, .ref q_7, .ref q_9, .ref q_11, .ref q_13, .ref q_15, .ref q_17, .ref q_19, .ref q_21, .ref q_23, .ref q_25, .ref q_27, .null])), (q_1, .inl (cA_2, 6, .inl (fun _ => 0))), (q_3, .inl (cA_4, 6, .inl (fun _ => 0))), (q_5, .inl (cA_6, 36, .inl (fun _ => 0))), (q_7, .inl (cA_8, 36, .inr (.inl (fun _ => 0)))), (q_9, .inl (cA_10, 36, .inl (fun _ => 0))), (q_11, .inl (cA_12, 36, .inl (fun _ => 0))), (q_13, .inl (cA_14, 288, .inr (.inl (fun _ => 0)))), (q_15, .inl (cA_16, 288, .inr (.inl (fun _ => 0)))), (q_17, .inl (cA_18, 288, .inl (fun _ => 0))), (q_19, .inl (cA_20, 288, .inr (.inl (fun _ => 0)))), (q_21, .inl (cA_22, 262, .inl (fun _ => 0))), (q_23, .inl (cA_24, 262, .inl (fun _ => 0))), (q_25, .inl (cA_26, 262, .inl (fun _ => 0))), (q_27, .inl (cA_28, 262, .inr (.inl (fun _ => 0))))] := hD
  refine lv_aload_n hx hb dX5_init_134 rfl (lv_at hl 0 rfl) ?_
  refine lv_sipush (v := 262) hx hb dX5_init_135 (by decide) ?_
  refine va_newa (atype := .int) hx hb (hts (.arrayClass .int) mw_0_1) (ty := .int) rfl hK hP hD hS hA (n := 262) (N' := 262) (a0 := (262, .inl (fun _ => 0))) (fun _ => rfl) (by decide) (by decide) (Nat.le_of_ble_eq_true rfl) (Nat.le_of_ble_eq_true rfl) (Nat.le_of_ble_eq_true rfl) dX5_init_138 (fun q_29 cA_30 H hK hP hD hS => ?_)
  have hP : va_P (dC, dI) vwCl [(h0, .inr (5, [.int 0, .int 0, .ref q_1, .ref q_3, .ref q_5, .ref q_7, .ref q_9, .ref q_11, .ref q_13, .ref q_15, .ref q_17, .ref q_19, .ref q_21, .ref q_23, .ref q_25, .ref q_27, .null])), (q_1, .inl (cA_2, 6, .inl (fun _ => 0))), (q_3, .inl (cA_4, 6, .inl (fun _ => 0))), (q_5, .inl (cA_6, 36, .inl (fun _ => 0))), (q_7, .inl (cA_8, 36, .inr (.inl (fun _ => 0)))), (q_9, .inl (cA_10, 36, .inl (fun _ => 0))), (q_11, .inl (cA_12, 36, .inl (fun _ => 0))), (q_13, .inl (cA_14, 288, .inr (.inl (fun _ => 0)))), (q_15, .inl (cA_16, 288, .inr (.inl (fun _ => 0)))), (q_17, .inl (cA_18, 288, .inl (fun _ => 0))), (q_19, .inl (cA_20, 288, .inr (.inl (fun _ => 0)))), (q_21, .inl (cA_22, 262, .inl (fun _ => 0))), (q_23, .inl (cA_24, 262, .inl (fun _ => 0))), (q_25, .inl (cA_26, 262, .inl (fun _ => 0))), (q_27, .inl (cA_28, 262, .inr (.inl (fun _ => 0)))), (q_29, .inl (cA_30, 262, .inl (fun _ => 0)))] H := hP
  have hD : va_D A [(h0, .inr (5, [.int 0, .int 0, .ref q_1, .ref q_3, .ref q_5, .ref q_7, .ref q_9, .ref q_11, .ref q_13, .ref q_15, .ref q_17, .ref q_19, .ref q_21, .ref q_23, .ref q_25, .ref q_27, .null])), (q_1, .inl (cA_2, 6, .inl (fun _ => 0))), (q_3, .inl (cA_4, 6, .inl (fun _ => 0))), (q_5, .inl (cA_6, 36, .inl (fun _ => 0))), (q_7, .inl (cA_8, 36, .inr (.inl (fun _ => 0)))), (q_9, .inl (cA_10, 36, .inl (fun _ => 0))), (q_11, .inl (cA_12, 36, .inl (fun _ => 0))), (q_13, .inl (cA_14, 288, .inr (.inl (fun _ => 0)))), (q_15, .inl (cA_16, 288, .inr (.inl (fun _ => 0)))), (q_17, .inl (cA_18, 288, .inl (fun _ => 0))), (q_19, .inl (cA_20, 288, .inr (.inl (fun _ => 0)))), (q_21, .inl (cA_22, 262, .inl (fun _ => 0))), (q_23, .inl (cA_24, 262, .inl (fun _ => 0))), (q_25, .inl (cA_26, 262, .inl (fun _ => 0))), (q_27, .inl (cA_28, 262, .inr (.inl (fun _ => 0)))), (q_29, .inl (cA_30, 262, .inl (fun _ => 0)))] := hD
  have hK : va_K (dC, dI) vwCl [(cA_2, .int), (cA_4, .int), (cA_6, .int), (cA_8, .long), (cA_10, .int), (cA_12, .int), (cA_14, .long), (cA_16, .long), (cA_18, .int), (cA_20, .long), (cA_22, .int), (cA_24, .int), (cA_26, .int), (cA_28, .long), (cA_30, .int)] s := hK
  refine W.widen (k := 15) (n := 2618) (Nat.le_of_ble_eq_true rfl) (Nat.le_of_ble_eq_true rfl) ?_
  refine va_putF (D := (dC, dI)) (ci := 5) (v := .ref q_29) (ty := .array .int) (C := RX5) (T := TX5) (N := 17) hx hb hts inlX5 tyX5 tyX5_ok nmX5 hown hK hP hD hS 0 rfl rfl 16 (by decide) (hts (.fieldLink RX5 62 "ShapeReader$Shapes" "askedPlaces" "[I") mw_15_3) (fun _ h9 => h9) rfl hin rfl (by decide +kernel) rfl rfl (Nat.le_of_ble_eq_true rfl) dX5_init_140 (fun H locs hP hD hS => ?_)
  have hP : va_P (dC, dI) vwCl [(h0, .inr (5, [.int 0, .int 0, .ref q_1, .ref q_3, .ref q_5, .ref q_7, .ref q_9, .ref q_11, .ref q_13, .ref q_15, .ref q_17, .ref q_19, .ref q_21, .ref q_23, .ref q_25, .ref q_27, .ref q_29])), (q_1, .inl (cA_2, 6, .inl (fun _ => 0))), (q_3, .inl (cA_4, 6, .inl (fun _ => 0))), (q_5, .inl (cA_6, 36, .inl (fun _ => 0))), (q_7, .inl (cA_8, 36, .inr (.inl (fun _ => 0)))), (q_9, .inl (cA_10, 36, .inl (fun _ => 0))), (q_11, .inl (cA_12, 36, .inl (fun _ => 0))), (q_13, .inl (cA_14, 288, .inr (.inl (fun _ => 0)))), (q_15, .inl (cA_16, 288, .inr (.inl (fun _ => 0)))), (q_17, .inl (cA_18, 288, .inl (fun _ => 0))), (q_19, .inl (cA_20, 288, .inr (.inl (fun _ => 0)))), (q_21, .inl (cA_22, 262, .inl (fun _ => 0))), (q_23, .inl (cA_24, 262, .inl (fun _ => 0))), (q_25, .inl (cA_26, 262, .inl (fun _ => 0))), (q_27, .inl (cA_28, 262, .inr (.inl (fun _ => 0)))), (q_29, .inl (cA_30, 262, .inl (fun _ => 0)))] H := hP
  have hD : va_D A [(h0, .inr (5, [.int 0, .int 0, .ref q_1, .ref q_3, .ref q_5, .ref q_7, .ref q_9, .ref q_11, .ref q_13, .ref q_15, .ref q_17, .ref q_19, .ref q_21, .ref q_23, .ref q_25, .ref q_27, .ref q_29])), (q_1, .inl (cA_2, 6, .inl (fun _ => 0))), (q_3, .inl (cA_4, 6, .inl (fun _ => 0))), (q_5, .inl (cA_6, 36, .inl (fun _ => 0))), (q_7, .inl (cA_8, 36, .inr (.inl (fun _ => 0)))), (q_9, .inl (cA_10, 36, .inl (fun _ => 0))), (q_11, .inl (cA_12, 36, .inl (fun _ => 0))), (q_13, .inl (cA_14, 288, .inr (.inl (fun _ => 0)))), (q_15, .inl (cA_16, 288, .inr (.inl (fun _ => 0)))), (q_17, .inl (cA_18, 288, .inl (fun _ => 0))), (q_19, .inl (cA_20, 288, .inr (.inl (fun _ => 0)))), (q_21, .inl (cA_22, 262, .inl (fun _ => 0))), (q_23, .inl (cA_24, 262, .inl (fun _ => 0))), (q_25, .inl (cA_26, 262, .inl (fun _ => 0))), (q_27, .inl (cA_28, 262, .inr (.inl (fun _ => 0)))), (q_29, .inl (cA_30, 262, .inl (fun _ => 0)))] := hD
  have hP9 := hP.sub (ws' := [(h0, .inr (5, [.int 0, .int 0, .ref q_1, .ref q_3, .ref q_5, .ref q_7, .ref q_9, .ref q_11, .ref q_13, .ref q_15, .ref q_17, .ref q_19, .ref q_21, .ref q_23, .ref q_25, .ref q_27, .ref q_29])), (q_1, .inl (cA_2, 6, .inl (fun _ => 0))), (q_3, .inl (cA_4, 6, .inl (fun _ => 0))), (q_5, .inl (cA_6, 36, .inl (fun _ => 0))), (q_7, .inl (cA_8, 36, .inr (.inl (fun _ => 0)))), (q_9, .inl (cA_10, 36, .inl (fun _ => 0))), (q_11, .inl (cA_12, 36, .inl (fun _ => 0))), (q_13, .inl (cA_14, 288, .inr (.inl (fun _ => 0)))), (q_15, .inl (cA_16, 288, .inr (.inl (fun _ => 0)))), (q_17, .inl (cA_18, 288, .inl (fun _ => 0))), (q_19, .inl (cA_20, 288, .inr (.inl (fun _ => 0)))), (q_21, .inl (cA_22, 262, .inl (fun _ => 0))), (q_23, .inl (cA_24, 262, .inl (fun _ => 0))), (q_25, .inl (cA_26, 262, .inl (fun _ => 0))), (q_27, .inl (cA_28, 262, .inr (.inl (fun _ => 0)))), (q_29, .inl (cA_30, 262, .inl (fun _ => 0)))]) [0, 1, 2, 3, 4, 5, 6, 7, 8, 9, 10, 11, 12, 13, 14, 15] rfl
  have hD9 := hD.sub (ws' := [(h0, .inr (5, [.int 0, .int 0, .ref q_1, .ref q_3, .ref q_5, .ref q_7, .ref q_9, .ref q_11, .ref q_13, .ref q_15, .ref q_17, .ref q_19, .ref q_21, .ref q_23, .ref q_25, .ref q_27, .ref q_29])), (q_1, .inl (cA_2, 6, .inl (fun _ => 0))), (q_3, .inl (cA_4, 6, .inl (fun _ => 0))), (q_5, .inl (cA_6, 36, .inl (fun _ => 0))), (q_7, .inl (cA_8, 36, .inr (.inl (fun _ => 0)))), (q_9, .inl (cA_10, 36, .inl (fun _ => 0))), (q_11, .inl (cA_12, 36, .inl (fun _ => 0))), (q_13, .inl (cA_14, 288, .inr (.inl (fun _ => 0)))), (q_15, .inl (cA_16, 288, .inr (.inl (fun _ => 0)))), (q_17, .inl (cA_18, 288, .inl (fun _ => 0))), (q_19, .inl (cA_20, 288, .inr (.inl (fun _ => 0)))), (q_21, .inl (cA_22, 262, .inl (fun _ => 0))), (q_23, .inl (cA_24, 262, .inl (fun _ => 0))), (q_25, .inl (cA_26, 262, .inl (fun _ => 0))), (q_27, .inl (cA_28, 262, .inr (.inl (fun _ => 0)))), (q_29, .inl (cA_30, 262, .inl (fun _ => 0)))]) [0, 1, 2, 3, 4, 5, 6, 7, 8, 9, 10, 11, 12, 13, 14, 15] (by decide) rfl
  have hK9 := hK.sub (tys' := [(cA_2, .int), (cA_4, .int), (cA_6, .int), (cA_8, .long), (cA_10, .int), (cA_12, .int), (cA_14, .long), (cA_16, .long), (cA_18, .int), (cA_20, .long), (cA_22, .int), (cA_24, .int), (cA_26, .int), (cA_28, .long), (cA_30, .int)]) [0, 1, 2, 3, 4, 5, 6, 7, 8, 9, 10, 11, 12, 13, 14] rfl
  refine W.widen (k := 15) (n := 2618) (Nat.le_of_ble_eq_true rfl) (Nat.le_of_ble_eq_true rfl) ?_
  exact W.vret hx hb hr (fun t ht hW => ⟨⟨(), rfl, trivial, q_1, cA_2, q_3, cA_4, q_5, cA_6, q_7, cA_8, q_9, cA_10, q_11, cA_12, q_13, cA_14, q_15, cA_16, q_17, cA_18, q_19, cA_20, q_21, cA_22, q_23, cA_24, q_25, cA_26, q_27, cA_28, q_29, cA_30, by rw [ht]; exact hP9, va_K.moved hW.alike hK9, hD9⟩, hS.F ht⟩) hS.2.2 dX5_init_143

set_option maxRecDepth 100000 in
set_option maxHeartbeats 4000000 in
theorem c_j9 (l : Launch) (dC : Nat → ClassId) (dI : Nat → Nat → Nat) (h0 : Nat) (sz : Nat) : Met l yX9_init (.code yX9_init cX9_init 1 none :: pw) ({ frames := 1, cells := 1, slots := 4, locals := 12 }) (va_Pc [.ref h0] (vPre dC dI [(h0, .inr (9, [.null, .int 0, .int 0, .int 0]))] [] sz)) (va_Qv (fun (_ : Unit) => True) (fun (_ : Unit) t => ∃ (e1 : Nat), ∃ (k1 : ClassId), vPst dC dI (va_A [(h0, .inr (9, [.null, .int 0, .int 0, .int 0]))] sz) [(h0, .inr (9, [.ref e1, .int 0, .int 0, .int 0])), (e1, .inl (k1, 4, .inl (fun _ => 0)))] [(k1, .int)] t) (va_A [(h0, .inr (9, [.null, .int 0, .int 0, .int 0]))] sz)) 1 4 (va_A [(h0, .inr (9, [.null, .int 0, .int 0, .int 0]))] sz) := by
  refine Met.ofW (cc := cX9_init) (maxL := 1) (ret := none) (by decide) rfl ?_
  intro p e s m args below meth c s₁ B hml hv
  obtain ⟨rfl, hsz, hP, hK, hD0, hN⟩ := hv
  have hx := B.exec
  have hb := B.bytes
  have hr := B.returns
  have hts := atoms_spec (ws := .code yX9_init cX9_init 1 none :: pw) B.pre
  have hts : ∀ w ∈ pw, w.before _ s = true := fun w h => hts w (List.mem_cons_of_mem _ h)
  have hown : s.vm.findClass RX9 = some m.cls := findClass_of_methodNamed B.named
  have hlocks := B.notSynchronized
  have hin : meth.name = "<init>" := (name_of_methodNamed B.named B.method).1
  subst hsz
  have hD := hD0.self (sz := s.heap.size)
  generalize hAe : va_A [(h0, .inr (9, [.null, .int 0, .int 0, .int 0]))] s.heap.size = A at hD ⊢
  have hA : ∀ q : Nat, s.heap.size ≤ q → A q := fun q h => by rw [← hAe]; exact Or.inr h
  have hS : va_S A s.heap s.heap [] := va_S.rf
  have hP : va_P (dC, dI) vwCl [(h0, .inr (9, [.null, .int 0, .int 0, .int 0]))] s.heap := hP
  have hl := lv_entry ([.ref h0]) (n := 1) (Nat.le_of_ble_eq_true rfl)
  rw [lg_entry_eq]
  generalize (lg_sl ([.ref h0]) ++ List.replicate (1 - (lg_sl ([.ref h0])).length) Slot.unset).toArray = ls at hl ⊢
  have hl : lv_has ls 1 [(0, .ref h0)] := hl
  refine lv_aload_n hx hb dX9_init_0 rfl (lv_at hl 0 rfl) ?_
  refine W.objInit hx hb hown (hts (.methodLink RX9 3 objectInit) mw_20_10) (hts (.instanceMethod objectInit) mw_0_17) (hts (.code objectInit ⟨#[0xb1]⟩ 1 none) mw_47_1) rfl (by rw [hml]; exact hl.1) rfl dX9_init_1 (Nat.le_of_ble_eq_true rfl) (Nat.le_of_ble_eq_true rfl) ?_
  refine W.eq (g2 := F0 m 4 ls []) rfl ?_
  refine lv_aload_n hx hb dX9_init_4 rfl (lv_at hl 0 rfl) ?_
  refine lv_iconst (v := 4) hx hb dX9_init_5 (by decide) ?_
  refine va_newa (atype := .int) hx hb (hts (.arrayClass .int) mw_0_1) (ty := .int) rfl hK hP hD hS hA (n := 4) (N' := 4) (a0 := (4, .inl (fun _ => 0))) (fun _ => rfl) (by decide) (by decide) (Nat.le_of_ble_eq_true rfl) (Nat.le_of_ble_eq_true rfl) (Nat.le_of_ble_eq_true rfl) dX9_init_6 (fun q_1 cA_2 H hK hP hD hS => ?_)
  have hP : va_P (dC, dI) vwCl [(h0, .inr (9, [.null, .int 0, .int 0, .int 0])), (q_1, .inl (cA_2, 4, .inl (fun _ => 0)))] H := hP
  have hD : va_D A [(h0, .inr (9, [.null, .int 0, .int 0, .int 0])), (q_1, .inl (cA_2, 4, .inl (fun _ => 0)))] := hD
  have hK : va_K (dC, dI) vwCl [(cA_2, .int)] s := hK
  refine W.widen (k := 1) (n := 4) (Nat.le_of_ble_eq_true rfl) (Nat.le_of_ble_eq_true rfl) ?_
  refine va_putF (D := (dC, dI)) (ci := 9) (v := .ref q_1) (ty := .array .int) (C := RX9) (T := TX9) (N := 4) hx hb hts inlX9 tyX9 tyX9_ok nmX9 hown hK hP hD hS 0 rfl rfl 0 (by decide) (hts (.fieldLink RX9 11 "ShapeReader$Ways" "pairs" "[I") mw_20_11) (fun _ h9 => h9) rfl hin rfl (by decide +kernel) rfl rfl (Nat.le_of_ble_eq_true rfl) dX9_init_8 (fun H locs hP hD hS => ?_)
  have hP : va_P (dC, dI) vwCl [(h0, .inr (9, [.ref q_1, .int 0, .int 0, .int 0])), (q_1, .inl (cA_2, 4, .inl (fun _ => 0)))] H := hP
  have hD : va_D A [(h0, .inr (9, [.ref q_1, .int 0, .int 0, .int 0])), (q_1, .inl (cA_2, 4, .inl (fun _ => 0)))] := hD
  refine lv_aload_n hx hb dX9_init_11 rfl (lv_at hl 0 rfl) ?_
  refine lv_iconst (v := 0) hx hb dX9_init_12 (by decide) ?_
  refine va_put (D := (dC, dI)) (ci := 9) (v := .int 0) (ty := .int) (C := RX9) (T := TX9) (N := 4) hx hb hts inlX9 tyX9 tyX9_ok nmX9 hown hK hP hD hS 0 rfl rfl 1 (by decide) (hts (.fieldLink RX9 15 "ShapeReader$Ways" "size" "I") mw_20_12) (fun _ h9 => h9) rfl (by decide +kernel) rfl rfl (Nat.le_of_ble_eq_true rfl) dX9_init_13 (fun H locs hP hD hS => ?_)
  have hP : va_P (dC, dI) vwCl [(h0, .inr (9, [.ref q_1, .int 0, .int 0, .int 0])), (q_1, .inl (cA_2, 4, .inl (fun _ => 0)))] H := hP
  have hD : va_D A [(h0, .inr (9, [.ref q_1, .int 0, .int 0, .int 0])), (q_1, .inl (cA_2, 4, .inl (fun _ => 0)))] := hD
  refine lv_aload_n hx hb dX9_init_16 rfl (lv_at hl 0 rfl) ?_
  refine lv_iconst (v := 0) hx hb dX9_init_17 (by decide) ?_
  refine va_put (D := (dC, dI)) (ci := 9) (v := .int 0) (ty := .int) (C := RX9) (T := TX9) (N := 4) hx hb hts inlX9 tyX9 tyX9_ok nmX9 hown hK hP hD hS 0 rfl rfl 2 (by decide) (hts (.fieldLink RX9 19 "ShapeReader$Ways" "found" "I") mw_20_13) (fun _ h9 => h9) rfl (by decide +kernel) rfl rfl (Nat.le_of_ble_eq_true rfl) dX9_init_18 (fun H locs hP hD hS => ?_)
  have hP : va_P (dC, dI) vwCl [(h0, .inr (9, [.ref q_1, .int 0, .int 0, .int 0])), (q_1, .inl (cA_2, 4, .inl (fun _ => 0)))] H := hP
  have hD : va_D A [(h0, .inr (9, [.ref q_1, .int 0, .int 0, .int 0])), (q_1, .inl (cA_2, 4, .inl (fun _ => 0)))] := hD
  refine lv_aload_n hx hb dX9_init_21 rfl (lv_at hl 0 rfl) ?_
  refine lv_iconst (v := 0) hx hb dX9_init_22 (by decide) ?_
  refine va_put (D := (dC, dI)) (ci := 9) (v := .int 0) (ty := .int) (C := RX9) (T := TX9) (N := 4) hx hb hts inlX9 tyX9 tyX9_ok nmX9 hown hK hP hD hS 0 rfl rfl 3 (by decide) (hts (.fieldLink RX9 22 "ShapeReader$Ways" "notFound" "I") mw_20_14) (fun _ h9 => h9) rfl (by decide +kernel) rfl rfl (Nat.le_of_ble_eq_true rfl) dX9_init_23 (fun H locs hP hD hS => ?_)
  have hP : va_P (dC, dI) vwCl [(h0, .inr (9, [.ref q_1, .int 0, .int 0, .int 0])), (q_1, .inl (cA_2, 4, .inl (fun _ => 0)))] H := hP
  have hD : va_D A [(h0, .inr (9, [.ref q_1, .int 0, .int 0, .int 0])), (q_1, .inl (cA_2, 4, .inl (fun _ => 0)))] := hD
  have hP9 := hP.sub (ws' := [(h0, .inr (9, [.ref q_1, .int 0, .int 0, .int 0])), (q_1, .inl (cA_2, 4, .inl (fun _ => 0)))]) [0, 1] rfl
  have hD9 := hD.sub (ws' := [(h0, .inr (9, [.ref q_1, .int 0, .int 0, .int 0])), (q_1, .inl (cA_2, 4, .inl (fun _ => 0)))]) [0, 1] (by decide) rfl
  have hK9 := hK.sub (tys' := [(cA_2, .int)]) [0] rfl
  refine W.widen (k := 1) (n := 4) (Nat.le_of_ble_eq_true rfl) (Nat.le_of_ble_eq_true rfl) ?_
  exact W.vret hx hb hr (fun t ht hW => ⟨⟨(), rfl, trivial, q_1, cA_2, by rw [ht]; exact hP9, va_K.moved hW.alike hK9, hD9⟩, hS.F ht⟩) hS.2.2 dX9_init_26

set_option maxRecDepth 100000 in
set_option maxHeartbeats 4000000 in
theorem c_j3 (l : Launch) (dC : Nat → ClassId) (dI : Nat → Nat → Nat) (h0 : Nat) (a1 : Nat) (b1 : Nat) (sz : Nat) : Met l yX3_init (.code yX3_init cX3_init 3 none :: pw) ({ frames := 1, cells := 0, slots := 0, locals := 12 }) (va_Pc [.ref h0, .ref a1, .ref b1] (vPre dC dI [(h0, .inr (3, [.null, .null]))] [] sz)) (va_Qv (fun (_ : Unit) => True) (fun (_ : Unit) t => vPst dC dI (va_A [(h0, .inr (3, [.null, .null]))] sz) [(h0, .inr (3, [.ref a1, .ref b1]))] [] t) (va_A [(h0, .inr (3, [.null, .null]))] sz)) 0 0 (va_A [(h0, .inr (3, [.null, .null]))] sz) := by
  refine Met.ofW (cc := cX3_init) (maxL := 3) (ret := none) (by decide) rfl ?_
  intro p e s m args below meth c s₁ B hml hv
  obtain ⟨rfl, hsz, hP, hK, hD0, hN⟩ := hv
  have hx := B.exec
  have hb := B.bytes
  have hr := B.returns
  have hts := atoms_spec (ws := .code yX3_init cX3_init 3 none :: pw) B.pre
  have hts : ∀ w ∈ pw, w.before _ s = true := fun w h => hts w (List.mem_cons_of_mem _ h)
  have hown : s.vm.findClass RX3 = some m.cls := findClass_of_methodNamed B.named
  have hlocks := B.notSynchronized
  have hin : meth.name = "<init>" := (name_of_methodNamed B.named B.method).1
  subst hsz
  have hD := hD0.self (sz := s.heap.size)
  generalize hAe : va_A [(h0, .inr (3, [.null, .null]))] s.heap.size = A at hD ⊢
  have hA : ∀ q : Nat, s.heap.size ≤ q → A q := fun q h => by rw [← hAe]; exact Or.inr h
  have hS : va_S A s.heap s.heap [] := va_S.rf
  have hP : va_P (dC, dI) vwCl [(h0, .inr (3, [.null, .null]))] s.heap := hP
  have hl := lv_entry ([.ref h0, .ref a1, .ref b1]) (n := 3) (Nat.le_of_ble_eq_true rfl)
  rw [lg_entry_eq]
  generalize (lg_sl ([.ref h0, .ref a1, .ref b1]) ++ List.replicate (3 - (lg_sl ([.ref h0, .ref a1, .ref b1])).length) Slot.unset).toArray = ls at hl ⊢
  have hl : lv_has ls 3 [(0, .ref h0), (1, .ref a1), (2, .ref b1)] := hl
  refine lv_aload_n hx hb dX3_init_0 rfl (lv_at hl 0 rfl) ?_
  refine W.objInit hx hb hown (hts (.methodLink RX3 3 objectInit) mw_7_0) (hts (.instanceMethod objectInit) mw_0_17) (hts (.code objectInit ⟨#[0xb1]⟩ 1 none) mw_47_1) rfl (by rw [hml]; exact hl.1) rfl dX3_init_1 (Nat.le_of_ble_eq_true rfl) (Nat.le_of_ble_eq_true rfl) ?_
  refine W.eq (g2 := F0 m 4 ls []) rfl ?_
  refine lv_aload_n hx hb dX3_init_4 rfl (lv_at hl 0 rfl) ?_
  refine lv_aload_n hx hb dX3_init_5 rfl (lv_at hl 1 rfl) ?_
  refine va_putF (D := (dC, dI)) (ci := 3) (v := .ref a1) (ty := .object "ShapeReader$Tokens") (C := RX3) (T := TX3) (N := 2) hx hb hts inlX3 tyX3 tyX3_ok nmX3 hown hK hP hD hS 0 rfl rfl 0 (by decide) (hts (.fieldLink RX3 9 "ShapeReader$PlanText" "tokens" "LShapeReader$Tokens;") mw_7_1) (fun _ h9 => h9) rfl hin rfl (by decide +kernel) rfl rfl (Nat.le_of_ble_eq_true rfl) dX3_init_6 (fun H locs hP hD hS => ?_)
  have hP : va_P (dC, dI) vwCl [(h0, .inr (3, [.ref a1, .null]))] H := hP
  have hD : va_D A [(h0, .inr (3, [.ref a1, .null]))] := hD
  refine lv_aload_n hx hb dX3_init_9 rfl (lv_at hl 0 rfl) ?_
  refine lv_aload_n hx hb dX3_init_10 rfl (lv_at hl 2 rfl) ?_
  refine va_putF (D := (dC, dI)) (ci := 3) (v := .ref b1) (ty := .object "ShapeReader$Shapes") (C := RX3) (T := TX3) (N := 2) hx hb hts inlX3 tyX3 tyX3_ok nmX3 hown hK hP hD hS 0 rfl rfl 1 (by decide) (hts (.fieldLink RX3 15 "ShapeReader$PlanText" "draft" "LShapeReader$Shapes;") mw_7_2) (fun _ h9 => h9) rfl hin rfl (by decide +kernel) rfl rfl (Nat.le_of_ble_eq_true rfl) dX3_init_11 (fun H locs hP hD hS => ?_)
  have hP : va_P (dC, dI) vwCl [(h0, .inr (3, [.ref a1, .ref b1]))] H := hP
  have hD : va_D A [(h0, .inr (3, [.ref a1, .ref b1]))] := hD
  have hP9 := hP.sub (ws' := [(h0, .inr (3, [.ref a1, .ref b1]))]) [0] rfl
  have hD9 := hD.sub (ws' := [(h0, .inr (3, [.ref a1, .ref b1]))]) [0] (by decide) rfl
  have hK9 := hK.sub (tys' := []) [] rfl
  refine W.widen (k := 0) (n := 0) (Nat.le_of_ble_eq_true rfl) (Nat.le_of_ble_eq_true rfl) ?_
  exact W.vret hx hb hr (fun t ht hW => ⟨⟨(), rfl, trivial, by rw [ht]; exact hP9, va_K.moved hW.alike hK9, hD9⟩, hS.F ht⟩) hS.2.2 dX3_init_14

set_option maxRecDepth 100000 in
set_option maxHeartbeats 4000000 in
theorem c_j8 (l : Launch) (dC : Nat → ClassId) (dI : Nat → Nat → Nat) (h0 : Nat) (a1 : Nat) (b1 : Nat) (c1 : Nat) (sz : Nat) : Met l yX8_init (.code yX8_init cX8_init 4 none :: pw) ({ frames := 1, cells := 0, slots := 0, locals := 12 }) (va_Pc [.ref h0, .ref a1, .ref b1, .ref c1] (vPre dC dI [(h0, .inr (8, [.null, .null, .null]))] [] sz)) (va_Qv (fun (_ : Unit) => True) (fun (_ : Unit) t => vPst dC dI (va_A [(h0, .inr (8, [.null, .null, .null]))] sz) [(h0, .inr (8, [.ref a1, .ref b1, .ref c1]))] [] t) (va_A [(h0, .inr (8, [.null, .null, .null]))] sz)) 0 0 (va_A [(h0, .inr (8, [.null, .null, .null]))] sz) := by
  refine Met.ofW (cc := cX8_init) (maxL := 4) (ret := none) (by decide) rfl ?_
  intro p e s m args below meth c s₁ B hml hv
  obtain ⟨rfl, hsz, hP, hK, hD0, hN⟩ := hv
  have hx := B.exec
  have hb := B.bytes
  have hr := B.returns
  have hts := atoms_spec (ws := .code yX8_init cX8_init 4 none :: pw) B.pre
  have hts : ∀ w ∈ pw, w.before _ s = true := fun w h => hts w (List.mem_cons_of_mem _ h)
  have hown : s.vm.findClass RX8 = some m.cls := findClass_of_methodNamed B.named
  have hlocks := B.notSynchronized
  have hin : meth.name = "<init>" := (name_of_methodNamed B.named B.method).1
  subst hsz
  have hD := hD0.self (sz := s.heap.size)
  generalize hAe : va_A [(h0, .inr (8, [.null, .null, .null]))] s.heap.size = A at hD ⊢
  have hA : ∀ q : Nat, s.heap.size ≤ q → A q := fun q h => by rw [← hAe]; exact Or.inr h
  have hS : va_S A s.heap s.heap [] := va_S.rf
  have hP : va_P (dC, dI) vwCl [(h0, .inr (8, [.null, .null, .null]))] s.heap := hP
  have hl := lv_entry ([.ref h0, .ref a1, .ref b1, .ref c1]) (n := 4) (Nat.le_of_ble_eq_true rfl)
  rw [lg_entry_eq]
  generalize (lg_sl ([.ref h0, .ref a1, .ref b1, .ref c1]) ++ List.replicate (4 - (lg_sl ([.ref h0, .ref a1, .ref b1, .ref c1])).length) Slot.unset).toArray = ls at hl ⊢
  have hl : lv_has ls 4 [(0, .ref h0), (1, .ref a1), (2, .ref b1), (3, .ref c1)] := hl
  refine lv_aload_n hx hb dX8_init_0 rfl (lv_at hl 0 rfl) ?_
  refine W.objInit hx hb hown (hts (.methodLink RX8 3 objectInit) mw_19_4) (hts (.instanceMethod objectInit) mw_0_17) (hts (.code objectInit ⟨#[0xb1]⟩ 1 none) mw_47_1) rfl (by rw [hml]; exact hl.1) rfl dX8_init_1 (Nat.le_of_ble_eq_true rfl) (Nat.le_of_ble_eq_true rfl) ?_
  refine W.eq (g2 := F0 m 4 ls []) rfl ?_
  refine lv_aload_n hx hb dX8_init_4 rfl (lv_at hl 0 rfl) ?_
  refine lv_aload_n hx hb dX8_init_5 rfl (lv_at hl 1 rfl) ?_
  refine va_putF (D := (dC, dI)) (ci := 8) (v := .ref a1) (ty := .object "ShapeReader$Tokens") (C := RX8) (T := TX8) (N := 3) hx hb hts inlX8 tyX8 tyX8_ok nmX8 hown hK hP hD hS 0 rfl rfl 0 (by decide) (hts (.fieldLink RX8 9 "ShapeReader$ValueText" "tokens" "LShapeReader$Tokens;") mw_19_5) (fun _ h9 => h9) rfl hin rfl (by decide +kernel) rfl rfl (Nat.le_of_ble_eq_true rfl) dX8_init_6 (fun H locs hP hD hS => ?_)
  have hP : va_P (dC, dI) vwCl [(h0, .inr (8, [.ref a1, .null, .null]))] H := hP
  have hD : va_D A [(h0, .inr (8, [.ref a1, .null, .null]))] := hD
  refine lv_aload_n hx hb dX8_init_9 rfl (lv_at hl 0 rfl) ?_
  refine lv_aload_n hx hb dX8_init_10 rfl (lv_at hl 2 rfl) ?_
  refine va_putF (D := (dC, dI)) (ci := 8) (v := .ref b1) (ty := .object "ShapeReader$Shapes") (C := RX8) (T := TX8) (N := 3) hx hb hts inlX8 tyX8 tyX8_ok nmX8 hown hK hP hD hS 0 rfl rfl 1 (by decide) (hts (.fieldLink RX8 15 "ShapeReader$ValueText" "shapes" "LShapeReader$Shapes;") mw_19_6) (fun _ h9 => h9) rfl hin rfl (by decide +kernel) rfl rfl (Nat.le_of_ble_eq_true rfl) dX8_init_11 (fun H locs hP hD hS => ?_)
  have hP : va_P (dC, dI) vwCl [(h0, .inr (8, [.ref a1, .ref b1, .null]))] H := hP
  have hD : va_D A [(h0, .inr (8, [.ref a1, .ref b1, .null]))] := hD
  refine lv_aload_n hx hb dX8_init_14 rfl (lv_at hl 0 rfl) ?_
  refine lv_aload_n hx hb dX8_init_15 rfl (lv_at hl 3 rfl) ?_
  refine va_putF (D := (dC, dI)) (ci := 8) (v := .ref c1) (ty := .object "ShapeReader$Tree") (C := RX8) (T := TX8) (N := 3) hx hb hts inlX8 tyX8 tyX8_ok nmX8 hown hK hP hD hS 0 rfl rfl 2 (by decide) (hts (.fieldLink RX8 19 "ShapeReader$ValueText" "tree" "LShapeReader$Tree;") mw_19_7) (fun _ h9 => h9) rfl hin rfl (by decide +kernel) rfl rfl (Nat.le_of_ble_eq_true rfl) dX8_init_16 (fun H locs hP hD hS => ?_)
  have hP : va_P (dC, dI) vwCl [(h0, .inr (8, [.ref a1, .ref b1, .ref c1]))] H := hP
  have hD : va_D A [(h0, .inr (8, [.ref a1, .ref b1, .ref c1]))] := hD
  have hP9 := hP.sub (ws' := [(h0, .inr (8, [.ref a1, .ref b1, .ref c1]))]) [0] rfl
  have hD9 := hD.sub (ws' := [(h0, .inr (8, [.ref a1, .ref b1, .ref c1]))]) [0] (by decide) rfl
  have hK9 := hK.sub (tys' := []) [] rfl
  refine W.widen (k := 0) (n := 0) (Nat.le_of_ble_eq_true rfl) (Nat.le_of_ble_eq_true rfl) ?_
  exact W.vret hx hb hr (fun t ht hW => ⟨⟨(), rfl, trivial, by rw [ht]; exact hP9, va_K.moved hW.alike hK9, hD9⟩, hS.F ht⟩) hS.2.2 dX8_init_19

set_option maxRecDepth 100000 in
set_option maxHeartbeats 4000000 in
theorem c_j2 (l : Launch) (dC : Nat → ClassId) (dI : Nat → Nat → Nat) (h0 : Nat) (a1 : Nat) (sz : Nat) : Met l yX2_init (.code yX2_init cX2_init 2 none :: pw) ({ frames := 1, cells := 1, slots := 400, locals := 12 }) (va_Pc [.ref h0, .ref a1] (vPre dC dI [(h0, .inr (2, [.null, .null, .int 0]))] [] sz)) (va_Qv (fun (_ : Unit) => True) (fun (_ : Unit) t => ∃ (e1 : Nat), ∃ (k1 : ClassId), vPst dC dI (va_A [(h0, .inr (2, [.null, .null, .int 0]))] sz) [(h0, .inr (2, [.ref a1, .ref e1, .int 0])), (e1, .inl (k1, 400, .inl (fun _ => 0)))] [(k1, .byte)] t) (va_A [(h0, .inr (2, [.null, .null, .int 0]))] sz)) 1 400 (va_A [(h0, .inr (2, [.null, .null, .int 0]))] sz) := by
  refine Met.ofW (cc := cX2_init) (maxL := 2) (ret := none) (by decide) rfl ?_
  intro p e s m args below meth c s₁ B hml hv
  obtain ⟨rfl, hsz, hP, hK, hD0, hN⟩ := hv
  have hx := B.exec
  have hb := B.bytes
  have hr := B.returns
  have hts := atoms_spec (ws := .code yX2_init cX2_init 2 none :: pw) B.pre
  have hts : ∀ w ∈ pw, w.before _ s = true := fun w h => hts w (List.mem_cons_of_mem _ h)
  have hown : s.vm.findClass RX2 = some m.cls := findClass_of_methodNamed B.named
  have hlocks := B.notSynchronized
  have hin : meth.name = "<init>" := (name_of_methodNamed B.named B.method).1
  subst hsz
  have hD := hD0.self (sz := s.heap.size)
  generalize hAe : va_A [(h0, .inr (2, [.null, .null, .int 0]))] s.heap.size = A at hD ⊢
  have hA : ∀ q : Nat, s.heap.size ≤ q → A q := fun q h => by rw [← hAe]; exact Or.inr h
  have hS : va_S A s.heap s.heap [] := va_S.rf
  have hP : va_P (dC, dI) vwCl [(h0, .inr (2, [.null, .null, .int 0]))] s.heap := hP
  have hl := lv_entry ([.ref h0, .ref a1]) (n := 2) (Nat.le_of_ble_eq_true rfl)
  rw [lg_entry_eq]
  generalize (lg_sl ([.ref h0, .ref a1]) ++ List.replicate (2 - (lg_sl ([.ref h0, .ref a1])).length) Slot.unset).toArray = ls at hl ⊢
  have hl : lv_has ls 2 [(0, .ref h0), (1, .ref a1)] := hl
  refine lv_aload_n hx hb dX2_init_0 rfl (lv_at hl 0 rfl) ?_
  refine W.objInit hx hb hown (hts (.methodLink RX2 3 objectInit) mw_4_29) (hts (.instanceMethod objectInit) mw_0_17) (hts (.code objectInit ⟨#[0xb1]⟩ 1 none) mw_47_1) rfl (by rw [hml]; exact hl.1) rfl dX2_init_1 (Nat.le_of_ble_eq_true rfl) (Nat.le_of_ble_eq_true rfl) ?_
  refine W.eq (g2 := F0 m 4 ls []) rfl ?_
  refine lv_aload_n hx hb dX2_init_4 rfl (lv_at hl 0 rfl) ?_
  refine lv_sipush (v := 400) hx hb dX2_init_5 (by decide) ?_
  refine va_newa (atype := .byte) hx hb (hts (.arrayClass .byte) mw_0_0) (ty := .byte) rfl hK hP hD hS hA (n := 400) (N' := 400) (a0 := (400, .inl (fun _ => 0))) (fun _ => rfl) (by decide) (by decide) (Nat.le_of_ble_eq_true rfl) (Nat.le_of_ble_eq_true rfl) (Nat.le_of_ble_eq_true rfl) dX2_init_8 (fun q_1 cA_2 H hK hP hD hS => ?_)
  have hP : va_P (dC, dI) vwCl [(h0, .inr (2, [.null, .null, .int 0])), (q_1, .inl (cA_2, 400, .inl (fun _ => 0)))] H := hP
  have hD : va_D A [(h0, .inr (2, [.null, .null, .int 0])), (q_1, .inl (cA_2, 400, .inl (fun _ => 0)))] := hD
  have hK : va_K (dC, dI) vwCl [(cA_2, .byte)] s := hK
  refine W.widen (k := 1) (n := 400) (Nat.le_of_ble_eq_true rfl) (Nat.le_of_ble_eq_true rfl) ?_
  refine va_putF (D := (dC, dI)) (ci := 2) (v := .ref q_1) (ty := .array .byte) (C := RX2) (T := TX2) (N := 3) hx hb hts inlX2 tyX2 tyX2_ok nmX2 hown hK hP hD hS 0 rfl rfl 1 (by decide) (hts (.fieldLink RX2 9 "ShapeReader$Packer" "bytes" "[B") mw_5_0) (fun _ h9 => h9) rfl hin rfl (by decide +kernel) rfl rfl (Nat.le_of_ble_eq_true rfl) dX2_init_10 (fun H locs hP hD hS => ?_)
  have hP : va_P (dC, dI) vwCl [(h0, .inr (2, [.null, .ref q_1, .int 0])), (q_1, .inl (cA_2, 400, .inl (fun _ => 0)))] H := hP
  have hD : va_D A [(h0, .inr (2, [.null, .ref q_1, .int 0])), (q_1, .inl (cA_2, 400, .inl (fun _ => 0)))] := hD
  refine lv_aload_n hx hb dX2_init_13 rfl (lv_at hl 0 rfl) ?_
  refine lv_iconst (v := 0) hx hb dX2_init_14 (by decide) ?_
  refine va_put (D := (dC, dI)) (ci := 2) (v := .int 0) (ty := .int) (C := RX2) (T := TX2) (N := 3) hx hb hts inlX2 tyX2 tyX2_ok nmX2 hown hK hP hD hS 0 rfl rfl 2 (by decide) (hts (.fieldLink RX2 15 "ShapeReader$Packer" "size" "I") mw_5_1) (fun _ h9 => h9) rfl (by decide +kernel) rfl rfl (Nat.le_of_ble_eq_true rfl) dX2_init_15 (fun H locs hP hD hS => ?_)
  have hP : va_P (dC, dI) vwCl [(h0, .inr (2, [.null, .ref q_1, .int 0])), (q_1, .inl (cA_2, 400, .inl (fun _ => 0)))] H := hP
  have hD : va_D A [(h0, .inr (2, [.null, .ref q_1, .int 0])), (q_1, .inl (cA_2, 400, .inl (fun _ => 0)))] := hD
  refine lv_aload_n hx hb dX2_init_18 rfl (lv_at hl 0 rfl) ?_
  refine lv_aload_n hx hb dX2_init_19 rfl (lv_at hl 1 rfl) ?_
  refine va_putF (D := (dC, dI)) (ci := 2) (v := .ref a1) (ty := .object "ShapeReader$Shapes") (C := RX2) (T := TX2) (N := 3) hx hb hts inlX2 tyX2 tyX2_ok nmX2 hown hK hP hD hS 0 rfl rfl 0 (by decide) (hts (.fieldLink RX2 19 "ShapeReader$Packer" "shapes" "LShapeReader$Shapes;") mw_5_2) (fun _ h9 => h9) rfl hin rfl (by decide +kernel) rfl rfl (Nat.le_of_ble_eq_true rfl) dX2_init_20 (fun H locs hP hD hS => ?_)
  have hP : va_P (dC, dI) vwCl [(h0, .inr (2, [.ref a1, .ref q_1, .int 0])), (q_1, .inl (cA_2, 400, .inl (fun _ => 0)))] H := hP
  have hD : va_D A [(h0, .inr (2, [.ref a1, .ref q_1, .int 0])), (q_1, .inl (cA_2, 400, .inl (fun _ => 0)))] := hD
  have hP9 := hP.sub (ws' := [(h0, .inr (2, [.ref a1, .ref q_1, .int 0])), (q_1, .inl (cA_2, 400, .inl (fun _ => 0)))]) [0, 1] rfl
  have hD9 := hD.sub (ws' := [(h0, .inr (2, [.ref a1, .ref q_1, .int 0])), (q_1, .inl (cA_2, 400, .inl (fun _ => 0)))]) [0, 1] (by decide) rfl
  have hK9 := hK.sub (tys' := [(cA_2, .byte)]) [0] rfl
  refine W.widen (k := 1) (n := 400) (Nat.le_of_ble_eq_true rfl) (Nat.le_of_ble_eq_true rfl) ?_
  exact W.vret hx hb hr (fun t ht hW => ⟨⟨(), rfl, trivial, q_1, cA_2, by rw [ht]; exact hP9, va_K.moved hW.alike hK9, hD9⟩, hS.F ht⟩) hS.2.2 dX2_init_23

set_option maxRecDepth 100000 in
set_option maxHeartbeats 4000000 in
theorem c_j4 (l : Launch) (dC : Nat → ClassId) (dI : Nat → Nat → Nat) (h0 : Nat) (a1 : Nat) (b1 : Nat) (c1 : Nat) (d1 : Nat) (sz : Nat) : Met l yX4_init (.code yX4_init cX4_init 5 none :: pw) ({ frames := 1, cells := 2, slots := 320, locals := 12 }) (va_Pc [.ref h0, .ref a1, .ref b1, .ref c1, .ref d1] (vPre dC dI [(h0, .inr (4, [.null, .null, .null, .null, .int 0, .int 0, .int 0, .int 0, .int 0, .null, .int 0, .null]))] [] sz)) (va_Qv (fun (_ : Unit) => True) (fun (_ : Unit) t => ∃ (e1 : Nat), ∃ (k1 : ClassId), ∃ (e2 : Nat), ∃ (k2 : ClassId), vPst dC dI (va_A [(h0, .inr (4, [.null, .null, .null, .null, .int 0, .int 0, .int 0, .int 0, .int 0, .null, .int 0, .null]))] sz) [(h0, .inr (4, [.ref a1, .ref b1, .ref c1, .ref d1, .int 0, .int 0, .int 0, .int 0, .int (-1), .ref e1, .int 0, .ref e2])), (e1, .inl (k1, 64, .inl (fun _ => 0))), (e2, .inl (k2, 256, .inl (fun _ => 0)))] [(k1, .int), (k2, .int)] t) (va_A [(h0, .inr (4, [.null, .null, .null, .null, .int 0, .int 0, .int 0, .int 0, .int 0, .null, .int 0, .null]))] sz)) 2 320 (va_A [(h0, .inr (4, [.null, .null, .null, .null, .int 0, .int 0, .int 0, .int 0, .int 0, .null, .int 0, .null]))] sz) := by
  refine Met.ofW (cc := cX4_init) (maxL := 5) (ret := none) (by decide) rfl ?_
  intro p e s m args below meth c s₁ B hml hv
  obtain ⟨rfl, hsz, hP, hK, hD0, hN⟩ := hv
  have hx := B.exec
  have hb := B.bytes
  have hr := B.returns
  have hts := atoms_spec (ws := .code yX4_init cX4_init 5 none :: pw) B.pre
  have hts : ∀ w ∈ pw, w.before _ s = true := fun w h => hts w (List.mem_cons_of_mem _ h)
  have hown : s.vm.findClass RX4 = some m.cls := findClass_of_methodNamed B.named
  have hlocks := B.notSynchronized
  have hin : meth.name = "<init>" := (name_of_methodNamed B.named B.method).1
  subst hsz
  have hD := hD0.self (sz := s.heap.size)
  generalize hAe : va_A [(h0, .inr (4, [.null, .null, .null, .null, .int 0, .int 0, .int 0, .int 0, .int 0, .null, .int 0, .null]))] s.heap.size = A at hD ⊢
  have hA : ∀ q : Nat, s.heap.size ≤ q → A q := fun q h => by rw [← hAe]; exact Or.inr h
  have hS : va_S A s.heap s.heap [] := va_S.rf
  have hP : va_P (dC, dI) vwCl [(h0, .inr (4, [.null, .null, .null, .null, .int 0, .int 0, .int 0, .int 0, .int 0, .null, .int 0, .null]))] s.heap := hP
  have hl := lv_entry ([.ref h0, .ref a1, .ref b1, .ref c1, .ref d1]) (n := 5) (Nat.le_of_ble_eq_true rfl)
  rw [lg_entry_eq]
  generalize (lg_sl ([.ref h0, .ref a1, .ref b1, .ref c1, .ref d1]) ++ List.replicate (5 - (lg_sl ([.ref h0, .ref a1, .ref b1, .ref c1, .ref d1])).length) Slot.unset).toArray = ls at hl ⊢
  have hl : lv_has ls 5 [(0, .ref h0), (1, .ref a1), (2, .ref b1), (3, .ref c1), (4, .ref d1)] := hl
  refine lv_aload_n hx hb dX4_init_0 rfl (lv_at hl 0 rfl) ?_
  refine W.objInit hx hb hown (hts (.methodLink RX4 3 objectInit) mw_10_19) (hts (.instanceMethod objectInit) mw_0_17) (hts (.code objectInit ⟨#[0xb1]⟩ 1 none) mw_47_1) rfl (by rw [hml]; exact hl.1) rfl dX4_init_1 (Nat.le_of_ble_eq_true rfl) (Nat.le_of_ble_eq_true rfl) ?_
  refine W.eq (g2 := F0 m 4 ls []) rfl ?_
  refine lv_aload_n hx hb dX4_init_4 rfl (lv_at hl 0 rfl) ?_
  refine lv_iconst (v := 0) hx hb dX4_init_5 (by decide) ?_
  refine va_put (D := (dC, dI)) (ci := 4) (v := .int 0) (ty := .int) (C := RX4) (T := TX4) (N := 12) hx hb hts inlX4 tyX4 tyX4_ok nmX4 hown hK hP hD hS 0 rfl rfl 4 (by decide) (hts (.fieldLink RX4 9 "ShapeReader$Reading" "message" "I") mw_10_20) (fun _ h9 => h9) rfl (by decide +kernel) rfl rfl (Nat.le_of_ble_eq_true rfl) dX4_init_6 (fun H locs hP hD hS => ?_)
  have hP : va_P (dC, dI) vwCl [(h0, .inr (4, [.null, .null, .null, .null, .int 0, .int 0, .int 0, .int 0, .int 0, .null, .int 0, .null]))] H := hP
  have hD : va_D A [(h0, .inr (4, [.null, .null, .null, .null, .int 0, .int 0, .int 0, .int 0, .int 0, .null, .int 0, .null]))] := hD
  refine lv_aload_n hx hb dX4_init_9 rfl (lv_at hl 0 rfl) ?_
  refine lv_iconst (v := 0) hx hb dX4_init_10 (by decide) ?_
  refine va_put (D := (dC, dI)) (ci := 4) (v := .int 0) (ty := .int) (C := RX4) (T := TX4) (N := 12) hx hb hts inlX4 tyX4 tyX4_ok nmX4 hown hK hP hD hS 0 rfl rfl 5 (by decide) (hts (.fieldLink RX4 15 "ShapeReader$Reading" "next" "I") mw_10_21) (fun _ h9 => h9) rfl (by decide +kernel) rfl rfl (Nat.le_of_ble_eq_true rfl) dX4_init_11 (fun H locs hP hD hS => ?_)
  have hP : va_P (dC, dI) vwCl [(h0, .inr (4, [.null, .null, .null, .null, .int 0, .int 0, .int 0, .int 0, .int 0, .null, .int 0, .null]))] H := hP
  have hD : va_D A [(h0, .inr (4, [.null, .null, .null, .null, .int 0, .int 0, .int 0, .int 0, .int 0, .null, .int 0, .null]))] := hD
  refine lv_aload_n hx hb dX4_init_14 rfl (lv_at hl 0 rfl) ?_
  refine lv_iconst (v := 0) hx hb dX4_init_15 (by decide) ?_
  refine va_put (D := (dC, dI)) (ci := 4) (v := .int 0) (ty := .int) (C := RX4) (T := TX4) (N := 12) hx hb hts inlX4 tyX4 tyX4_ok nmX4 hown hK hP hD hS 0 rfl rfl 6 (by decide) (hts (.fieldLink RX4 18 "ShapeReader$Reading" "end" "I") mw_10_22) (fun _ h9 => h9) rfl (by decide +kernel) rfl rfl (Nat.le_of_ble_eq_true rfl) dX4_init_16 (fun H locs hP hD hS => ?_)
  have hP : va_P (dC, dI) vwCl [(h0, .inr (4, [.null, .null, .null, .null, .int 0, .int 0, .int 0, .int 0, .int 0, .null, .int 0, .null]))] H := hP
  have hD : va_D A [(h0, .inr (4, [.null, .null, .null, .null, .int 0, .int 0, .int 0, .int 0, .int 0, .null, .int 0, .null]))] := hD
  refine lv_aload_n hx hb dX4_init_19 rfl (lv_at hl 0 rfl) ?_
  refine lv_iconst (v := 0) hx hb dX4_init_20 (by decide) ?_
  refine va_put (D := (dC, dI)) (ci := 4) (v := .int 0) (ty := .int) (C := RX4) (T := TX4) (N := 12) hx hb hts inlX4 tyX4 tyX4_ok nmX4 hown hK hP hD hS 0 rfl rfl 7 (by decide) (hts (.fieldLink RX4 21 "ShapeReader$Reading" "failure" "I") mw_10_23) (fun _ h9 => h9) rfl (by decide +kernel) rfl rfl (Nat.le_of_ble_eq_true rfl) dX4_init_21 (fun H locs hP hD hS => ?_)
  have hP : va_P (dC, dI) vwCl [(h0, .inr (4, [.null, .null, .null, .null, .int 0, .int 0, .int 0, .int 0, .int 0, .null, .int 0, .null]))] H := hP
  have hD : va_D A [(h0, .inr (4, [.null, .null, .null, .null, .int 0, .int 0, .int 0, .int 0, .int 0, .null, .int 0, .null]))] := hD
  refine lv_aload_n hx hb dX4_init_24 rfl (lv_at hl 0 rfl) ?_
  refine lv_iconst (v := (-1)) hx hb dX4_init_25 (by decide) ?_
  refine va_put (D := (dC, dI)) (ci := 4) (v := .int (-1)) (ty := .int) (C := RX4) (T := TX4) (N := 12) hx hb hts inlX4 tyX4 tyX4_ok nmX4 hown hK hP hD hS 0 rfl rfl 8 (by decide) (hts (.fieldLink RX4 24 "ShapeReader$Reading" "failedAt" "I") mw_10_24) (fun _ h9 => h9) rfl (by decide +kernel) rfl rfl (Nat.le_of_ble_eq_true rfl) dX4_init_26 (fun H locs hP hD hS => ?_)
  have hP : va_P (dC, dI) vwCl [(h0, .inr (4, [.null, .null, .null, .null, .int 0, .int 0, .int 0, .int 0, .int (-1), .null, .int 0, .null]))] H := hP
  have hD : va_D A [(h0, .inr (4, [.null, .null, .null, .null, .int 0, .int 0, .int 0, .int 0, .int (-1), .null, .int 0, .null]))] := hD
  refine lv_aload_n hx hb dX4_init_29 rfl (lv_at hl 0 rfl) ?_
  refine lv_bipush (v := 64) hx hb dX4_init_30 (by decide) ?_
  refine va_newa (atype := .int) hx hb (hts (.arrayClass .int) mw_0_1) (ty := .int) rfl hK hP hD hS hA (n := 64) (N' := 64) (a0 := (64, .inl (fun _ => 0))) (fun _ => rfl) (by decide) (by decide) (Nat.le_of_ble_eq_true rfl) (Nat.le_of_ble_eq_true rfl) (Nat.le_of_ble_eq_true rfl) dX4_init_32 (fun q_1 cA_2 H hK hP hD hS => ?_)
  have hP : va_P (dC, dI) vwCl [(h0, .inr (4, [.null, .null, .null, .null, .int 0, .int 0, .int 0, .int 0, .int (-1), .null, .int 0, .null])), (q_1, .inl (cA_2, 64, .inl (fun _ => 0)))] H := hP
  have hD : va_D A [(h0, .inr (4, [.null, .null, .null, .null, .int 0, .int 0, .int 0, .int 0, .int (-1), .null, .int 0, .null])), (q_1, .inl (cA_2, 64, .inl (fun _ => 0)))] := hD
  have hK : va_K (dC, dI) vwCl [(cA_2, .int)] s := hK
  refine W.widen (k := 1) (n := 64) (Nat.le_of_ble_eq_true rfl) (Nat.le_of_ble_eq_true rfl) ?_
  refine va_putF (D := (dC, dI)) (ci := 4) (v := .ref q_1) (ty := .array .int) (C := RX4) (T := TX4) (N := 12) hx hb hts inlX4 tyX4 tyX4_ok nmX4 hown hK hP hD hS 0 rfl rfl 9 (by decide) (hts (.fieldLink RX4 27 "ShapeReader$Reading" "path" "[I") mw_10_25) (fun _ h9 => h9) rfl hin rfl (by decide +kernel) rfl rfl (Nat.le_of_ble_eq_true rfl) dX4_init_34 (fun H locs hP hD hS => ?_)
  have hP : va_P (dC, dI) vwCl [(h0, .inr (4, [.null, .null, .null, .null, .int 0, .int 0, .int 0, .int 0, .int (-1), .ref q_1, .int 0, .null])), (q_1, .inl (cA_2, 64, .inl (fun _ => 0)))] H := hP
  have hD : va_D A [(h0, .inr (4, [.null, .null, .null, .null, .int 0, .int 0, .int 0, .int 0, .int (-1), .ref q_1, .int 0, .null])), (q_1, .inl (cA_2, 64, .inl (fun _ => 0)))] := hD
  refine lv_aload_n hx hb dX4_init_37 rfl (lv_at hl 0 rfl) ?_
  refine lv_iconst (v := 0) hx hb dX4_init_38 (by decide) ?_
  refine va_put (D := (dC, dI)) (ci := 4) (v := .int 0) (ty := .int) (C := RX4) (T := TX4) (N := 12) hx hb hts inlX4 tyX4 tyX4_ok nmX4 hown hK hP hD hS 0 rfl rfl 10 (by decide) (hts (.fieldLink RX4 31 "ShapeReader$Reading" "steps" "I") mw_10_26) (fun _ h9 => h9) rfl (by decide +kernel) rfl rfl (Nat.le_of_ble_eq_true rfl) dX4_init_39 (fun H locs hP hD hS => ?_)
  have hP : va_P (dC, dI) vwCl [(h0, .inr (4, [.null, .null, .null, .null, .int 0, .int 0, .int 0, .int 0, .int (-1), .ref q_1, .int 0, .null])), (q_1, .inl (cA_2, 64, .inl (fun _ => 0)))] H := hP
  have hD : va_D A [(h0, .inr (4, [.null, .null, .null, .null, .int 0, .int 0, .int 0, .int 0, .int (-1), .ref q_1, .int 0, .null])), (q_1, .inl (cA_2, 64, .inl (fun _ => 0)))] := hD
  refine lv_aload_n hx hb dX4_init_42 rfl (lv_at hl 0 rfl) ?_
  refine lv_sipush (v := 256) hx hb dX4_init_43 (by decide) ?_
  refine va_newa (atype := .int) hx hb (hts (.arrayClass .int) mw_0_1) (ty := .int) rfl hK hP hD hS hA (n := 256) (N' := 256) (a0 := (256, .inl (fun _ => 0))) (fun _ => rfl) (by decide) (by decide) (Nat.le_of_ble_eq_true rfl) (Nat.le_of_ble_eq_true rfl) (Nat.le_of_ble_eq_true rfl) dX4_init_46 (fun q_3 cA_4 H hK hP hD hS => ?_)
  have hP : va_P (dC, dI) vwCl [(h0, .inr (4, [.null, .null, .null, .null, .int 0, .int 0, .int 0, .int 0, .int (-1), .ref q_1, .int 0, .null])), (q_1, .inl (cA_2, 64, .inl (fun _ => 0))), (q_3, .inl (cA_4, 256, .inl (fun _ => 0)))] H := hP
  have hD : va_D A [(h0, .inr (4, [.null, .null, .null, .null, .int 0, .int 0, .int 0, .int 0, .int (-1), .ref q_1, .int 0, .null])), (q_1, .inl (cA_2, 64, .inl (fun _ => 0))), (q_3, .inl (cA_4, 256, .inl (fun _ => 0)))] := hD
  have hK : va_K (dC, dI) vwCl [(cA_2, .int), (cA_4, .int)] s := hK
  refine W.widen (k := 2) (n := 320) (Nat.le_of_ble_eq_true rfl) (Nat.le_of_ble_eq_true rfl) ?_
  refine va_putF (D := (dC, dI)) (ci := 4) (v := .ref q_3) (ty := .array .int) (C := RX4) (T := TX4) (N := 12) hx hb hts inlX4 tyX4 tyX4_ok nmX4 hown hK hP hD hS 0 rfl rfl 11 (by decide) (hts (.fieldLink RX4 34 "ShapeReader$Reading" "sources" "[I") mw_10_27) (fun _ h9 => h9) rfl hin rfl (by decide +kernel) rfl rfl (Nat.le_of_ble_eq_true rfl) dX4_init_48 (fun H locs hP hD hS => ?_)
  have hP : va_P (dC, dI) vwCl [(h0, .inr (4, [.null, .null, .null, .null, .int 0, .int 0, .int 0, .int 0, .int (-1), .ref q_1, .int 0, .ref q_3])), (q_1, .inl (cA_2, 64, .inl (fun _ => 0))), (q_3, .inl (cA_4, 256, .inl (fun _ => 0)))] H := hP
  have hD : va_D A [(h0, .inr (4, [.null, .null, .null, .null, .int 0, .int 0, .int 0, .int 0, .int (-1), .ref q_1, .int 0, .ref q_3])), (q_1, .inl (cA_2, 64, .inl (fun _ => 0))), (q_3, .inl (cA_4, 256, .inl (fun _ => 0)))] := hD
  refine lv_aload_n hx hb dX4_init_51 rfl (lv_at hl 0 rfl) ?_
  refine lv_aload_n hx hb dX4_init_52 rfl (lv_at hl 1 rfl) ?_
  refine va_putF (D := (dC, dI)) (ci := 4) (v := .ref a1) (ty := .object "ShapeReader$Shapes") (C := RX4) (T := TX4) (N := 12) hx hb hts inlX4 tyX4 tyX4_ok nmX4 hown hK hP hD hS 0 rfl rfl 0 (by decide) (hts (.fieldLink RX4 37 "ShapeReader$Reading" "shapes" "LShapeReader$Shapes;") mw_10_28) (fun _ h9 => h9) rfl hin rfl (by decide +kernel) rfl rfl (Nat.le_of_ble_eq_true rfl) dX4_init_53 (fun H locs hP hD hS => ?_)
  have hP : va_P (dC, dI) vwCl [(h0, .inr (4, [.ref a1, .null, .null, .null, .int 0, .int 0, .int 0, .int 0, .int (-1), .ref q_1, .int 0, .ref q_3])), (q_1, .inl (cA_2, 64, .inl (fun _ => 0))), (q_3, .inl (cA_4, 256, .inl (fun _ => 0)))] H := hP
  have hD : va_D A [(h0, .inr (4, [.ref a1, .null, .null, .null, .int 0, .int 0, .int 0, .int 0, .int (-1), .ref q_1, .int 0, .ref q_3])), (q_1, .inl (cA_2, 64, .inl (fun _ => 0))), (q_3, .inl (cA_4, 256, .inl (fun _ => 0)))] := hD
  refine lv_aload_n hx hb dX4_init_56 rfl (lv_at hl 0 rfl) ?_
  refine lv_aload_n hx hb dX4_init_57 rfl (lv_at hl 2 rfl) ?_
  refine va_putF (D := (dC, dI)) (ci := 4) (v := .ref b1) (ty := .object "ShapeReader$Messages") (C := RX4) (T := TX4) (N := 12) hx hb hts inlX4 tyX4 tyX4_ok nmX4 hown hK hP hD hS 0 rfl rfl 1 (by decide) (hts (.fieldLink RX4 41 "ShapeReader$Reading" "messages" "LShapeReader$Messages;") mw_10_29) (fun _ h9 => h9) rfl hin rfl (by decide +kernel) rfl rfl (Nat.le_of_ble_eq_true rfl) dX4_init_58 (fun H locs hP hD hS => ?_)
  have hP : va_P (dC, dI) vwCl [(h0, .inr (4, [.ref a1, .ref b1, .null, .null, .int 0, .int 0, .int 0, .int 0, .int (-1), .ref q_1, .int 0, .ref q_3])), (q_1, .inl (cA_2, 64, .inl (fun _ => 0))), (q_3, .inl (cA_4, 256, .inl (fun _ => 0)))] H := hP
  have hD : va_D A [(h0, .inr (4, [.ref a1, .ref b1, .null, .null, .int 0, .int 0, .int 0, .int 0, .int (-1), .ref q_1, .int 0, .ref q_3])), (q_1, .inl (cA_2, 64, .inl (fun _ => 0))), (q_3, .inl (cA_4, 256, .inl (fun _ => 0)))] := hD
  refine lv_aload_n hx hb dX4_init_61 rfl (lv_at hl 0 rfl) ?_
  refine lv_aload_n hx hb dX4_init_62 rfl (lv_at hl 3 rfl) ?_
  refine va_putF (D := (dC, dI)) (ci := 4) (v := .ref c1) (ty := .object "ShapeReader$Matcher") (C := RX4) (T := TX4) (N := 12) hx hb hts inlX4 tyX4 tyX4_ok nmX4 hown hK hP hD hS 0 rfl rfl 2 (by decide) (hts (.fieldLink RX4 45 "ShapeReader$Reading" "matcher" "LShapeReader$Matcher;") mw_11_0) (fun _ h9 => h9) rfl hin rfl (by decide +kernel) rfl rfl (Nat.le_of_ble_eq_true rfl) dX4_init_63 (fun H locs hP hD hS => ?_)
  have hP : va_P (dC, dI) vwCl [(h0, .inr (4, [.ref a1, .ref b1, .ref c1, .null, .int 0, .int 0, .int 0, .int 0, .int (-1), .ref q_1, .int 0, .ref q_3])), (q_1, .inl (cA_2, 64, .inl (fun _ => 0))), (q_3, .inl (cA_4, 256, .inl (fun _ => 0)))] H := hP
  have hD : va_D A [(h0, .inr (4, [.ref a1, .ref b1, .ref c1, .null, .int 0, .int 0, .int 0, .int 0, .int (-1), .ref q_1, .int 0, .ref q_3])), (q_1, .inl (cA_2, 64, .inl (fun _ => 0))), (q_3, .inl (cA_4, 256, .inl (fun _ => 0)))] := hD
  refine lv_aload_n hx hb dX4_init_66 rfl (lv_at hl 0 rfl) ?_
  refine lv_aload hx hb dX4_init_67 (lv_at hl 4 rfl) ?_
  refine va_put (D := (dC, dI)) (ci := 4) (v := .ref d1) (ty := .object "ShapeReader$Tree") (C := RX4) (T := TX4) (N := 12) hx hb hts inlX4 tyX4 tyX4_ok nmX4 hown hK hP hD hS 0 rfl rfl 3 (by decide) (hts (.fieldLink RX4 49 "ShapeReader$Reading" "tree" "LShapeReader$Tree;") mw_11_1) (fun _ h9 => h9) rfl (by decide +kernel) rfl rfl (Nat.le_of_ble_eq_true rfl) dX4_init_69 (fun H locs hP hD hS => ?_)
  have hP : va_P (dC, dI) vwCl [(h0, .inr (4, [.ref a1, .ref b1, .ref c1, .ref d1, .int 0, .int 0, .int 0, .int 0, .int (-1), .ref q_1, .int 0, .ref q_3])), (q_1, .inl (cA_2, 64, .inl (fun _ => 0))), (q_3, .inl (cA_4, 256, .inl (fun _ => 0)))] H := hP
  have hD : va_D A [(h0, .inr (4, [.ref a1, .ref b1, .ref c1, .ref d1, .int 0, .int 0, .int 0, .int 0, .int (-1), .ref q_1, .int 0, .ref q_3])), (q_1, .inl (cA_2, 64, .inl (fun _ => 0))), (q_3, .inl (cA_4, 256, .inl (fun _ => 0)))] := hD
  have hP9 := hP.sub (ws' := [(h0, .inr (4, [.ref a1, .ref b1, .ref c1, .ref d1, .int 0, .int 0, .int 0, .int 0, .int (-1), .ref q_1, .int 0, .ref q_3])), (q_1, .inl (cA_2, 64, .inl (fun _ => 0))), (q_3, .inl (cA_4, 256, .inl (fun _ => 0)))]) [0, 1, 2] rfl
  have hD9 := hD.sub (ws' := [(h0, .inr (4, [.ref a1, .ref b1, .ref c1, .ref d1, .int 0, .int 0, .int 0, .int 0, .int (-1), .ref q_1, .int 0, .ref q_3])), (q_1, .inl (cA_2, 64, .inl (fun _ => 0))), (q_3, .inl (cA_4, 256, .inl (fun _ => 0)))]) [0, 1, 2] (by decide) rfl
  have hK9 := hK.sub (tys' := [(cA_2, .int), (cA_4, .int)]) [0, 1] rfl
  refine W.widen (k := 2) (n := 320) (Nat.le_of_ble_eq_true rfl) (Nat.le_of_ble_eq_true rfl) ?_
  exact W.vret hx hb hr (fun t ht hW => ⟨⟨(), rfl, trivial, q_1, cA_2, q_3, cA_4, by rw [ht]; exact hP9, va_K.moved hW.alike hK9, hD9⟩, hS.F ht⟩) hS.2.2 dX4_init_72

set_option maxRecDepth 100000 in
set_option maxHeartbeats 4000000 in
theorem c_j7a (l : Launch) (dC : Nat → ClassId) (dI : Nat → Nat → Nat) (h0 : Nat) (sz : Nat) : Met l yX7_init (.code yX7_init cX7_init 2 none :: pw) ({ frames := 1, cells := 11, slots := 4400, locals := 12 }) (va_Pc [.ref h0, .int 400] (vPre dC dI [(h0, .inr (7, [.int 0, .int 0, .null, .null, .null, .null, .null, .null, .null, .null, .null, .null, .null]))] [] sz)) (va_Qv (fun (_ : Unit) => True) (fun (_ : Unit) t => ∃ (e1 : Nat), ∃ (k1 : ClassId), ∃ (e2 : Nat), ∃ (k2 : ClassId), ∃ (e3 : Nat), ∃ (k3 : ClassId), ∃ (e4 : Nat), ∃ (k4 : ClassId), ∃ (e5 : Nat), ∃ (k5 : ClassId), ∃ (e6 : Nat), ∃ (k6 : ClassId), ∃ (e7 : Nat), ∃ (k7 : ClassId), ∃ (e8 : Nat), ∃ (k8 : ClassId), ∃ (e9 : Nat), ∃ (k9 : ClassId), ∃ (e10 : Nat), ∃ (k10 : ClassId), ∃ (e11 : Nat), ∃ (k11 : ClassId), vPst dC dI (va_A [(h0, .inr (7, [.int 0, .int 0, .null, .null, .null, .null, .null, .null, .null, .null, .null, .null, .null]))] sz) [(h0, .inr (7, [.int 400, .int 0, .ref e1, .ref e2, .ref e3, .ref e4, .ref e5, .ref e6, .ref e7, .ref e8, .ref e9, .ref e10, .ref e11])), (e1, .inl (k1, 400, .inl (fun _ => 0))), (e2, .inl (k2, 400, .inl (fun _ => 0))), (e3, .inl (k3, 400, .inl (fun _ => 0))), (e4, .inl (k4, 400, .inl (fun _ => 0))), (e5, .inl (k5, 400, .inl (fun _ => 0))), (e6, .inl (k6, 400, .inr (.inl (fun _ => 0)))), (e7, .inl (k7, 400, .inl (fun _ => 0))), (e8, .inl (k8, 400, .inl (fun _ => 0))), (e9, .inl (k9, 400, .inl (fun _ => 0))), (e10, .inl (k10, 400, .inl (fun _ => 0))), (e11, .inl (k11, 400, .inl (fun _ => 0)))] [(k1, .int), (k2, .int), (k3, .int), (k4, .int), (k5, .boolean), (k6, .long), (k7, .int), (k8, .int), (k9, .int), (k10, .int), (k11, .int)] t) (va_A [(h0, .inr (7, [.int 0, .int 0, .null, .null, .null, .null, .null, .null, .null, .null, .null, .null, .null]))] sz)) 11 4400 (va_A [(h0, .inr (7, [.int 0, .int 0, .null, .null, .null, .null, .null, .null, .null, .null, .null, .null, .null]))] sz) := by
  refine Met.ofW (cc := cX7_init) (maxL := 2) (ret := none) (by decide) rfl ?_
  intro p e s m args below meth c s₁ B hml hv
  obtain ⟨rfl, hsz, hP, hK, hD0, hN⟩ := hv
  have hx := B.exec
  have hb := B.bytes
  have hr := B.returns
  have hts := atoms_spec (ws := .code yX7_init cX7_init 2 none :: pw) B.pre
  have hts : ∀ w ∈ pw, w.before _ s = true := fun w h => hts w (List.mem_cons_of_mem _ h)
  have hown : s.vm.findClass RX7 = some m.cls := findClass_of_methodNamed B.named
  have hlocks := B.notSynchronized
  have hin : meth.name = "<init>" := (name_of_methodNamed B.named B.method).1
  subst hsz
  have hD := hD0.self (sz := s.heap.size)
  generalize hAe : va_A [(h0, .inr (7, [.int 0, .int 0, .null, .null, .null, .null, .null, .null, .null, .null, .null, .null, .null]))] s.heap.size = A at hD ⊢
  have hA : ∀ q : Nat, s.heap.size ≤ q → A q := fun q h => by rw [← hAe]; exact Or.inr h
  have hS : va_S A s.heap s.heap [] := va_S.rf
  have hP : va_P (dC, dI) vwCl [(h0, .inr (7, [.int 0, .int 0, .null, .null, .null, .null, .null, .null, .null, .null, .null, .null, .null]))] s.heap := hP
  have hl := lv_entry ([.ref h0, .int 400]) (n := 2) (Nat.le_of_ble_eq_true rfl)
  rw [lg_entry_eq]
  generalize (lg_sl ([.ref h0, .int 400]) ++ List.replicate (2 - (lg_sl ([.ref h0, .int 400])).length) Slot.unset).toArray = ls at hl ⊢
  have hl : lv_has ls 2 [(0, .ref h0), (1, .int 400)] := hl
  refine lv_aload_n hx hb dX7_init_0 rfl (lv_at hl 0 rfl) ?_
  refine W.objInit hx hb hown (hts (.methodLink RX7 3 objectInit) mw_18_0) (hts (.instanceMethod objectInit) mw_0_17) (hts (.code objectInit ⟨#[0xb1]⟩ 1 none) mw_47_1) rfl (by rw [hml]; exact hl.1) rfl dX7_init_1 (Nat.le_of_ble_eq_true rfl) (Nat.le_of_ble_eq_true rfl) ?_
  refine W.eq (g2 := F0 m 4 ls []) rfl ?_
  refine lv_aload_n hx hb dX7_init_4 rfl (lv_at hl 0 rfl) ?_
  refine lv_iconst (v := 0) hx hb dX7_init_5 (by decide) ?_
  refine va_put (D := (dC, dI)) (ci := 7) (v := .int 0) (ty := .int) (C := RX7) (T := TX7) (N := 13) hx hb hts inlX7 tyX7 tyX7_ok nmX7 hown hK hP hD hS 0 rfl rfl 1 (by decide) (hts (.fieldLink RX7 9 "ShapeReader$Tree" "size" "I") mw_18_1) (fun _ h9 => h9) rfl (by decide +kernel) rfl rfl (Nat.le_of_ble_eq_true rfl) dX7_init_6 (fun H locs hP hD hS => ?_)
  have hP : va_P (dC, dI) vwCl [(h0, .inr (7, [.int 0, .int 0, .null, .null, .null, .null, .null, .null, .null, .null, .null, .null, .null]))] H := hP
  have hD : va_D A [(h0, .inr (7, [.int 0, .int 0, .null, .null, .null, .null, .null, .null, .null, .null, .null, .null, .null]))] := hD
  refine lv_aload_n hx hb dX7_init_9 rfl (lv_at hl 0 rfl) ?_
  refine lv_iload_n hx hb dX7_init_10 rfl (lv_at hl 1 rfl) ?_
  refine va_putF (D := (dC, dI)) (ci := 7) (v := .int 400) (ty := .int) (C := RX7) (T := TX7) (N := 13) hx hb hts inlX7 tyX7 tyX7_ok nmX7 hown hK hP hD hS 0 rfl rfl 0 (by decide) (hts (.fieldLink RX7 15 "ShapeReader$Tree" "rows" "I") mw_18_2) (fun _ h9 => h9) rfl hin rfl (by decide +kernel) rfl rfl (Nat.le_of_ble_eq_true rfl) dX7_init_11 (fun H locs hP hD hS => ?_)
  have hP : va_P (dC, dI) vwCl [(h0, .inr (7, [.int 400, .int 0, .null, .null, .null, .null, .null, .null, .null, .null, .null, .null, .null]))] H := hP
  have hD : va_D A [(h0, .inr (7, [.int 400, .int 0, .null, .null, .null, .null, .null, .null, .null, .null, .null, .null, .null]))] := hD
  refine lv_aload_n hx hb dX7_init_14 rfl (lv_at hl 0 rfl) ?_
  refine lv_iload_n hx hb dX7_init_15 rfl (lv_at hl 1 rfl) ?_
  refine va_newa (atype := .int) hx hb (hts (.arrayClass .int) mw_0_1) (ty := .int) rfl hK hP hD hS hA (n := 400) (N' := 400) (a0 := (400, .inl (fun _ => 0))) (fun _ => rfl) (by decide) (by decide) (Nat.le_of_ble_eq_true rfl) (Nat.le_of_ble_eq_true rfl) (Nat.le_of_ble_eq_true rfl) dX7_init_16 (fun q_1 cA_2 H hK hP hD hS => ?_)
  have hP : va_P (dC, dI) vwCl [(h0, .inr (7, [.int 400, .int 0, .null, .null, .null, .null, .null, .null, .null, .null, .null, .null, .null])), (q_1, .inl (cA_2, 400, .inl (fun _ => 0)))] H := hP
  have hD : va_D A [(h0, .inr (7, [.int 400, .int 0, .null, .null, .null, .null, .null, .null, .null, .null, .null, .null, .null])), (q_1, .inl (cA_2, 400, .inl (fun _ => 0)))] := hD
  have hK : va_K (dC, dI) vwCl [(cA_2, .int)] s := hK
  refine W.widen (k := 1) (n := 400) (Nat.le_of_ble_eq_true rfl) (Nat.le_of_ble_eq_true rfl) ?_
  refine va_putF (D := (dC, dI)) (ci := 7) (v := .ref q_1) (ty := .array .int) (C := RX7) (T := TX7) (N := 13) hx hb hts inlX7 tyX7 tyX7_ok nmX7 hown hK hP hD hS 0 rfl rfl 2 (by decide) (hts (.fieldLink RX7 18 "ShapeReader$Tree" "sorts" "[I") mw_18_3) (fun _ h9 => h9) rfl hin rfl (by decide +kernel) rfl rfl (Nat.le_of_ble_eq_true rfl) dX7_init_18 (fun H locs hP hD hS => ?_)
  have hP : va_P (dC, dI) vwCl [(h0, .inr (7, [.int 400, .int 0, .ref q_1, .null, .null, .null, .null, .null, .null, .null, .null, .null, .null])), (q_1, .inl (cA_2, 400, .inl (fun _ => 0)))] H := hP
  have hD : va_D A [(h0, .inr (7, [.int 400, .int 0, .ref q_1, .null, .null, .null, .null, .null, .null, .null, .null, .null, .null])), (q_1, .inl (cA_2, 400, .inl (fun _ => 0)))] := hD
  refine lv_aload_n hx hb dX7_init_21 rfl (lv_at hl 0 rfl) ?_
  refine lv_iload_n hx hb dX7_init_22 rfl (lv_at hl 1 rfl) ?_
  refine va_newa (atype := .int) hx hb (hts (.arrayClass .int) mw_0_1) (ty := .int) rfl hK hP hD hS hA (n := 400) (N' := 400) (a0 := (400, .inl (fun _ => 0))) (fun _ => rfl) (by decide) (by decide) (Nat.le_of_ble_eq_true rfl) (Nat.le_of_ble_eq_true rfl) (Nat.le_of_ble_eq_true rfl) dX7_init_23 (fun q_3 cA_4 H hK hP hD hS => ?_)
  have hP : va_P (dC, dI) vwCl [(h0, .inr (7, [.int 400, .int 0, .ref q_1, .null, .null, .null, .null, .null, .null, .null, .null, .null, .null])), (q_1, .inl (cA_2, 400, .inl (fun _ => 0))), (q_3, .inl (cA_4, 400, .inl (fun _ => 0)))] H := hP
  have hD : va_D A [(h0, .inr (7, [.int 400, .int 0, .ref q_1, .null, .null, .null, .null, .null, .null, .null, .null, .null, .null])), (q_1, .inl (cA_2, 400, .inl (fun _ => 0))), (q_3, .inl (cA_4, 400, .inl (fun _ => 0)))] := hD
  have hK : va_K (dC, dI) vwCl [(cA_2, .int), (cA_4, .int)] s := hK
  refine W.widen (k := 2) (n := 800) (Nat.le_of_ble_eq_true rfl) (Nat.le_of_ble_eq_true rfl) ?_
  refine va_putF (D := (dC, dI)) (ci := 7) (v := .ref q_3) (ty := .array .int) (C := RX7) (T := TX7) (N := 13) hx hb hts inlX7 tyX7 tyX7_ok nmX7 hown hK hP hD hS 0 rfl rfl 3 (by decide) (hts (.fieldLink RX7 22 "ShapeReader$Tree" "parents" "[I") mw_18_4) (fun _ h9 => h9) rfl hin rfl (by decide +kernel) rfl rfl (Nat.le_of_ble_eq_true rfl) dX7_init_25 (fun H locs hP hD hS => ?_)
  have hP : va_P (dC, dI) vwCl [(h0, .inr (7, [.int 400, .int 0, .ref q_1, .ref q_3, .null, .null, .null, .null, .null, .null, .null, .null, .null])), (q_1, .inl (cA_2, 400, .inl (fun _ => 0))), (q_3, .inl (cA_4, 400, .inl (fun _ => 0)))] H := hP
  have hD : va_D A [(h0, .inr (7, [.int 400, .int 0, .ref q_1, .ref q_3, .null, .null, .null, .null, .null, .null, .null, .null, .null])), (q_1, .inl (cA_2, 400, .inl (fun _ => 0))), (q_3, .inl (cA_4, 400, .inl (fun _ => 0)))] := hD
  refine lv_aload_n hx hb dX7_init_28 rfl (lv_at hl 0 rfl) ?_
  refine lv_iload_n hx hb dX7_init_29 rfl (lv_at hl 1 rfl) ?_
  refine va_newa (atype := .int) hx hb (hts (.arrayClass .int) mw_0_1) (ty := .int) rfl hK hP hD hS hA (n := 400) (N' := 400) (a0 := (400, .inl (fun _ => 0))) (fun _ => rfl) (by decide) (by decide) (Nat.le_of_ble_eq_true rfl) (Nat.le_of_ble_eq_true rfl) (Nat.le_of_ble_eq_true rfl) dX7_init_30 (fun q_5 cA_6 H hK hP hD hS => ?_)
  have hP : va_P (dC, dI) vwCl [(h0, .inr (7, [.int 400, .int 0, .ref q_1, .ref q_3, .null, .null, .null, .null, .null, .null, .null, .null, .null])), (q_1, .inl (cA_2, 400, .inl (fun _ => 0))), (q_3, .inl (cA_4, 400, .inl (fun _ => 0))), (q_5, .inl (cA_6, 400, .inl (fun _ => 0)))] H := hP
  have hD : va_D A [(h0, .inr (7, [.int 400, .int 0, .ref q_1, .ref q_3, .null, .null, .null, .null, .null, .null, .null, .null, .null])), (q_1, .inl (cA_2, 400, .inl (fun _ => 0))), (q_3, .inl (cA_4, 400, .inl (fun _ => 0))), (q_5, .inl (cA_6, 400, .inl (fun _ => 0)))] := hD
  have hK : va_K (dC, dI) vwCl [(cA_2, .int), (cA_4, .int), (cA_6, .int)] s := hK
  refine W.widen (k := 3) (n := 1200) (Nat.le_of_ble_eq_true rfl) (Nat.le_of_ble_eq_true rfl) ?_
  refine va_putF (D := (dC, dI)) (ci := 7) (v := .ref q_5) (ty := .array .int) (C := RX7) (T := TX7) (N := 13) hx hb hts inlX7 tyX7 tyX7_ok nmX7 hown hK hP hD hS 0 rfl rfl 4 (by decide) (hts (.fieldLink RX7 25 "ShapeReader$Tree" "places" "[I") mw_18_5) (fun _ h9 => h9) rfl hin rfl (by decide +kernel) rfl rfl (Nat.le_of_ble_eq_true rfl) dX7_init_32 (fun H locs hP hD hS => ?_)
  have hP : va_P (dC, dI) vwCl [(h0, .inr (7, [.int 400, .int 0, .ref q_1, .ref q_3, .ref q_5, .null, .null, .null, .null, .null, .null, .null, .null])), (q_1, .inl (cA_2, 400, .inl (fun _ => 0))), (q_3, .inl (cA_4, 400, .inl (fun _ => 0))), (q_5, .inl (cA_6, 400, .inl (fun _ => 0)))] H := hP
  have hD : va_D A [(h0, .inr (7, [.int 400, .int 0, .ref q_1, .ref q_3, .ref q_5, .null, .null, .null, .null, .null, .null, .null, .null])), (q_1, .inl (cA_2, 400, .inl (fun _ => 0))), (q_3, .inl (cA_4, 400, .inl (fun _ => 0))), (q_5, .inl (cA_6, 400, .inl (fun _ => 0)))] := hD
  refine lv_aload_n hx hb dX7_init_35 rfl (lv_at hl 0 rfl) ?_
  refine lv_iload_n hx hb dX7_init_36 rfl (lv_at hl 1 rfl) ?_
  refine va_newa (atype := .int) hx hb (hts (.arrayClass .int) mw_0_1) (ty := .int) rfl hK hP hD hS hA (n := 400) (N' := 400) (a0 := (400, .inl (fun _ => 0))) (fun _ => rfl) (by decide) (by decide) (Nat.le_of_ble_eq_true rfl) (Nat.le_of_ble_eq_true rfl) (Nat.le_of_ble_eq_true rfl) dX7_init_37 (fun q_7 cA_8 H hK hP hD hS => ?_)
  have hP : va_P (dC, dI) vwCl [(h0, .inr (7, [.int 400, .int 0, .ref q_1, .ref q_3, .ref q_5, .null, .null, .null, .null, .null, .null, .null, .null])), (q_1, .inl (cA_2, 400, .inl (fun _ => 0))), (q_3, .inl (cA_4, 400, .inl (fun _ => 0))), (q_5, .inl (cA_6, 400, .inl (fun _ => 0))), (q_7, .inl (cA_8, 400, .inl (fun _ => 0)))] H := hP
  have hD : va_D A [(h0, .inr (7, [.int 400, .int 0, .ref q_1, .ref q_3, .ref q_5, .null, .null, .null, .null, .null, .null, .null, .null])), (q_1, .inl (cA_2, 400, .inl (fun _ => 0))), (q_3, .inl (cA_4, 400, .inl (fun _ => 0))), (q_5, .inl (cA_6, 400, .inl (fun _ => 0))), (q_7, .inl (cA_8, 400, .inl (fun _ => 0)))] := hD
  have hK : va_K (dC, dI) vwCl [(cA_2, .int), (cA_4, .int), (cA_6, .int), (cA_8, .int)] s := hK
  refine W.widen (k := 4) (n := 1600) (Nat.le_of_ble_eq_true rfl) (Nat.le_of_ble_eq_true rfl) ?_
  refine va_putF (D := (dC, dI)) (ci := 7) (v := .ref q_7) (ty := .array .int) (C := RX7) (T := TX7) (N := 13) hx hb hts inlX7 tyX7 tyX7_ok nmX7 hown hK hP hD hS 0 rfl rfl 5 (by decide) (hts (.fieldLink RX7 28 "ShapeReader$Tree" "sizes" "[I") mw_18_6) (fun _ h9 => h9) rfl hin rfl (by decide +kernel) rfl rfl (Nat.le_of_ble_eq_true rfl) dX7_init_39 (fun H locs hP hD hS => ?_)
  have hP : va_P (dC, dI) vwCl [(h0, .inr (7, [.int 400, .int 0, .ref q_1, .ref q_3, .ref q_5, .ref q_7, .null, .null, .null, .null, .null, .null, .null])), (q_1, .inl (cA_2, 400, .inl (fun _ => 0))), (q_3, .inl (cA_4, 400, .inl (fun _ => 0))), (q_5, .inl (cA_6, 400, .inl (fun _ => 0))), (q_7, .inl (cA_8, 400, .inl (fun _ => 0)))] H := hP
  have hD : va_D A [(h0, .inr (7, [.int 400, .int 0, .ref q_1, .ref q_3, .ref q_5, .ref q_7, .null, .null, .null, .null, .null, .null, .null])), (q_1, .inl (cA_2, 400, .inl (fun _ => 0))), (q_3, .inl (cA_4, 400, .inl (fun _ => 0))), (q_5, .inl (cA_6, 400, .inl (fun _ => 0))), (q_7, .inl (cA_8, 400, .inl (fun _ => 0)))] := hD
  refine lv_aload_n hx hb dX7_init_42 rfl (lv_at hl 0 rfl) ?_
  refine lv_iload_n hx hb dX7_init_43 rfl (lv_at hl 1 rfl) ?_
  refine va_newa (atype := .boolean) hx hb (hts (.arrayClass .boolean) mw_0_3) (ty := .boolean) rfl hK hP hD hS hA (n := 400) (N' := 400) (a0 := (400, .inl (fun _ => 0))) (fun _ => rfl) (by decide) (by decide) (Nat.le_of_ble_eq_true rfl) (Nat.le_of_ble_eq_true rfl) (Nat.le_of_ble_eq_true rfl) dX7_init_44 (fun q_9 cA_10 H hK hP hD hS => ?_)
  have hP : va_P (dC, dI) vwCl [(h0, .inr (7, [.int 400, .int 0, .ref q_1, .ref q_3, .ref q_5, .ref q_7, .null, .null, .null, .null, .null, .null, .null])), (q_1, .inl (cA_2, 400, .inl (fun _ => 0))), (q_3, .inl (cA_4, 400, .inl (fun _ => 0))), (q_5, .inl (cA_6, 400, .inl (fun _ => 0))), (q_7, .inl (cA_8, 400, .inl (fun _ => 0))), (q_9, .inl (cA_10, 400, .inl (fun _ => 0)))] H := hP
  have hD : va_D A [(h0, .inr (7, [.int 400, .int 0, .ref q_1, .ref q_3, .ref q_5, .ref q_7, .null, .null, .null, .null, .null, .null, .null])), (q_1, .inl (cA_2, 400, .inl (fun _ => 0))), (q_3, .inl (cA_4, 400, .inl (fun _ => 0))), (q_5, .inl (cA_6, 400, .inl (fun _ => 0))), (q_7, .inl (cA_8, 400, .inl (fun _ => 0))), (q_9, .inl (cA_10, 400, .inl (fun _ => 0)))] := hD
  have hK : va_K (dC, dI) vwCl [(cA_2, .int), (cA_4, .int), (cA_6, .int), (cA_8, .int), (cA_10, .boolean)] s := hK
  refine W.widen (k := 5) (n := 2000) (Nat.le_of_ble_eq_true rfl) (Nat.le_of_ble_eq_true rfl) ?_
  refine va_putF (D := (dC, dI)) (ci := 7) (v := .ref q_9) (ty := .array .boolean) (C := RX7) (T := TX7) (N := 13) hx hb hts inlX7 tyX7 tyX7_ok nmX7 hown hK hP hD hS 0 rfl rfl 6 (by decide) (hts (.fieldLink RX7 31 "ShapeReader$Tree" "filled" "[Z") mw_18_7) (fun _ h9 => h9) rfl hin rfl (by decide +kernel) rfl rfl (Nat.le_of_ble_eq_true rfl) dX7_init_46 (fun H locs hP hD hS => ?_)
  have hP : va_P (dC, dI) vwCl [(h0, .inr (7, [.int 400, .int 0, .ref q_1, .ref q_3, .ref q_5, .ref q_7, .ref q_9, .null, .null, .null, .null, .null, .null])), (q_1, .inl (cA_2, 400, .inl (fun _ => 0))), (q_3, .inl (cA_4, 400, .inl (fun _ => 0))), (q_5, .inl (cA_6, 400, .inl (fun _ => 0))), (q_7, .inl (cA_8, 400, .inl (fun _ => 0))), (q_9, .inl (cA_10, 400, .inl (fun _ => 0)))] H := hP
  have hD : va_D A [(h0, .inr (7, [.int 400, .int 0, .ref q_1, .ref q_3, .ref q_5, .ref q_7, .ref q_9, .null, .null, .null, .null, .null, .null])), (q_1, .inl (cA_2, 400, .inl (fun _ => 0))), (q_3, .inl (cA_4, 400, .inl (fun _ => 0))), (q_5, .inl (cA_6, 400, .inl (fun _ => 0))), (q_7, .inl (cA_8, 400, .inl (fun _ => 0))), (q_9, .inl (cA_10, 400, .inl (fun _ => 0)))] := hD
  refine lv_aload_n hx hb dX7_init_49 rfl (lv_at hl 0 rfl) ?_
  refine lv_iload_n hx hb dX7_init_50 rfl (lv_at hl 1 rfl) ?_
  refine va_newa (atype := .long) hx hb (hts (.arrayClass .long) mw_0_2) (ty := .long) rfl hK hP hD hS hA (n := 400) (N' := 400) (a0 := (400, .inr (.inl (fun _ => 0)))) (fun _ => rfl) (by decide) (by decide) (Nat.le_of_ble_eq_true rfl) (Nat.le_of_ble_eq_true rfl) (Nat.le_of_ble_eq_true rfl) dX7_init_51 (fun q_11 cA_12 H hK hP hD hS => ?_)
  have hP : va_P (dC, dI) vwCl [(h0, .inr (7, [.int 400, .int 0, .ref q_1, .ref q_3, .ref q_5, .ref q_7, .ref q_9, .null, .null, .null, .null, .null, .null])), (q_1, .inl (cA_2, 400, .inl (fun _ => 0))), (q_3, .inl (cA_4, 400, .inl (fun _ => 0))), (q_5, .inl (cA_6, 400, .inl (fun _ => 0))), (q_7, .inl (cA_8, 400, .inl (fun _ => 0))), (q_9, .inl (cA_10, 400, .inl (fun _ => 0))), (q_11, .inl (cA_12, 400, .inr (.inl (fun _ => 0))))] H := hP
  have hD : va_D A [(h0, .inr (7, [.int 400, .int 0, .ref q_1, .ref q_3, .ref q_5, .ref q_7, .ref q_9, .null, .null, .null, .null, .null, .null])), (q_1, .inl (cA_2, 400, .inl (fun _ => 0))), (q_3, .inl (cA_4, 400, .inl (fun _ => 0))), (q_5, .inl (cA_6, 400, .inl (fun _ => 0))), (q_7, .inl (cA_8, 400, .inl (fun _ => 0))), (q_9, .inl (cA_10, 400, .inl (fun _ => 0))), (q_11, .inl (cA_12, 400, .inr (.inl (fun _ => 0))))] := hD
  have hK : va_K (dC, dI) vwCl [(cA_2, .int), (cA_4, .int), (cA_6, .int), (cA_8, .int), (cA_10, .boolean), (cA_12, .long)] s := hK
  refine W.widen (k := 6) (n := 2400) (Nat.le_of_ble_eq_true rfl) (Nat.le_of_ble_eq_true rfl) ?_
  refine va_putF (D := (dC, dI)) (ci := 7) (v := .ref q_11) (ty := .array .long) (C := RX7) (T := TX7) (N := 13) hx hb hts inlX7 tyX7 tyX7_ok nmX7 hown hK hP hD hS 0 rfl rfl 7 (by decide) (hts (.fieldLink RX7 35 "ShapeReader$Tree" "worths" "[J") mw_18_8) (fun _ h9 => h9) rfl hin rfl (by decide +kernel) rfl rfl (Nat.le_of_ble_eq_true rfl) dX7_init_53 (fun H locs hP hD hS => ?_)
  have hP : va_P (dC, dI) vwCl [(h0, .inr (7, [.int 400, .int 0, .ref q_1, .ref q_3, .ref q_5, .ref q_7, .ref q_9, .ref q_11, .null, .null, .null, .null, .null])), (q_1, .inl (cA_2, 400, .inl (fun _ => 0))), (q_3, .inl (cA_4, 400, .inl (fun _ => 0))), (q_5, .inl (cA_6, 400, .inl (fun _ => 0))), (q_7, .inl (cA_8, 400, .inl (fun _ => 0))), (q_9, .inl (cA_10, 400, .inl (fun _ => 0))), (q_11, .inl (cA_12, 400, .inr (.inl (fun _ => 0))))] H := hP
  have hD : va_D A [(h0, .inr (7, [.int 400, .int 0, .ref q_1, .ref q_3, .ref q_5, .ref q_7, .ref q_9, .ref q_11, .null, .null, .null, .null, .null])), (q_1, .inl (cA_2, 400, .inl (fun _ => 0))), (q_3, .inl (cA_4, 400, .inl (fun _ => 0))), (q_5, .inl (cA_6, 400, .inl (fun _ => 0))), (q_7, .inl (cA_8, 400, .inl (fun _ => 0))), (q_9, .inl (cA_10, 400, .inl (fun _ => 0))), (q_11, .inl (cA_12, 400, .inr (.inl (fun _ => 0))))] := hD
  refine lv_aload_n hx hb dX7_init_56 rfl (lv_at hl 0 rfl) ?_
  refine lv_iload_n hx hb dX7_init_57 rfl (lv_at hl 1 rfl) ?_
  refine va_newa (atype := .int) hx hb (hts (.arrayClass .int) mw_0_1) (ty := .int) rfl hK hP hD hS hA (n := 400) (N' := 400) (a0 := (400, .inl (fun _ => 0))) (fun _ => rfl) (by decide) (by decide) (Nat.le_of_ble_eq_true rfl) (Nat.le_of_ble_eq_true rfl) (Nat.le_of_ble_eq_true rfl) dX7_init_58 (fun q_13 cA_14 H hK hP hD hS => ?_)
  have hP : va_P (dC, dI) vwCl [(h0, .inr (7, [.int 400, .int 0, .ref q_1, .ref q_3, .ref q_5, .ref q_7, .ref q_9, .ref q_11, .null, .null, .null, .null, .null])), (q_1, .inl (cA_2, 400, .inl (fun _ => 0))), (q_3, .inl (cA_4, 400, .inl (fun _ => 0))), (q_5, .inl (cA_6, 400, .inl (fun _ => 0))), (q_7, .inl (cA_8, 400, .inl (fun _ => 0))), (q_9, .inl (cA_10, 400, .inl (fun _ => 0))), (q_11, .inl (cA_12, 400, .inr (.inl (fun _ => 0)))), (q_13, .inl (cA_14, 400, .inl (fun _ => 0)))] H := hP
  have hD : va_D A [(h0, .inr (7, [.int 400, .int 0, .ref q_1, .ref q_3, .ref q_5, .ref q_7, .ref q_9, .ref q_11, .null, .null, .null, .null, .null])), (q_1, .inl (cA_2, 400, .inl (fun _ => 0))), (q_3, .inl (cA_4, 400, .inl (fun _ => 0))), (q_5, .inl (cA_6, 400, .inl (fun _ => 0))), (q_7, .inl (cA_8, 400, .inl (fun _ => 0))), (q_9, .inl (cA_10, 400, .inl (fun _ => 0))), (q_11, .inl (cA_12, 400, .inr (.inl (fun _ => 0)))), (q_13, .inl (cA_14, 400, .inl (fun _ => 0)))] := hD
  have hK : va_K (dC, dI) vwCl [(cA_2, .int), (cA_4, .int), (cA_6, .int), (cA_8, .int), (cA_10, .boolean), (cA_12, .long), (cA_14, .int)] s := hK
  refine W.widen (k := 7) (n := 2800) (Nat.le_of_ble_eq_true rfl) (Nat.le_of_ble_eq_true rfl) ?_
  refine va_putF (D := (dC, dI)) (ci := 7) (v := .ref q_13) (ty := .array .int) (C := RX7) (T := TX7) (N := 13) hx hb hts inlX7 tyX7 tyX7_ok nmX7 hown hK hP hD hS 0 rfl rfl 8 (by decide) (hts (.fieldLink RX7 39 "ShapeReader$Tree" "firsts" "[I") mw_18_9) (fun _ h9 => h9) rfl hin rfl (by decide +kernel) rfl rfl (Nat.le_of_ble_eq_true rfl) dX7_init_60 (fun H locs hP hD hS => ?_)
  have hP : va_P (dC, dI) vwCl [(h0, .inr (7, [.int 400, .int 0, .ref q_1, .ref q_3, .ref q_5, .ref q_7, .ref q_9, .ref q_11, .ref q_13, .null, .null, .null, .null])), (q_1, .inl (cA_2, 400, .inl (fun _ => 0))), (q_3, .inl (cA_4, 400, .inl (fun _ => 0))), (q_5, .inl (cA_6, 400, .inl (fun _ => 0))), (q_7, .inl (cA_8, 400, .inl (fun _ => 0))), (q_9, .inl (cA_10, 400, .inl (fun _ => 0))), (q_11, .inl (cA_12, 400, .inr (.inl (fun _ => 0)))), (q_13, .inl (cA_14, 400, .inl (fun _ => 0)))] H := hP
  have hD : va_D A [(h0, .inr (7, [.int 400, .int 0, .ref q_1, .ref q_3, .ref q_5, .ref q_7, .ref q_9, .ref q_11, .ref q_13, .null, .null, .null, .null])), (q_1, .inl (cA_2, 400, .inl (fun _ => 0))), (q_3, .inl (cA_4, 400, .inl (fun _ => 0))), (q_5, .inl (cA_6, 400, .inl (fun _ => 0))), (q_7, .inl (cA_8, 400, .inl (fun _ => 0))), (q_9, .inl (cA_10, 400, .inl (fun _ => 0))), (q_11, .inl (cA_12, 400, .inr (.inl (fun _ => 0)))), (q_13, .inl (cA_14, 400, .inl (fun _ => 0)))] := hD
  refine lv_aload_n hx hb dX7_init_63 rfl (lv_at hl 0 rfl) ?_
  refine lv_iload_n hx hb dX7_init_64 rfl (lv_at hl 1 rfl) ?_
  refine va_newa (atype := .int) hx hb (hts (.arrayClass .int) mw_0_1) (ty := .int) rfl hK hP hD hS hA (n := 400) (N' := 400) (a0 := (400, .inl (fun _ => 0))) (fun _ => rfl) (by decide) (by decide) (Nat.le_of_ble_eq_true rfl) (Nat.le_of_ble_eq_true rfl) (Nat.le_of_ble_eq_true rfl) dX7_init_65 (fun q_15 cA_16 H hK hP hD hS => ?_)
  have hP : va_P (dC, dI) vwCl [(h0, .inr (7, [.int 400, .int 0, .ref q_1, .ref q_3, .ref q_5, .ref q_7, .ref q_9, .ref q_11, .ref q_13, .null, .null, .null, .null])), (q_1, .inl (cA_2, 400, .inl (fun _ => 0))), (q_3, .inl (cA_4, 400, .inl (fun _ => 0))), (q_5, .inl (cA_6, 400, .inl (fun _ => 0))), (q_7, .inl (cA_8, 400, .inl (fun _ => 0))), (q_9, .inl (cA_10, 400, .inl (fun _ => 0))), (q_11, .inl (cA_12, 400, .inr (.inl (fun _ => 0)))), (q_13, .inl (cA_14, 400, .inl (fun _ => 0))), (q_15, .inl (cA_16, 400, .inl (fun _ => 0)))] H := hP
  have hD : va_D A [(h0, .inr (7, [.int 400, .int 0, .ref q_1, .ref q_3, .ref q_5, .ref q_7, .ref q_9, .ref q_11, .ref q_13, .null, .null, .null, .null])), (q_1, .inl (cA_2, 400, .inl (fun _ => 0))), (q_3, .inl (cA_4, 400, .inl (fun _ => 0))), (q_5, .inl (cA_6, 400, .inl (fun _ => 0))), (q_7, .inl (cA_8, 400, .inl (fun _ => 0))), (q_9, .inl (cA_10, 400, .inl (fun _ => 0))), (q_11, .inl (cA_12, 400, .inr (.inl (fun _ => 0)))), (q_13, .inl (cA_14, 400, .inl (fun _ => 0))), (q_15, .inl (cA_16, 400, .inl (fun _ => 0)))] := hD
  have hK : va_K (dC, dI) vwCl [(cA_2, .int), (cA_4, .int), (cA_6, .int), (cA_8, .int), (cA_10, .boolean), (cA_12, .long), (cA_14, .int), (cA_16, .int)] s := hK
  refine W.widen (k := 8) (n := 3200) (Nat.le_of_ble_eq_true rfl) (Nat.le_of_ble_eq_true rfl) ?_
  refine va_putF (D := (dC, dI)) (ci := 7) (v := .ref q_15) (ty := .array .int) (C := RX7) (T := TX7) (N := 13) hx hb hts inlX7 tyX7 tyX7_ok nmX7 hown hK hP hD hS 0 rfl rfl 9 (by decide) (hts (.fieldLink RX7 42 "ShapeReader$Tree" "lasts" "[I") mw_18_10) (fun _ h9 => h9) rfl hin rfl (by decide +kernel) rfl rfl (Nat.le_of_ble_eq_true rfl) dX7_init_67 (fun H locs hP hD hS => ?_)
  have hP : va_P (dC, dI) vwCl [(h0, .inr (7, [.int 400, .int 0, .ref q_1, .ref q_3, .ref q_5, .ref q_7, .ref q_9, .ref q_11, .ref q_13, .ref q_15, .null, .null, .null])), (q_1, .inl (cA_2, 400, .inl (fun _ => 0))), (q_3, .inl (cA_4, 400, .inl (fun _ => 0))), (q_5, .inl (cA_6, 400, .inl (fun _ => 0))), (q_7, .inl (cA_8, 400, .inl (fun _ => 0))), (q_9, .inl (cA_10, 400, .inl (fun _ => 0))), (q_11, .inl (cA_12, 400, .inr (.inl (fun _ => 0)))), (q_13, .inl (cA_14, 400, .inl (fun _ => 0))), (q_15, .inl (cA_16, 400, .inl (fun _ => 0)))] H := hP
  have hD : va_D A [(h0, .inr (7, [.int 400, .int 0, .ref q_1, .ref q_3, .ref q_5, .ref q_7, .ref q_9, .ref q_11, .ref q_13, .ref q_15, .null, .null, .null])), (q_1, .inl (cA_2, 400, .inl (fun _ => 0))), (q_3, .inl (cA_4, 400, .inl (fun _ => 0))), (q_5, .inl (cA_6, 400, .inl (fun _ => 0))), (q_7, .inl (cA_8, 400, .inl (fun _ => 0))), (q_9, .inl (cA_10, 400, .inl (fun _ => 0))), (q_11, .inl (cA_12, 400, .inr (.inl (fun _ => 0)))), (q_13, .inl (cA_14, 400, .inl (fun _ => 0))), (q_15, .inl (cA_16, 400, .inl (fun _ => 0)))] := hD
  refine lv_aload_n hx hb dX7_init_70 rfl (lv_at hl 0 rfl) ?_
  refine lv_iload_n hx hb dX7_init_71 rfl (lv_at hl 1 rfl) ?_
  refine va_newa (atype := .int) hx hb (hts (.arrayClass .int) mw_0_1) (ty := .int) rfl hK hP hD hS hA (n := 400) (N' := 400) (a0 := (400, .inl (fun _ => 0))) (fun _ => rfl) (by decide) (by decide) (Nat.le_of_ble_eq_true rfl) (Nat.le_of_ble_eq_true rfl) (Nat.le_of_ble_eq_true rfl) dX7_init_72 (fun q_17 cA_18 H hK hP hD hS => ?_)
  have hP : va_P (dC, dI) vwCl [(h0, .inr (7, [.int 400, .int 0, .ref q_1, .ref q_3, .ref q_5, .ref q_7, .ref q_9, .ref q_11, .ref q_13, .ref q_15, .null, .null, .null])), (q_1, .inl (cA_2, 400, .inl (fun _ => 0))), (q_3, .inl (cA_4, 400, .inl (fun _ => 0))), (q_5, .inl (cA_6, 400, .inl (fun _ => 0))), (q_7, .inl (cA_8, 400, .inl (fun _ => 0))), (q_9, .inl (cA_10, 400, .inl (fun _ => 0))), (q_11, .inl (cA_12, 400, .inr (.inl (fun _ => 0)))), (q_13, .inl (cA_14, 400, .inl (fun _ => 0))), (q_15, .inl (cA_16, 400, .inl (fun _ => 0))), (q_17, .inl (cA_18, 400, .inl (fun _ => 0)))] H := hP
  have hD : va_D A [(h0, .inr (7, [.int 400, .int 0, .ref q_1, .ref q_3, .ref q_5, .ref q_7, .ref q_9, .ref q_11, .ref q_13, .ref q_15, .null, .null, .null])), (q_1, .inl (cA_2, 400, .inl (fun _ => 0))), (q_3, .inl (cA_4, 400, .inl (fun _ => 0))), (q_5, .inl (cA_6, 400, .inl (fun _ => 0))), (q_7, .inl (cA_8, 400, .inl (fun _ => 0))), (q_9, .inl (cA_10, 400, .inl (fun _ => 0))), (q_11, .inl (cA_12, 400, .inr (.inl (fun _ => 0)))), (q_13, .inl (cA_14, 400, .inl (fun _ => 0))), (q_15, .inl (cA_16, 400, .inl (fun _ => 0))), (q_17, .inl (cA_18, 400, .inl (fun _ => 0)))] := hD
  have hK : va_K (dC, dI) vwCl [(cA_2, .int), (cA_4, .int), (cA_6, .int), (cA_8, .int), (cA_10, .boolean), (cA_12, .long), (cA_14, .int), (cA_16, .int), (cA_18, .int)] s := hK
  refine W.widen (k := 9) (n := 3600) (Nat.le_of_ble_eq_true rfl) (Nat.le_of_ble_eq_true rfl) ?_
  refine va_putF (D := (dC, dI)) (ci := 7) (v := .ref q_17) (ty := .array .int) (C := RX7) (T := TX7) (N := 13) hx hb hts inlX7 tyX7 tyX7_ok nmX7 hown hK hP hD hS 0 rfl rfl 10 (by decide) (hts (.fieldLink RX7 45 "ShapeReader$Tree" "nexts" "[I") mw_18_11) (fun _ h9 => h9) rfl hin rfl (by decide +kernel) rfl rfl (Nat.le_of_ble_eq_true rfl) dX7_init_74 (fun H locs hP hD hS => ?_)
  have hP : va_P (dC, dI) vwCl [(h0, .inr (7, [.int 400, .int 0, .ref q_1, .ref q_3, .ref q_5, .ref q_7, .ref q_9, .ref q_11, .ref q_13, .ref q_15, .ref q_17, .null, .null])), (q_1, .inl (cA_2, 400, .inl (fun _ => 0))), (q_3, .inl (cA_4, 400, .inl (fun _ => 0))), (q_5, .inl (cA_6, 400, .inl (fun _ => 0))), (q_7, .inl (cA_8, 400, .inl (fun _ => 0))), (q_9, .inl (cA_10, 400, .inl (fun _ => 0))), (q_11, .inl (cA_12, 400, .inr (.inl (fun _ => 0)))), (q_13, .inl (cA_14, 400, .inl (fun _ => 0))), (q_15, .inl (cA_16, 400, .inl (fun _ => 0))), (q_17, .inl (cA_18, 400, .inl (fun _ => 0)))] H := hP
  have hD : va_D A [(h0, .inr (7, [.int 400, .int 0, .ref q_1, .ref q_3, .ref q_5, .ref q_7, .ref q_9, .ref q_11, .ref q_13, .ref q_15, .ref q_17, .null, .null])), (q_1, .inl (cA_2, 400, .inl (fun _ => 0))), (q_3, .inl (cA_4, 400, .inl (fun _ => 0))), (q_5, .inl (cA_6, 400, .inl (fun _ => 0))), (q_7, .inl (cA_8, 400, .inl (fun _ => 0))), (q_9, .inl (cA_10, 400, .inl (fun _ => 0))), (q_11, .inl (cA_12, 400, .inr (.inl (fun _ => 0)))), (q_13, .inl (cA_14, 400, .inl (fun _ => 0))), (q_15, .inl (cA_16, 400, .inl (fun _ => 0))), (q_17, .inl (cA_18, 400, .inl (fun _ => 0)))] := hD
  refine lv_aload_n hx hb dX7_init_77 rfl (lv_at hl 0 rfl) ?_
  refine lv_iload_n hx hb dX7_init_78 rfl (lv_at hl 1 rfl) ?_
  refine va_newa (atype := .int) hx hb (hts (.arrayClass .int) mw_0_1) (ty := .int) rfl hK hP hD hS hA (n := 400) (N' := 400) (a0 := (400, .inl (fun _ => 0))) (fun _ => rfl) (by decide) (by decide) (Nat.le_of_ble_eq_true rfl) (Nat.le_of_ble_eq_true rfl) (Nat.le_of_ble_eq_true rfl) dX7_init_79 (fun q_19 cA_20 H hK hP hD hS => ?_)
  have hP : va_P (dC, dI) vwCl [(h0, .inr (7, [.int 400, .int 0, .ref q_1, .ref q_3, .ref q_5, .ref q_7, .ref q_9, .ref q_11, .ref q_13, .ref q_15, .ref q_17, .null, .null])), (q_1, .inl (cA_2, 400, .inl (fun _ => 0))), (q_3, .inl (cA_4, 400, .inl (fun _ => 0))), (q_5, .inl (cA_6, 400, .inl (fun _ => 0))), (q_7, .inl (cA_8, 400, .inl (fun _ => 0))), (q_9, .inl (cA_10, 400, .inl (fun _ => 0))), (q_11, .inl (cA_12, 400, .inr (.inl (fun _ => 0)))), (q_13, .inl (cA_14, 400, .inl (fun _ => 0))), (q_15, .inl (cA_16, 400, .inl (fun _ => 0))), (q_17, .inl (cA_18, 400, .inl (fun _ => 0))), (q_19, .inl (cA_20, 400, .inl (fun _ => 0)))] H := hP
  have hD : va_D A [(h0, .inr (7, [.int 400, .int 0, .ref q_1, .ref q_3, .ref q_5, .ref q_7, .ref q_9, .ref q_11, .ref q_13, .ref q_15, .ref q_17, .null, .null])), (q_1, .inl (cA_2, 400, .inl (fun _ => 0))), (q_3, .inl (cA_4, 400, .inl (fun _ => 0))), (q_5, .inl (cA_6, 400, .inl (fun _ => 0))), (q_7, .inl (cA_8, 400, .inl (fun _ => 0))), (q_9, .inl (cA_10, 400, .inl (fun _ => 0))), (q_11, .inl (cA_12, 400, .inr (.inl (fun _ => 0)))), (q_13, .inl (cA_14, 400, .inl (fun _ => 0))), (q_15, .inl (cA_16, 400, .inl (fun _ => 0))), (q_17, .inl (cA_18, 400, .inl (fun _ => 0))), (q_19, .inl (cA_20, 400, .inl (fun _ => 0)))] := hD
  have hK : va_K (dC, dI) vwCl [(cA_2, .int), (cA_4, .int), (cA_6, .int), (cA_8, .int), (cA_10, .boolean), (cA_12, .long), (cA_14, .int), (cA_16, .int), (cA_18, .int), (cA_20, .int)] s := hK
  refine W.widen (k := 10) (n := 4000) (Nat.le_of_ble_eq_true rfl) (Nat.le_of_ble_eq_true rfl) ?_
  refine va_putF (D := (dC, dI)) (ci := 7) (v := .ref q_19) (ty := .array .int) (C := RX7) (T := TX7) (N := 13) hx hb hts inlX7 tyX7 tyX7_ok nmX7 hown hK hP hD hS 0 rfl rfl 11 (by decide) (hts (.fieldLink RX7 48 "ShapeReader$Tree" "order" "[I") mw_18_12) (fun _ h9 => h9) rfl hin rfl (by decide +kernel) rfl rfl (Nat.le_of_ble_eq_true rfl) dX7_init_81 (fun H locs hP hD hS => ?_)
  have hP : va_P (dC, dI) vwCl [(h0, .inr (7, [.int 400, .int 0, .ref q_1, .ref q_3, .ref q_5, .ref q_7, .ref q_9, .ref q_11, .ref q_13, .ref q_15, .ref q_17, .ref q_19, .null])), (q_1, .inl (cA_2, 400, .inl (fun _ => 0))), (q_3, .inl (cA_4, 400, .inl (fun _ => 0))), (q_5, .inl (cA_6, 400, .inl (fun _ => 0))), (q_7, .inl (cA_8, 400, .inl (fun _ => 0))), (q_9, .inl (cA_10, 400, .inl (fun _ => 0))), (q_11, .inl (cA_12, 400, .inr (.inl (fun _ => 0)))), (q_13, .inl (cA_14, 400, .inl (fun _ => 0))), (q_15, .inl (cA_16, 400, .inl (fun _ => 0))), (q_17, .inl (cA_18, 400, .inl (fun _ => 0))), (q_19, .inl (cA_20, 400, .inl (fun _ => 0)))] H := hP
  have hD : va_D A [(h0, .inr (7, [.int 400, .int 0, .ref q_1, .ref q_3, .ref q_5, .ref q_7, .ref q_9, .ref q_11, .ref q_13, .ref q_15, .ref q_17, .ref q_19, .null])), (q_1, .inl (cA_2, 400, .inl (fun _ => 0))), (q_3, .inl (cA_4, 400, .inl (fun _ => 0))), (q_5, .inl (cA_6, 400, .inl (fun _ => 0))), (q_7, .inl (cA_8, 400, .inl (fun _ => 0))), (q_9, .inl (cA_10, 400, .inl (fun _ => 0))), (q_11, .inl (cA_12, 400, .inr (.inl (fun _ => 0)))), (q_13, .inl (cA_14, 400, .inl (fun _ => 0))), (q_15, .inl (cA_16, 400, .inl (fun _ => 0))), (q_17, .inl (cA_18, 400, .inl (fun _ => 0))), (q_19, .inl (cA_20, 400, .inl (fun _ => 0)))] := hD
  refine lv_aload_n hx hb dX7_init_84 rfl (lv_at hl 0 rfl) ?_
  refine lv_iload_n hx hb dX7_init_85 rfl (lv_at hl 1 rfl) ?_
  refine va_newa (atype := .int) hx hb (hts (.arrayClass .int) mw_0_1) (ty := .int) rfl hK hP hD hS hA (n := 400) (N' := 400) (a0 := (400, .inl (fun _ => 0))) (fun _ => rfl) (by decide) (by decide) (Nat.le_of_ble_eq_true rfl) (Nat.le_of_ble_eq_true rfl) (Nat.le_of_ble_eq_true rfl) dX7_init_86 (fun q_21 cA_22 H hK hP hD hS => ?_)
  have hP : va_P (dC, dI) vwCl [(h0, .inr (7, [.int 400, .int 0, .ref q_1, .ref q_3, .ref q_5, .ref q_7, .ref q_9, .ref q_11, .ref q_13, .ref q_15, .ref q_17, .ref q_19, .null])), (q_1, .inl (cA_2, 400, .inl (fun _ => 0))), (q_3, .inl (cA_4, 400, .inl (fun _ => 0))), (q_5, .inl (cA_6, 400, .inl (fun _ => 0))), (q_7, .inl (cA_8, 400, .inl (fun _ => 0))), (q_9, .inl (cA_10, 400, .inl (fun _ => 0))), (q_11, .inl (cA_12, 400, .inr (.inl (fun _ => 0)))), (q_13, .inl (cA_14, 400, .inl (fun _ => 0))), (q_15, .inl (cA_16, 400, .inl (fun _ => 0))), (q_17, .inl (cA_18, 400, .inl (fun _ => 0))), (q_19, .inl (cA_20, 400, .inl (fun _ => 0))), (q_21, .inl (cA_22, 400, .inl (fun _ => 0)))] H := hP
  have hD : va_D A [(h0, .inr (7, [.int 400, .int 0, .ref q_1, .ref q_3, .ref q_5, .ref q_7, .ref q_9, .ref q_11, .ref q_13, .ref q_15, .ref q_17, .ref q_19, .null])), (q_1, .inl (cA_2, 400, .inl (fun _ => 0))), (q_3, .inl (cA_4, 400, .inl (fun _ => 0))), (q_5, .inl (cA_6, 400, .inl (fun _ => 0))), (q_7, .inl (cA_8, 400, .inl (fun _ => 0))), (q_9, .inl (cA_10, 400, .inl (fun _ => 0))), (q_11, .inl (cA_12, 400, .inr (.inl (fun _ => 0)))), (q_13, .inl (cA_14, 400, .inl (fun _ => 0))), (q_15, .inl (cA_16, 400, .inl (fun _ => 0))), (q_17, .inl (cA_18, 400, .inl (fun _ => 0))), (q_19, .inl (cA_20, 400, .inl (fun _ => 0))), (q_21, .inl (cA_22, 400, .inl (fun _ => 0)))] := hD
  have hK : va_K (dC, dI) vwCl [(cA_2, .int), (cA_4, .int), (cA_6, .int), (cA_8, .int), (cA_10, .boolean), (cA_12, .long), (cA_14, .int), (cA_16, .int), (cA_18, .int), (cA_20, .int), (cA_22, .int)] s := hK
  refine W.widen (k := 11) (n := 4400) (Nat.le_of_ble_eq_true rfl) (Nat.le_of_ble_eq_true rfl) ?_
  refine va_putF (D := (dC, dI)) (ci := 7) (v := .ref q_21) (ty := .array .int) (C := RX7) (T := TX7) (N := 13) hx hb hts inlX7 tyX7 tyX7_ok nmX7 hown hK hP hD hS 0 rfl rfl 12 (by decide) (hts (.fieldLink RX7 51 "ShapeReader$Tree" "numbers" "[I") mw_18_13) (fun _ h9 => h9) rfl hin rfl (by decide +kernel) rfl rfl (Nat.le_of_ble_eq_true rfl) dX7_init_88 (fun H locs hP hD hS => ?_)
  have hP : va_P (dC, dI) vwCl [(h0, .inr (7, [.int 400, .int 0, .ref q_1, .ref q_3, .ref q_5, .ref q_7, .ref q_9, .ref q_11, .ref q_13, .ref q_15, .ref q_17, .ref q_19, .ref q_21])), (q_1, .inl (cA_2, 400, .inl (fun _ => 0))), (q_3, .inl (cA_4, 400, .inl (fun _ => 0))), (q_5, .inl (cA_6, 400, .inl (fun _ => 0))), (q_7, .inl (cA_8, 400, .inl (fun _ => 0))), (q_9, .inl (cA_10, 400, .inl (fun _ => 0))), (q_11, .inl (cA_12, 400, .inr (.inl (fun _ => 0)))), (q_13, .inl (cA_14, 400, .inl (fun _ => 0))), (q_15, .inl (cA_16, 400, .inl (fun _ => 0))), (q_17, .inl (cA_18, 400, .inl (fun _ => 0))), (q_19, .inl (cA_20, 400, .inl (fun _ => 0))), (q_21, .inl (cA_22, 400, .inl (fun _ => 0)))] H := hP
  have hD : va_D A [(h0, .inr (7, [.int 400, .int 0, .ref q_1, .ref q_3, .ref q_5, .ref q_7, .ref q_9, .ref q_11, .ref q_13, .ref q_15, .ref q_17, .ref q_19, .ref q_21])), (q_1, .inl (cA_2, 400, .inl (fun _ => 0))), (q_3, .inl (cA_4, 400, .inl (fun _ => 0))), (q_5, .inl (cA_6, 400, .inl (fun _ => 0))), (q_7, .inl (cA_8, 400, .inl (fun _ => 0))), (q_9, .inl (cA_10, 400, .inl (fun _ => 0))), (q_11, .inl (cA_12, 400, .inr (.inl (fun _ => 0)))), (q_13, .inl (cA_14, 400, .inl (fun _ => 0))), (q_15, .inl (cA_16, 400, .inl (fun _ => 0))), (q_17, .inl (cA_18, 400, .inl (fun _ => 0))), (q_19, .inl (cA_20, 400, .inl (fun _ => 0))), (q_21, .inl (cA_22, 400, .inl (fun _ => 0)))] := hD
  have hP9 := hP.sub (ws' := [(h0, .inr (7, [.int 400, .int 0, .ref q_1, .ref q_3, .ref q_5, .ref q_7, .ref q_9, .ref q_11, .ref q_13, .ref q_15, .ref q_17, .ref q_19, .ref q_21])), (q_1, .inl (cA_2, 400, .inl (fun _ => 0))), (q_3, .inl (cA_4, 400, .inl (fun _ => 0))), (q_5, .inl (cA_6, 400, .inl (fun _ => 0))), (q_7, .inl (cA_8, 400, .inl (fun _ => 0))), (q_9, .inl (cA_10, 400, .inl (fun _ => 0))), (q_11, .inl (cA_12, 400, .inr (.inl (fun _ => 0)))), (q_13, .inl (cA_14, 400, .inl (fun _ => 0))), (q_15, .inl (cA_16, 400, .inl (fun _ => 0))), (q_17, .inl (cA_18, 400, .inl (fun _ => 0))), (q_19, .inl (cA_20, 400, .inl (fun _ => 0))), (q_21, .inl (cA_22, 400, .inl (fun _ => 0)))]) [0, 1, 2, 3, 4, 5, 6, 7, 8, 9, 10, 11] rfl
  have hD9 := hD.sub (ws' := [(h0, .inr (7, [.int 400, .int 0, .ref q_1, .ref q_3, .ref q_5, .ref q_7, .ref q_9, .ref q_11, .ref q_13, .ref q_15, .ref q_17, .ref q_19, .ref q_21])), (q_1, .inl (cA_2, 400, .inl (fun _ => 0))), (q_3, .inl (cA_4, 400, .inl (fun _ => 0))), (q_5, .inl (cA_6, 400, .inl (fun _ => 0))), (q_7, .inl (cA_8, 400, .inl (fun _ => 0))), (q_9, .inl (cA_10, 400, .inl (fun _ => 0))), (q_11, .inl (cA_12, 400, .inr (.inl (fun _ => 0)))), (q_13, .inl (cA_14, 400, .inl (fun _ => 0))), (q_15, .inl (cA_16, 400, .inl (fun _ => 0))), (q_17, .inl (cA_18, 400, .inl (fun _ => 0))), (q_19, .inl (cA_20, 400, .inl (fun _ => 0))), (q_21, .inl (cA_22, 400, .inl (fun _ => 0)))]) [0, 1, 2, 3, 4, 5, 6, 7, 8, 9, 10, 11] (by decide) rfl
  have hK9 := hK.sub (tys' := [(cA_2, .int), (cA_4, .int), (cA_6, .int), (cA_8, .int), (cA_10, .boolean), (cA_12, .long), (cA_14, .int), (cA_16, .int), (cA_18, .int), (cA_20, .int), (cA_22, .int)]) [0, 1, 2, 3, 4, 5, 6, 7, 8, 9, 10] rfl
  refine W.widen (k := 11) (n := 4400) (Nat.le_of_ble_eq_true rfl) (Nat.le_of_ble_eq_true rfl) ?_
  exact W.vret hx hb hr (fun t ht hW => ⟨⟨(), rfl, trivial, q_1, cA_2, q_3, cA_4, q_5, cA_6, q_7, cA_8, q_9, cA_10, q_11, cA_12, q_13, cA_14, q_15, cA_16, q_17, cA_18, q_19, cA_20, q_21, cA_22, by rw [ht]; exact hP9, va_K.moved hW.alike hK9, hD9⟩, hS.F ht⟩) hS.2.2 dX7_init_91

set_option maxRecDepth 100000 in
set_option maxHeartbeats 4000000 in
theorem c_j7b (l : Launch) (dC : Nat → ClassId) (dI : Nat → Nat → Nat) (h0 : Nat) (sz : Nat) : Met l yX7_init (.code yX7_init cX7_init 2 none :: pw) ({ frames := 1, cells := 11, slots := 5522, locals := 12 }) (va_Pc [.ref h0, .int 502] (vPre dC dI [(h0, .inr (7, [.int 0, .int 0, .null, .null, .null, .null, .null, .null, .null, .null, .null, .null, .null]))] [] sz)) (va_Qv (fun (_ : Unit) => True) (fun (_ : Unit) t => ∃ (e1 : Nat), ∃ (k1 : ClassId), ∃ (e2 : Nat), ∃ (k2 : ClassId), ∃ (e3 : Nat), ∃ (k3 : ClassId), ∃ (e4 : Nat), ∃ (k4 : ClassId), ∃ (e5 : Nat), ∃ (k5 : ClassId), ∃ (e6 : Nat), ∃ (k6 : ClassId), ∃ (e7 : Nat), ∃ (k7 : ClassId), ∃ (e8 : Nat), ∃ (k8 : ClassId), ∃ (e9 : Nat), ∃ (k9 : ClassId), ∃ (e10 : Nat), ∃ (k10 : ClassId), ∃ (e11 : Nat), ∃ (k11 : ClassId), vPst dC dI (va_A [(h0, .inr (7, [.int 0, .int 0, .null, .null, .null, .null, .null, .null, .null, .null, .null, .null, .null]))] sz) [(h0, .inr (7, [.int 502, .int 0, .ref e1, .ref e2, .ref e3, .ref e4, .ref e5, .ref e6, .ref e7, .ref e8, .ref e9, .ref e10, .ref e11])), (e1, .inl (k1, 502, .inl (fun _ => 0))), (e2, .inl (k2, 502, .inl (fun _ => 0))), (e3, .inl (k3, 502, .inl (fun _ => 0))), (e4, .inl (k4, 502, .inl (fun _ => 0))), (e5, .inl (k5, 502, .inl (fun _ => 0))), (e6, .inl (k6, 502, .inr (.inl (fun _ => 0)))), (e7, .inl (k7, 502, .inl (fun _ => 0))), (e8, .inl (k8, 502, .inl (fun _ => 0))), (e9, .inl (k9, 502, .inl (fun _ => 0))), (e10, .inl (k10, 502, .inl (fun _ => 0))), (e11, .inl (k11, 502, .inl (fun _ => 0)))] [(k1, .int), (k2, .int), (k3, .int), (k4, .int), (k5, .boolean), (k6, .long), (k7, .int), (k8, .int), (k9, .int), (k10, .int), (k11, .int)] t) (va_A [(h0, .inr (7, [.int 0, .int 0, .null, .null, .null, .null, .null, .null, .null, .null, .null, .null, .null]))] sz)) 11 5522 (va_A [(h0, .inr (7, [.int 0, .int 0, .null, .null, .null, .null, .null, .null, .null, .null, .null, .null, .null]))] sz) := by
  refine Met.ofW (cc := cX7_init) (maxL := 2) (ret := none) (by decide) rfl ?_
  intro p e s m args below meth c s₁ B hml hv
  obtain ⟨rfl, hsz, hP, hK, hD0, hN⟩ := hv
  have hx := B.exec
  have hb := B.bytes
  have hr := B.returns
  have hts := atoms_spec (ws := .code yX7_init cX7_init 2 none :: pw) B.pre
  have hts : ∀ w ∈ pw, w.before _ s = true := fun w h => hts w (List.mem_cons_of_mem _ h)
  have hown : s.vm.findClass RX7 = some m.cls := findClass_of_methodNamed B.named
  have hlocks := B.notSynchronized
  have hin : meth.name = "<init>" := (name_of_methodNamed B.named B.method).1
  subst hsz
  have hD := hD0.self (sz := s.heap.size)
  generalize hAe : va_A [(h0, .inr (7, [.int 0, .int 0, .null, .null, .null, .null, .null, .null, .null, .null, .null, .null, .null]))] s.heap.size = A at hD ⊢
  have hA : ∀ q : Nat, s.heap.size ≤ q → A q := fun q h => by rw [← hAe]; exact Or.inr h
  have hS : va_S A s.heap s.heap [] := va_S.rf
  have hP : va_P (dC, dI) vwCl [(h0, .inr (7, [.int 0, .int 0, .null, .null, .null, .null, .null, .null, .null, .null, .null, .null, .null]))] s.heap := hP
  have hl := lv_entry ([.ref h0, .int 502]) (n := 2) (Nat.le_of_ble_eq_true rfl)
  rw [lg_entry_eq]
  generalize (lg_sl ([.ref h0, .int 502]) ++ List.replicate (2 - (lg_sl ([.ref h0, .int 502])).length) Slot.unset).toArray = ls at hl ⊢
  have hl : lv_has ls 2 [(0, .ref h0), (1, .int 502)] := hl
  refine lv_aload_n hx hb dX7_init_0 rfl (lv_at hl 0 rfl) ?_
  refine W.objInit hx hb hown (hts (.methodLink RX7 3 objectInit) mw_18_0) (hts (.instanceMethod objectInit) mw_0_17) (hts (.code objectInit ⟨#[0xb1]⟩ 1 none) mw_47_1) rfl (by rw [hml]; exact hl.1) rfl dX7_init_1 (Nat.le_of_ble_eq_true rfl) (Nat.le_of_ble_eq_true rfl) ?_
  refine W.eq (g2 := F0 m 4 ls []) rfl ?_
  refine lv_aload_n hx hb dX7_init_4 rfl (lv_at hl 0 rfl) ?_
  refine lv_iconst (v := 0) hx hb dX7_init_5 (by decide) ?_
  refine va_put (D := (dC, dI)) (ci := 7) (v := .int 0) (ty := .int) (C := RX7) (T := TX7) (N := 13) hx hb hts inlX7 tyX7 tyX7_ok nmX7 hown hK hP hD hS 0 rfl rfl 1 (by decide) (hts (.fieldLink RX7 9 "ShapeReader$Tree" "size" "I") mw_18_1) (fun _ h9 => h9) rfl (by decide +kernel) rfl rfl (Nat.le_of_ble_eq_true rfl) dX7_init_6 (fun H locs hP hD hS => ?_)
  have hP : va_P (dC, dI) vwCl [(h0, .inr (7, [.int 0, .int 0, .null, .null, .null, .null, .null, .null, .null, .null, .null, .null, .null]))] H := hP
  have hD : va_D A [(h0, .inr (7, [.int 0, .int 0, .null, .null, .null, .null, .null, .null, .null, .null, .null, .null, .null]))] := hD
  refine lv_aload_n hx hb dX7_init_9 rfl (lv_at hl 0 rfl) ?_
  refine lv_iload_n hx hb dX7_init_10 rfl (lv_at hl 1 rfl) ?_
  refine va_putF (D := (dC, dI)) (ci := 7) (v := .int 502) (ty := .int) (C := RX7) (T := TX7) (N := 13) hx hb hts inlX7 tyX7 tyX7_ok nmX7 hown hK hP hD hS 0 rfl rfl 0 (by decide) (hts (.fieldLink RX7 15 "ShapeReader$Tree" "rows" "I") mw_18_2) (fun _ h9 => h9) rfl hin rfl (by decide +kernel) rfl rfl (Nat.le_of_ble_eq_true rfl) dX7_init_11 (fun H locs hP hD hS => ?_)
  have hP : va_P (dC, dI) vwCl [(h0, .inr (7, [.int 502, .int 0, .null, .null, .null, .null, .null, .null, .null, .null, .null, .null, .null]))] H := hP
  have hD : va_D A [(h0, .inr (7, [.int 502, .int 0, .null, .null, .null, .null, .null, .null, .null, .null, .null, .null, .null]))] := hD
  refine lv_aload_n hx hb dX7_init_14 rfl (lv_at hl 0 rfl) ?_
  refine lv_iload_n hx hb dX7_init_15 rfl (lv_at hl 1 rfl) ?_
  refine va_newa (atype := .int) hx hb (hts (.arrayClass .int) mw_0_1) (ty := .int) rfl hK hP hD hS hA (n := 502) (N' := 502) (a0 := (502, .inl (fun _ => 0))) (fun _ => rfl) (by decide) (by decide) (Nat.le_of_ble_eq_true rfl) (Nat.le_of_ble_eq_true rfl) (Nat.le_of_ble_eq_true rfl) dX7_init_16 (fun q_1 cA_2 H hK hP hD hS => ?_)
  have hP : va_P (dC, dI) vwCl [(h0, .inr (7, [.int 502, .int 0, .null, .null, .null, .null, .null, .null, .null, .null, .null, .null, .null])), (q_1, .inl (cA_2, 502, .inl (fun _ => 0)))] H := hP
  have hD : va_D A [(h0, .inr (7, [.int 502, .int 0, .null, .null, .null, .null, .null, .null, .null, .null, .null, .null, .null])), (q_1, .inl (cA_2, 502, .inl (fun _ => 0)))] := hD
  have hK : va_K (dC, dI) vwCl [(cA_2, .int)] s := hK
  refine W.widen (k := 1) (n := 502) (Nat.le_of_ble_eq_true rfl) (Nat.le_of_ble_eq_true rfl) ?_
  refine va_putF (D := (dC, dI)) (ci := 7) (v := .ref q_1) (ty := .array .int) (C := RX7) (T := TX7) (N := 13) hx hb hts inlX7 tyX7 tyX7_ok nmX7 hown hK hP hD hS 0 rfl rfl 2 (by decide) (hts (.fieldLink RX7 18 "ShapeReader$Tree" "sorts" "[I") mw_18_3) (fun _ h9 => h9) rfl hin rfl (by decide +kernel) rfl rfl (Nat.le_of_ble_eq_true rfl) dX7_init_18 (fun H locs hP hD hS => ?_)
  have hP : va_P (dC, dI) vwCl [(h0, .inr (7, [.int 502, .int 0, .ref q_1, .null, .null, .null, .null, .null, .null, .null, .null, .null, .null])), (q_1, .inl (cA_2, 502, .inl (fun _ => 0)))] H := hP
  have hD : va_D A [(h0, .inr (7, [.int 502, .int 0, .ref q_1, .null, .null, .null, .null, .null, .null, .null, .null, .null, .null])), (q_1, .inl (cA_2, 502, .inl (fun _ => 0)))] := hD
  refine lv_aload_n hx hb dX7_init_21 rfl (lv_at hl 0 rfl) ?_
  refine lv_iload_n hx hb dX7_init_22 rfl (lv_at hl 1 rfl) ?_
  refine va_newa (atype := .int) hx hb (hts (.arrayClass .int) mw_0_1) (ty := .int) rfl hK hP hD hS hA (n := 502) (N' := 502) (a0 := (502, .inl (fun _ => 0))) (fun _ => rfl) (by decide) (by decide) (Nat.le_of_ble_eq_true rfl) (Nat.le_of_ble_eq_true rfl) (Nat.le_of_ble_eq_true rfl) dX7_init_23 (fun q_3 cA_4 H hK hP hD hS => ?_)
  have hP : va_P (dC, dI) vwCl [(h0, .inr (7, [.int 502, .int 0, .ref q_1, .null, .null, .null, .null, .null, .null, .null, .null, .null, .null])), (q_1, .inl (cA_2, 502, .inl (fun _ => 0))), (q_3, .inl (cA_4, 502, .inl (fun _ => 0)))] H := hP
  have hD : va_D A [(h0, .inr (7, [.int 502, .int 0, .ref q_1, .null, .null, .null, .null, .null, .null, .null, .null, .null, .null])), (q_1, .inl (cA_2, 502, .inl (fun _ => 0))), (q_3, .inl (cA_4, 502, .inl (fun _ => 0)))] := hD
  have hK : va_K (dC, dI) vwCl [(cA_2, .int), (cA_4, .int)] s := hK
  refine W.widen (k := 2) (n := 1004) (Nat.le_of_ble_eq_true rfl) (Nat.le_of_ble_eq_true rfl) ?_
  refine va_putF (D := (dC, dI)) (ci := 7) (v := .ref q_3) (ty := .array .int) (C := RX7) (T := TX7) (N := 13) hx hb hts inlX7 tyX7 tyX7_ok nmX7 hown hK hP hD hS 0 rfl rfl 3 (by decide) (hts (.fieldLink RX7 22 "ShapeReader$Tree" "parents" "[I") mw_18_4) (fun _ h9 => h9) rfl hin rfl (by decide +kernel) rfl rfl (Nat.le_of_ble_eq_true rfl) dX7_init_25 (fun H locs hP hD hS => ?_)
  have hP : va_P (dC, dI) vwCl [(h0, .inr (7, [.int 502, .int 0, .ref q_1, .ref q_3, .null, .null, .null, .null, .null, .null, .null, .null, .null])), (q_1, .inl (cA_2, 502, .inl (fun _ => 0))), (q_3, .inl (cA_4, 502, .inl (fun _ => 0)))] H := hP
  have hD : va_D A [(h0, .inr (7, [.int 502, .int 0, .ref q_1, .ref q_3, .null, .null, .null, .null, .null, .null, .null, .null, .null])), (q_1, .inl (cA_2, 502, .inl (fun _ => 0))), (q_3, .inl (cA_4, 502, .inl (fun _ => 0)))] := hD
  refine lv_aload_n hx hb dX7_init_28 rfl (lv_at hl 0 rfl) ?_
  refine lv_iload_n hx hb dX7_init_29 rfl (lv_at hl 1 rfl) ?_
  refine va_newa (atype := .int) hx hb (hts (.arrayClass .int) mw_0_1) (ty := .int) rfl hK hP hD hS hA (n := 502) (N' := 502) (a0 := (502, .inl (fun _ => 0))) (fun _ => rfl) (by decide) (by decide) (Nat.le_of_ble_eq_true rfl) (Nat.le_of_ble_eq_true rfl) (Nat.le_of_ble_eq_true rfl) dX7_init_30 (fun q_5 cA_6 H hK hP hD hS => ?_)
  have hP : va_P (dC, dI) vwCl [(h0, .inr (7, [.int 502, .int 0, .ref q_1, .ref q_3, .null, .null, .null, .null, .null, .null, .null, .null, .null])), (q_1, .inl (cA_2, 502, .inl (fun _ => 0))), (q_3, .inl (cA_4, 502, .inl (fun _ => 0))), (q_5, .inl (cA_6, 502, .inl (fun _ => 0)))] H := hP
  have hD : va_D A [(h0, .inr (7, [.int 502, .int 0, .ref q_1, .ref q_3, .null, .null, .null, .null, .null, .null, .null, .null, .null])), (q_1, .inl (cA_2, 502, .inl (fun _ => 0))), (q_3, .inl (cA_4, 502, .inl (fun _ => 0))), (q_5, .inl (cA_6, 502, .inl (fun _ => 0)))] := hD
  have hK : va_K (dC, dI) vwCl [(cA_2, .int), (cA_4, .int), (cA_6, .int)] s := hK
  refine W.widen (k := 3) (n := 1506) (Nat.le_of_ble_eq_true rfl) (Nat.le_of_ble_eq_true rfl) ?_
  refine va_putF (D := (dC, dI)) (ci := 7) (v := .ref q_5) (ty := .array .int) (C := RX7) (T := TX7) (N := 13) hx hb hts inlX7 tyX7 tyX7_ok nmX7 hown hK hP hD hS 0 rfl rfl 4 (by decide) (hts (.fieldLink RX7 25 "ShapeReader$Tree" "places" "[I") mw_18_5) (fun _ h9 => h9) rfl hin rfl (by decide +kernel) rfl rfl (Nat.le_of_ble_eq_true rfl) dX7_init_32 (fun H locs hP hD hS => ?_)
  have hP : va_P (dC, dI) vwCl [(h0, .inr (7, [.int 502, .int 0, .ref q_1, .ref q_3, .ref q_5, .null, .null, .null, .null, .null, .null, .null, .null])), (q_1, .inl (cA_2, 502, .inl (fun _ => 0))), (q_3, .inl (cA_4, 502, .inl (fun _ => 0))), (q_5, .inl (cA_6, 502, .inl (fun _ => 0)))] H := hP
  have hD : va_D A [(h0, .inr (7, [.int 502, .int 0, .ref q_1, .ref q_3, .ref q_5, .null, .null, .null, .null, .null, .null, .null, .null])), (q_1, .inl (cA_2, 502, .inl (fun _ => 0))), (q_3, .inl (cA_4, 502, .inl (fun _ => 0))), (q_5, .inl (cA_6, 502, .inl (fun _ => 0)))] := hD
  refine lv_aload_n hx hb dX7_init_35 rfl (lv_at hl 0 rfl) ?_
  refine lv_iload_n hx hb dX7_init_36 rfl (lv_at hl 1 rfl) ?_
  refine va_newa (atype := .int) hx hb (hts (.arrayClass .int) mw_0_1) (ty := .int) rfl hK hP hD hS hA (n := 502) (N' := 502) (a0 := (502, .inl (fun _ => 0))) (fun _ => rfl) (by decide) (by decide) (Nat.le_of_ble_eq_true rfl) (Nat.le_of_ble_eq_true rfl) (Nat.le_of_ble_eq_true rfl) dX7_init_37 (fun q_7 cA_8 H hK hP hD hS => ?_)
  have hP : va_P (dC, dI) vwCl [(h0, .inr (7, [.int 502, .int 0, .ref q_1, .ref q_3, .ref q_5, .null, .null, .null, .null, .null, .null, .null, .null])), (q_1, .inl (cA_2, 502, .inl (fun _ => 0))), (q_3, .inl (cA_4, 502, .inl (fun _ => 0))), (q_5, .inl (cA_6, 502, .inl (fun _ => 0))), (q_7, .inl (cA_8, 502, .inl (fun _ => 0)))] H := hP
  have hD : va_D A [(h0, .inr (7, [.int 502, .int 0, .ref q_1, .ref q_3, .ref q_5, .null, .null, .null, .null, .null, .null, .null, .null])), (q_1, .inl (cA_2, 502, .inl (fun _ => 0))), (q_3, .inl (cA_4, 502, .inl (fun _ => 0))), (q_5, .inl (cA_6, 502, .inl (fun _ => 0))), (q_7, .inl (cA_8, 502, .inl (fun _ => 0)))] := hD
  have hK : va_K (dC, dI) vwCl [(cA_2, .int), (cA_4, .int), (cA_6, .int), (cA_8, .int)] s := hK
  refine W.widen (k := 4) (n := 2008) (Nat.le_of_ble_eq_true rfl) (Nat.le_of_ble_eq_true rfl) ?_
  refine va_putF (D := (dC, dI)) (ci := 7) (v := .ref q_7) (ty := .array .int) (C := RX7) (T := TX7) (N := 13) hx hb hts inlX7 tyX7 tyX7_ok nmX7 hown hK hP hD hS 0 rfl rfl 5 (by decide) (hts (.fieldLink RX7 28 "ShapeReader$Tree" "sizes" "[I") mw_18_6) (fun _ h9 => h9) rfl hin rfl (by decide +kernel) rfl rfl (Nat.le_of_ble_eq_true rfl) dX7_init_39 (fun H locs hP hD hS => ?_)
  have hP : va_P (dC, dI) vwCl [(h0, .inr (7, [.int 502, .int 0, .ref q_1, .ref q_3, .ref q_5, .ref q_7, .null, .null, .null, .null, .null, .null, .null])), (q_1, .inl (cA_2, 502, .inl (fun _ => 0))), (q_3, .inl (cA_4, 502, .inl (fun _ => 0))), (q_5, .inl (cA_6, 502, .inl (fun _ => 0))), (q_7, .inl (cA_8, 502, .inl (fun _ => 0)))] H := hP
  have hD : va_D A [(h0, .inr (7, [.int 502, .int 0, .ref q_1, .ref q_3, .ref q_5, .ref q_7, .null, .null, .null, .null, .null, .null, .null])), (q_1, .inl (cA_2, 502, .inl (fun _ => 0))), (q_3, .inl (cA_4, 502, .inl (fun _ => 0))), (q_5, .inl (cA_6, 502, .inl (fun _ => 0))), (q_7, .inl (cA_8, 502, .inl (fun _ => 0)))] := hD
  refine lv_aload_n hx hb dX7_init_42 rfl (lv_at hl 0 rfl) ?_
  refine lv_iload_n hx hb dX7_init_43 rfl (lv_at hl 1 rfl) ?_
  refine va_newa (atype := .boolean) hx hb (hts (.arrayClass .boolean) mw_0_3) (ty := .boolean) rfl hK hP hD hS hA (n := 502) (N' := 502) (a0 := (502, .inl (fun _ => 0))) (fun _ => rfl) (by decide) (by decide) (Nat.le_of_ble_eq_true rfl) (Nat.le_of_ble_eq_true rfl) (Nat.le_of_ble_eq_true rfl) dX7_init_44 (fun q_9 cA_10 H hK hP hD hS => ?_)
  have hP : va_P (dC, dI) vwCl [(h0, .inr (7, [.int 502, .int 0, .ref q_1, .ref q_3, .ref q_5, .ref q_7, .null, .null, .null, .null, .null, .null, .null])), (q_1, .inl (cA_2, 502, .inl (fun _ => 0))), (q_3, .inl (cA_4, 502, .inl (fun _ => 0))), (q_5, .inl (cA_6, 502, .inl (fun _ => 0))), (q_7, .inl (cA_8, 502, .inl (fun _ => 0))), (q_9, .inl (cA_10, 502, .inl (fun _ => 0)))] H := hP
  have hD : va_D A [(h0, .inr (7, [.int 502, .int 0, .ref q_1, .ref q_3, .ref q_5, .ref q_7, .null, .null, .null, .null, .null, .null, .null])), (q_1, .inl (cA_2, 502, .inl (fun _ => 0))), (q_3, .inl (cA_4, 502, .inl (fun _ => 0))), (q_5, .inl (cA_6, 502, .inl (fun _ => 0))), (q_7, .inl (cA_8, 502, .inl (fun _ => 0))), (q_9, .inl (cA_10, 502, .inl (fun _ => 0)))] := hD
  have hK : va_K (dC, dI) vwCl [(cA_2, .int), (cA_4, .int), (cA_6, .int), (cA_8, .int), (cA_10, .boolean)] s := hK
  refine W.widen (k := 5) (n := 2510) (Nat.le_of_ble_eq_true rfl) (Nat.le_of_ble_eq_true rfl) ?_
  refine va_putF (D := (dC, dI)) (ci := 7) (v := .ref q_9) (ty := .array .boolean) (C := RX7) (T := TX7) (N := 13) hx hb hts inlX7 tyX7 tyX7_ok nmX7 hown hK hP hD hS 0 rfl rfl 6 (by decide) (hts (.fieldLink RX7 31 "ShapeReader$Tree" "filled" "[Z") mw_18_7) (fun _ h9 => h9) rfl hin rfl (by decide +kernel) rfl rfl (Nat.le_of_ble_eq_true rfl) dX7_init_46 (fun H locs hP hD hS => ?_)
  have hP : va_P (dC, dI) vwCl [(h0, .inr (7, [.int 502, .int 0, .ref q_1, .ref q_3, .ref q_5, .ref q_7, .ref q_9, .null, .null, .null, .null, .null, .null])), (q_1, .inl (cA_2, 502, .inl (fun _ => 0))), (q_3, .inl (cA_4, 502, .inl (fun _ => 0))), (q_5, .inl (cA_6, 502, .inl (fun _ => 0))), (q_7, .inl (cA_8, 502, .inl (fun _ => 0))), (q_9, .inl (cA_10, 502, .inl (fun _ => 0)))] H := hP
  have hD : va_D A [(h0, .inr (7, [.int 502, .int 0, .ref q_1, .ref q_3, .ref q_5, .ref q_7, .ref q_9, .null, .null, .null, .null, .null, .null])), (q_1, .inl (cA_2, 502, .inl (fun _ => 0))), (q_3, .inl (cA_4, 502, .inl (fun _ => 0))), (q_5, .inl (cA_6, 502, .inl (fun _ => 0))), (q_7, .inl (cA_8, 502, .inl (fun _ => 0))), (q_9, .inl (cA_10, 502, .inl (fun _ => 0)))] := hD
  refine lv_aload_n hx hb dX7_init_49 rfl (lv_at hl 0 rfl) ?_
  refine lv_iload_n hx hb dX7_init_50 rfl (lv_at hl 1 rfl) ?_
  refine va_newa (atype := .long) hx hb (hts (.arrayClass .long) mw_0_2) (ty := .long) rfl hK hP hD hS hA (n := 502) (N' := 502) (a0 := (502, .inr (.inl (fun _ => 0)))) (fun _ => rfl) (by decide) (by decide) (Nat.le_of_ble_eq_true rfl) (Nat.le_of_ble_eq_true rfl) (Nat.le_of_ble_eq_true rfl) dX7_init_51 (fun q_11 cA_12 H hK hP hD hS => ?_)
  have hP : va_P (dC, dI) vwCl [(h0, .inr (7, [.int 502, .int 0, .ref q_1, .ref q_3, .ref q_5, .ref q_7, .ref q_9, .null, .null, .null, .null, .null, .null])), (q_1, .inl (cA_2, 502, .inl (fun _ => 0))), (q_3, .inl (cA_4, 502, .inl (fun _ => 0))), (q_5, .inl (cA_6, 502, .inl (fun _ => 0))), (q_7, .inl (cA_8, 502, .inl (fun _ => 0))), (q_9, .inl (cA_10, 502, .inl (fun _ => 0))), (q_11, .inl (cA_12, 502, .inr (.inl (fun _ => 0))))] H := hP
  have hD : va_D A [(h0, .inr (7, [.int 502, .int 0, .ref q_1, .ref q_3, .ref q_5, .ref q_7, .ref q_9, .null, .null, .null, .null, .null, .null])), (q_1, .inl (cA_2, 502, .inl (fun _ => 0))), (q_3, .inl (cA_4, 502, .inl (fun _ => 0))), (q_5, .inl (cA_6, 502, .inl (fun _ => 0))), (q_7, .inl (cA_8, 502, .inl (fun _ => 0))), (q_9, .inl (cA_10, 502, .inl (fun _ => 0))), (q_11, .inl (cA_12, 502, .inr (.inl (fun _ => 0))))] := hD
  have hK : va_K (dC, dI) vwCl [(cA_2, .int), (cA_4, .int), (cA_6, .int), (cA_8, .int), (cA_10, .boolean), (cA_12, .long)] s := hK
  refine W.widen (k := 6) (n := 3012) (Nat.le_of_ble_eq_true rfl) (Nat.le_of_ble_eq_true rfl) ?_
  refine va_putF (D := (dC, dI)) (ci := 7) (v := .ref q_11) (ty := .array .long) (C := RX7) (T := TX7) (N := 13) hx hb hts inlX7 tyX7 tyX7_ok nmX7 hown hK hP hD hS 0 rfl rfl 7 (by decide) (hts (.fieldLink RX7 35 "ShapeReader$Tree" "worths" "[J") mw_18_8) (fun _ h9 => h9) rfl hin rfl (by decide +kernel) rfl rfl (Nat.le_of_ble_eq_true rfl) dX7_init_53 (fun H locs hP hD hS => ?_)
  have hP : va_P (dC, dI) vwCl [(h0, .inr (7, [.int 502, .int 0, .ref q_1, .ref q_3, .ref q_5, .ref q_7, .ref q_9, .ref q_11, .null, .null, .null, .null, .null])), (q_1, .inl (cA_2, 502, .inl (fun _ => 0))), (q_3, .inl (cA_4, 502, .inl (fun _ => 0))), (q_5, .inl (cA_6, 502, .inl (fun _ => 0))), (q_7, .inl (cA_8, 502, .inl (fun _ => 0))), (q_9, .inl (cA_10, 502, .inl (fun _ => 0))), (q_11, .inl (cA_12, 502, .inr (.inl (fun _ => 0))))] H := hP
  have hD : va_D A [(h0, .inr (7, [.int 502, .int 0, .ref q_1, .ref q_3, .ref q_5, .ref q_7, .ref q_9, .ref q_11, .null, .null, .null, .null, .null])), (q_1, .inl (cA_2, 502, .inl (fun _ => 0))), (q_3, .inl (cA_4, 502, .inl (fun _ => 0))), (q_5, .inl (cA_6, 502, .inl (fun _ => 0))), (q_7, .inl (cA_8, 502, .inl (fun _ => 0))), (q_9, .inl (cA_10, 502, .inl (fun _ => 0))), (q_11, .inl (cA_12, 502, .inr (.inl (fun _ => 0))))] := hD
  refine lv_aload_n hx hb dX7_init_56 rfl (lv_at hl 0 rfl) ?_
  refine lv_iload_n hx hb dX7_init_57 rfl (lv_at hl 1 rfl) ?_
  refine va_newa (atype := .int) hx hb (hts (.arrayClass .int) mw_0_1) (ty := .int) rfl hK hP hD hS hA (n := 502) (N' := 502) (a0 := (502, .inl (fun _ => 0))) (fun _ => rfl) (by decide) (by decide) (Nat.le_of_ble_eq_true rfl) (Nat.le_of_ble_eq_true rfl) (Nat.le_of_ble_eq_true rfl) dX7_init_58 (fun q_13 cA_14 H hK hP hD hS => ?_)
  have hP : va_P (dC, dI) vwCl [(h0, .inr (7, [.int 502, .int 0, .ref q_1, .ref q_3, .ref q_5, .ref q_7, .ref q_9, .ref q_11, .null, .null, .null, .null, .null])), (q_1, .inl (cA_2, 502, .inl (fun _ => 0))), (q_3, .inl (cA_4, 502, .inl (fun _ => 0))), (q_5, .inl (cA_6, 502, .inl (fun _ => 0))), (q_7, .inl (cA_8, 502, .inl (fun _ => 0))), (q_9, .inl (cA_10, 502, .inl (fun _ => 0))), (q_11, .inl (cA_12, 502, .inr (.inl (fun _ => 0)))), (q_13, .inl (cA_14, 502, .inl (fun _ => 0)))] H := hP
  have hD : va_D A [(h0, .inr (7, [.int 502, .int 0, .ref q_1, .ref q_3, .ref q_5, .ref q_7, .ref q_9, .ref q_11, .null, .null, .null, .null, .null])), (q_1, .inl (cA_2, 502, .inl (fun _ => 0))), (q_3, .inl (cA_4, 502, .inl (fun _ => 0))), (q_5, .inl (cA_6, 502, .inl (fun _ => 0))), (q_7, .inl (cA_8, 502, .inl (fun _ => 0))), (q_9, .inl (cA_10, 502, .inl (fun _ => 0))), (q_11, .inl (cA_12, 502, .inr (.inl (fun _ => 0)))), (q_13, .inl (cA_14, 502, .inl (fun _ => 0)))] := hD
  have hK : va_K (dC, dI) vwCl [(cA_2, .int), (cA_4, .int), (cA_6, .int), (cA_8, .int), (cA_10, .boolean), (cA_12, .long), (cA_14, .int)] s := hK
  refine W.widen (k := 7) (n := 3514) (Nat.le_of_ble_eq_true rfl) (Nat.le_of_ble_eq_true rfl) ?_
  refine va_putF (D := (dC, dI)) (ci := 7) (v := .ref q_13) (ty := .array .int) (C := RX7) (T := TX7) (N := 13) hx hb hts inlX7 tyX7 tyX7_ok nmX7 hown hK hP hD hS 0 rfl rfl 8 (by decide) (hts (.fieldLink RX7 39 "ShapeReader$Tree" "firsts" "[I") mw_18_9) (fun _ h9 => h9) rfl hin rfl (by decide +kernel) rfl rfl (Nat.le_of_ble_eq_true rfl) dX7_init_60 (fun H locs hP hD hS => ?_)
  have hP : va_P (dC, dI) vwCl [(h0, .inr (7, [.int 502, .int 0, .ref q_1, .ref q_3, .ref q_5, .ref q_7, .ref q_9, .ref q_11, .ref q_13, .null, .null, .null, .null])), (q_1, .inl (cA_2, 502, .inl (fun _ => 0))), (q_3, .inl (cA_4, 502, .inl (fun _ => 0))), (q_5, .inl (cA_6, 502, .inl (fun _ => 0))), (q_7, .inl (cA_8, 502, .inl (fun _ => 0))), (q_9, .inl (cA_10, 502, .inl (fun _ => 0))), (q_11, .inl (cA_12, 502, .inr (.inl (fun _ => 0)))), (q_13, .inl (cA_14, 502, .inl (fun _ => 0)))] H := hP
  have hD : va_D A [(h0, .inr (7, [.int 502, .int 0, .ref q_1, .ref q_3, .ref q_5, .ref q_7, .ref q_9, .ref q_11, .ref q_13, .null, .null, .null, .null])), (q_1, .inl (cA_2, 502, .inl (fun _ => 0))), (q_3, .inl (cA_4, 502, .inl (fun _ => 0))), (q_5, .inl (cA_6, 502, .inl (fun _ => 0))), (q_7, .inl (cA_8, 502, .inl (fun _ => 0))), (q_9, .inl (cA_10, 502, .inl (fun _ => 0))), (q_11, .inl (cA_12, 502, .inr (.inl (fun _ => 0)))), (q_13, .inl (cA_14, 502, .inl (fun _ => 0)))] := hD
  refine lv_aload_n hx hb dX7_init_63 rfl (lv_at hl 0 rfl) ?_
  refine lv_iload_n hx hb dX7_init_64 rfl (lv_at hl 1 rfl) ?_
  refine va_newa (atype := .int) hx hb (hts (.arrayClass .int) mw_0_1) (ty := .int) rfl hK hP hD hS hA (n := 502) (N' := 502) (a0 := (502, .inl (fun _ => 0))) (fun _ => rfl) (by decide) (by decide) (Nat.le_of_ble_eq_true rfl) (Nat.le_of_ble_eq_true rfl) (Nat.le_of_ble_eq_true rfl) dX7_init_65 (fun q_15 cA_16 H hK hP hD hS => ?_)
  have hP : va_P (dC, dI) vwCl [(h0, .inr (7, [.int 502, .int 0, .ref q_1, .ref q_3, .ref q_5, .ref q_7, .ref q_9, .ref q_11, .ref q_13, .null, .null, .null, .null])), (q_1, .inl (cA_2, 502, .inl (fun _ => 0))), (q_3, .inl (cA_4, 502, .inl (fun _ => 0))), (q_5, .inl (cA_6, 502, .inl (fun _ => 0))), (q_7, .inl (cA_8, 502, .inl (fun _ => 0))), (q_9, .inl (cA_10, 502, .inl (fun _ => 0))), (q_11, .inl (cA_12, 502, .inr (.inl (fun _ => 0)))), (q_13, .inl (cA_14, 502, .inl (fun _ => 0))), (q_15, .inl (cA_16, 502, .inl (fun _ => 0)))] H := hP
  have hD : va_D A [(h0, .inr (7, [.int 502, .int 0, .ref q_1, .ref q_3, .ref q_5, .ref q_7, .ref q_9, .ref q_11, .ref q_13, .null, .null, .null, .null])), (q_1, .inl (cA_2, 502, .inl (fun _ => 0))), (q_3, .inl (cA_4, 502, .inl (fun _ => 0))), (q_5, .inl (cA_6, 502, .inl (fun _ => 0))), (q_7, .inl (cA_8, 502, .inl (fun _ => 0))), (q_9, .inl (cA_10, 502, .inl (fun _ => 0))), (q_11, .inl (cA_12, 502, .inr (.inl (fun _ => 0)))), (q_13, .inl (cA_14, 502, .inl (fun _ => 0))), (q_15, .inl (cA_16, 502, .inl (fun _ => 0)))] := hD
  have hK : va_K (dC, dI) vwCl [(cA_2, .int), (cA_4, .int), (cA_6, .int), (cA_8, .int), (cA_10, .boolean), (cA_12, .long), (cA_14, .int), (cA_16, .int)] s := hK
  refine W.widen (k := 8) (n := 4016) (Nat.le_of_ble_eq_true rfl) (Nat.le_of_ble_eq_true rfl) ?_
  refine va_putF (D := (dC, dI)) (ci := 7) (v := .ref q_15) (ty := .array .int) (C := RX7) (T := TX7) (N := 13) hx hb hts inlX7 tyX7 tyX7_ok nmX7 hown hK hP hD hS 0 rfl rfl 9 (by decide) (hts (.fieldLink RX7 42 "ShapeReader$Tree" "lasts" "[I") mw_18_10) (fun _ h9 => h9) rfl hin rfl (by decide +kernel) rfl rfl (Nat.le_of_ble_eq_true rfl) dX7_init_67 (fun H locs hP hD hS => ?_)
  have hP : va_P (dC, dI) vwCl [(h0, .inr (7, [.int 502, .int 0, .ref q_1, .ref q_3, .ref q_5, .ref q_7, .ref q_9, .ref q_11, .ref q_13, .ref q_15, .null, .null, .null])), (q_1, .inl (cA_2, 502, .inl (fun _ => 0))), (q_3, .inl (cA_4, 502, .inl (fun _ => 0))), (q_5, .inl (cA_6, 502, .inl (fun _ => 0))), (q_7, .inl (cA_8, 502, .inl (fun _ => 0))), (q_9, .inl (cA_10, 502, .inl (fun _ => 0))), (q_11, .inl (cA_12, 502, .inr (.inl (fun _ => 0)))), (q_13, .inl (cA_14, 502, .inl (fun _ => 0))), (q_15, .inl (cA_16, 502, .inl (fun _ => 0)))] H := hP
  have hD : va_D A [(h0, .inr (7, [.int 502, .int 0, .ref q_1, .ref q_3, .ref q_5, .ref q_7, .ref q_9, .ref q_11, .ref q_13, .ref q_15, .null, .null, .null])), (q_1, .inl (cA_2, 502, .inl (fun _ => 0))), (q_3, .inl (cA_4, 502, .inl (fun _ => 0))), (q_5, .inl (cA_6, 502, .inl (fun _ => 0))), (q_7, .inl (cA_8, 502, .inl (fun _ => 0))), (q_9, .inl (cA_10, 502, .inl (fun _ => 0))), (q_11, .inl (cA_12, 502, .inr (.inl (fun _ => 0)))), (q_13, .inl (cA_14, 502, .inl (fun _ => 0))), (q_15, .inl (cA_16, 502, .inl (fun _ => 0)))] := hD
  refine lv_aload_n hx hb dX7_init_70 rfl (lv_at hl 0 rfl) ?_
  refine lv_iload_n hx hb dX7_init_71 rfl (lv_at hl 1 rfl) ?_
  refine va_newa (atype := .int) hx hb (hts (.arrayClass .int) mw_0_1) (ty := .int) rfl hK hP hD hS hA (n := 502) (N' := 502) (a0 := (502, .inl (fun _ => 0))) (fun _ => rfl) (by decide) (by decide) (Nat.le_of_ble_eq_true rfl) (Nat.le_of_ble_eq_true rfl) (Nat.le_of_ble_eq_true rfl) dX7_init_72 (fun q_17 cA_18 H hK hP hD hS => ?_)
  have hP : va_P (dC, dI) vwCl [(h0, .inr (7, [.int 502, .int 0, .ref q_1, .ref q_3, .ref q_5, .ref q_7, .ref q_9, .ref q_11, .ref q_13, .ref q_15, .null, .null, .null])), (q_1, .inl (cA_2, 502, .inl (fun _ => 0))), (q_3, .inl (cA_4, 502, .inl (fun _ => 0))), (q_5, .inl (cA_6, 502, .inl (fun _ => 0))), (q_7, .inl (cA_8, 502, .inl (fun _ => 0))), (q_9, .inl (cA_10, 502, .inl (fun _ => 0))), (q_11, .inl (cA_12, 502, .inr (.inl (fun _ => 0)))), (q_13, .inl (cA_14, 502, .inl (fun _ => 0))), (q_15, .inl (cA_16, 502, .inl (fun _ => 0))), (q_17, .inl (cA_18, 502, .inl (fun _ => 0)))] H := hP
  have hD : va_D A [(h0, .inr (7, [.int 502, .int 0, .ref q_1, .ref q_3, .ref q_5, .ref q_7, .ref q_9, .ref q_11, .ref q_13, .ref q_15, .null, .null, .null])), (q_1, .inl (cA_2, 502, .inl (fun _ => 0))), (q_3, .inl (cA_4, 502, .inl (fun _ => 0))), (q_5, .inl (cA_6, 502, .inl (fun _ => 0))), (q_7, .inl (cA_8, 502, .inl (fun _ => 0))), (q_9, .inl (cA_10, 502, .inl (fun _ => 0))), (q_11, .inl (cA_12, 502, .inr (.inl (fun _ => 0)))), (q_13, .inl (cA_14, 502, .inl (fun _ => 0))), (q_15, .inl (cA_16, 502, .inl (fun _ => 0))), (q_17, .inl (cA_18, 502, .inl (fun _ => 0)))] := hD
  have hK : va_K (dC, dI) vwCl [(cA_2, .int), (cA_4, .int), (cA_6, .int), (cA_8, .int), (cA_10, .boolean), (cA_12, .long), (cA_14, .int), (cA_16, .int), (cA_18, .int)] s := hK
  refine W.widen (k := 9) (n := 4518) (Nat.le_of_ble_eq_true rfl) (Nat.le_of_ble_eq_true rfl) ?_
  refine va_putF (D := (dC, dI)) (ci := 7) (v := .ref q_17) (ty := .array .int) (C := RX7) (T := TX7) (N := 13) hx hb hts inlX7 tyX7 tyX7_ok nmX7 hown hK hP hD hS 0 rfl rfl 10 (by decide) (hts (.fieldLink RX7 45 "ShapeReader$Tree" "nexts" "[I") mw_18_11) (fun _ h9 => h9) rfl hin rfl (by decide +kernel) rfl rfl (Nat.le_of_ble_eq_true rfl) dX7_init_74 (fun H locs hP hD hS => ?_)
  have hP : va_P (dC, dI) vwCl [(h0, .inr (7, [.int 502, .int 0, .ref q_1, .ref q_3, .ref q_5, .ref q_7, .ref q_9, .ref q_11, .ref q_13, .ref q_15, .ref q_17, .null, .null])), (q_1, .inl (cA_2, 502, .inl (fun _ => 0))), (q_3, .inl (cA_4, 502, .inl (fun _ => 0))), (q_5, .inl (cA_6, 502, .inl (fun _ => 0))), (q_7, .inl (cA_8, 502, .inl (fun _ => 0))), (q_9, .inl (cA_10, 502, .inl (fun _ => 0))), (q_11, .inl (cA_12, 502, .inr (.inl (fun _ => 0)))), (q_13, .inl (cA_14, 502, .inl (fun _ => 0))), (q_15, .inl (cA_16, 502, .inl (fun _ => 0))), (q_17, .inl (cA_18, 502, .inl (fun _ => 0)))] H := hP
  have hD : va_D A [(h0, .inr (7, [.int 502, .int 0, .ref q_1, .ref q_3, .ref q_5, .ref q_7, .ref q_9, .ref q_11, .ref q_13, .ref q_15, .ref q_17, .null, .null])), (q_1, .inl (cA_2, 502, .inl (fun _ => 0))), (q_3, .inl (cA_4, 502, .inl (fun _ => 0))), (q_5, .inl (cA_6, 502, .inl (fun _ => 0))), (q_7, .inl (cA_8, 502, .inl (fun _ => 0))), (q_9, .inl (cA_10, 502, .inl (fun _ => 0))), (q_11, .inl (cA_12, 502, .inr (.inl (fun _ => 0)))), (q_13, .inl (cA_14, 502, .inl (fun _ => 0))), (q_15, .inl (cA_16, 502, .inl (fun _ => 0))), (q_17, .inl (cA_18, 502, .inl (fun _ => 0)))] := hD
  refine lv_aload_n hx hb dX7_init_77 rfl (lv_at hl 0 rfl) ?_
  refine lv_iload_n hx hb dX7_init_78 rfl (lv_at hl 1 rfl) ?_
  refine va_newa (atype := .int) hx hb (hts (.arrayClass .int) mw_0_1) (ty := .int) rfl hK hP hD hS hA (n := 502) (N' := 502) (a0 := (502, .inl (fun _ => 0))) (fun _ => rfl) (by decide) (by decide) (Nat.le_of_ble_eq_true rfl) (Nat.le_of_ble_eq_true rfl) (Nat.le_of_ble_eq_true rfl) dX7_init_79 (fun q_19 cA_20 H hK hP hD hS => ?_)
  have hP : va_P (dC, dI) vwCl [(h0, .inr (7, [.int 502, .int 0, .ref q_1, .ref q_3, .ref q_5, .ref q_7, .ref q_9, .ref q_11, .ref q_13, .ref q_15, .ref q_17, .null, .null])), (q_1, .inl (cA_2, 502, .inl (fun _ => 0))), (q_3, .inl (cA_4, 502, .inl (fun _ => 0))), (q_5, .inl (cA_6, 502, .inl (fun _ => 0))), (q_7, .inl (cA_8, 502, .inl (fun _ => 0))), (q_9, .inl (cA_10, 502, .inl (fun _ => 0))), (q_11, .inl (cA_12, 502, .inr (.inl (fun _ => 0)))), (q_13, .inl (cA_14, 502, .inl (fun _ => 0))), (q_15, .inl (cA_16, 502, .inl (fun _ => 0))), (q_17, .inl (cA_18, 502, .inl (fun _ => 0))), (q_19, .inl (cA_20, 502, .inl (fun _ => 0)))] H := hP
  have hD : va_D A [(h0, .inr (7, [.int 502, .int 0, .ref q_1, .ref q_3, .ref q_5, .ref q_7, .ref q_9, .ref q_11, .ref q_13, .ref q_15, .ref q_17, .null, .null])), (q_1, .inl (cA_2, 502, .inl (fun _ => 0))), (q_3, .inl (cA_4, 502, .inl (fun _ => 0))), (q_5, .inl (cA_6, 502, .inl (fun _ => 0))), (q_7, .inl (cA_8, 502, .inl (fun _ => 0))), (q_9, .inl (cA_10, 502, .inl (fun _ => 0))), (q_11, .inl (cA_12, 502, .inr (.inl (fun _ => 0)))), (q_13, .inl (cA_14, 502, .inl (fun _ => 0))), (q_15, .inl (cA_16, 502, .inl (fun _ => 0))), (q_17, .inl (cA_18, 502, .inl (fun _ => 0))), (q_19, .inl (cA_20, 502, .inl (fun _ => 0)))] := hD
  have hK : va_K (dC, dI) vwCl [(cA_2, .int), (cA_4, .int), (cA_6, .int), (cA_8, .int), (cA_10, .boolean), (cA_12, .long), (cA_14, .int), (cA_16, .int), (cA_18, .int), (cA_20, .int)] s := hK
  refine W.widen (k := 10) (n := 5020) (Nat.le_of_ble_eq_true rfl) (Nat.le_of_ble_eq_true rfl) ?_
  refine va_putF (D := (dC, dI)) (ci := 7) (v := .ref q_19) (ty := .array .int) (C := RX7) (T := TX7) (N := 13) hx hb hts inlX7 tyX7 tyX7_ok nmX7 hown hK hP hD hS 0 rfl rfl 11 (by decide) (hts (.fieldLink RX7 48 "ShapeReader$Tree" "order" "[I") mw_18_12) (fun _ h9 => h9) rfl hin rfl (by decide +kernel) rfl rfl (Nat.le_of_ble_eq_true rfl) dX7_init_81 (fun H locs hP hD hS => ?_)
  have hP : va_P (dC, dI) vwCl [(h0, .inr (7, [.int 502, .int 0, .ref q_1, .ref q_3, .ref q_5, .ref q_7, .ref q_9, .ref q_11, .ref q_13, .ref q_15, .ref q_17, .ref q_19, .null])), (q_1, .inl (cA_2, 502, .inl (fun _ => 0))), (q_3, .inl (cA_4, 502, .inl (fun _ => 0))), (q_5, .inl (cA_6, 502, .inl (fun _ => 0))), (q_7, .inl (cA_8, 502, .inl (fun _ => 0))), (q_9, .inl (cA_10, 502, .inl (fun _ => 0))), (q_11, .inl (cA_12, 502, .inr (.inl (fun _ => 0)))), (q_13, .inl (cA_14, 502, .inl (fun _ => 0))), (q_15, .inl (cA_16, 502, .inl (fun _ => 0))), (q_17, .inl (cA_18, 502, .inl (fun _ => 0))), (q_19, .inl (cA_20, 502, .inl (fun _ => 0)))] H := hP
  have hD : va_D A [(h0, .inr (7, [.int 502, .int 0, .ref q_1, .ref q_3, .ref q_5, .ref q_7, .ref q_9, .ref q_11, .ref q_13, .ref q_15, .ref q_17, .ref q_19, .null])), (q_1, .inl (cA_2, 502, .inl (fun _ => 0))), (q_3, .inl (cA_4, 502, .inl (fun _ => 0))), (q_5, .inl (cA_6, 502, .inl (fun _ => 0))), (q_7, .inl (cA_8, 502, .inl (fun _ => 0))), (q_9, .inl (cA_10, 502, .inl (fun _ => 0))), (q_11, .inl (cA_12, 502, .inr (.inl (fun _ => 0)))), (q_13, .inl (cA_14, 502, .inl (fun _ => 0))), (q_15, .inl (cA_16, 502, .inl (fun _ => 0))), (q_17, .inl (cA_18, 502, .inl (fun _ => 0))), (q_19, .inl (cA_20, 502, .inl (fun _ => 0)))] := hD
  refine lv_aload_n hx hb dX7_init_84 rfl (lv_at hl 0 rfl) ?_
  refine lv_iload_n hx hb dX7_init_85 rfl (lv_at hl 1 rfl) ?_
  refine va_newa (atype := .int) hx hb (hts (.arrayClass .int) mw_0_1) (ty := .int) rfl hK hP hD hS hA (n := 502) (N' := 502) (a0 := (502, .inl (fun _ => 0))) (fun _ => rfl) (by decide) (by decide) (Nat.le_of_ble_eq_true rfl) (Nat.le_of_ble_eq_true rfl) (Nat.le_of_ble_eq_true rfl) dX7_init_86 (fun q_21 cA_22 H hK hP hD hS => ?_)
  have hP : va_P (dC, dI) vwCl [(h0, .inr (7, [.int 502, .int 0, .ref q_1, .ref q_3, .ref q_5, .ref q_7, .ref q_9, .ref q_11, .ref q_13, .ref q_15, .ref q_17, .ref q_19, .null])), (q_1, .inl (cA_2, 502, .inl (fun _ => 0))), (q_3, .inl (cA_4, 502, .inl (fun _ => 0))), (q_5, .inl (cA_6, 502, .inl (fun _ => 0))), (q_7, .inl (cA_8, 502, .inl (fun _ => 0))), (q_9, .inl (cA_10, 502, .inl (fun _ => 0))), (q_11, .inl (cA_12, 502, .inr (.inl (fun _ => 0)))), (q_13, .inl (cA_14, 502, .inl (fun _ => 0))), (q_15, .inl (cA_16, 502, .inl (fun _ => 0))), (q_17, .inl (cA_18, 502, .inl (fun _ => 0))), (q_19, .inl (cA_20, 502, .inl (fun _ => 0))), (q_21, .inl (cA_22, 502, .inl (fun _ => 0)))] H := hP
  have hD : va_D A [(h0, .inr (7, [.int 502, .int 0, .ref q_1, .ref q_3, .ref q_5, .ref q_7, .ref q_9, .ref q_11, .ref q_13, .ref q_15, .ref q_17, .ref q_19, .null])), (q_1, .inl (cA_2, 502, .inl (fun _ => 0))), (q_3, .inl (cA_4, 502, .inl (fun _ => 0))), (q_5, .inl (cA_6, 502, .inl (fun _ => 0))), (q_7, .inl (cA_8, 502, .inl (fun _ => 0))), (q_9, .inl (cA_10, 502, .inl (fun _ => 0))), (q_11, .inl (cA_12, 502, .inr (.inl (fun _ => 0)))), (q_13, .inl (cA_14, 502, .inl (fun _ => 0))), (q_15, .inl (cA_16, 502, .inl (fun _ => 0))), (q_17, .inl (cA_18, 502, .inl (fun _ => 0))), (q_19, .inl (cA_20, 502, .inl (fun _ => 0))), (q_21, .inl (cA_22, 502, .inl (fun _ => 0)))] := hD
  have hK : va_K (dC, dI) vwCl [(cA_2, .int), (cA_4, .int), (cA_6, .int), (cA_8, .int), (cA_10, .boolean), (cA_12, .long), (cA_14, .int), (cA_16, .int), (cA_18, .int), (cA_20, .int), (cA_22, .int)] s := hK
  refine W.widen (k := 11) (n := 5522) (Nat.le_of_ble_eq_true rfl) (Nat.le_of_ble_eq_true rfl) ?_
  refine va_putF (D := (dC, dI)) (ci := 7) (v := .ref q_21) (ty := .array .int) (C := RX7) (T := TX7) (N := 13) hx hb hts inlX7 tyX7 tyX7_ok nmX7 hown hK hP hD hS 0 rfl rfl 12 (by decide) (hts (.fieldLink RX7 51 "ShapeReader$Tree" "numbers" "[I") mw_18_13) (fun _ h9 => h9) rfl hin rfl (by decide +kernel) rfl rfl (Nat.le_of_ble_eq_true rfl) dX7_init_88 (fun H locs hP hD hS => ?_)
  have hP : va_P (dC, dI) vwCl [(h0, .inr (7, [.int 502, .int 0, .ref q_1, .ref q_3, .ref q_5, .ref q_7, .ref q_9, .ref q_11, .ref q_13, .ref q_15, .ref q_17, .ref q_19, .ref q_21])), (q_1, .inl (cA_2, 502, .inl (fun _ => 0))), (q_3, .inl (cA_4, 502, .inl (fun _ => 0))), (q_5, .inl (cA_6, 502, .inl (fun _ => 0))), (q_7, .inl (cA_8, 502, .inl (fun _ => 0))), (q_9, .inl (cA_10, 502, .inl (fun _ => 0))), (q_11, .inl (cA_12, 502, .inr (.inl (fun _ => 0)))), (q_13, .inl (cA_14, 502, .inl (fun _ => 0))), (q_15, .inl (cA_16, 502, .inl (fun _ => 0))), (q_17, .inl (cA_18, 502, .inl (fun _ => 0))), (q_19, .inl (cA_20, 502, .inl (fun _ => 0))), (q_21, .inl (cA_22, 502, .inl (fun _ => 0)))] H := hP
  have hD : va_D A [(h0, .inr (7, [.int 502, .int 0, .ref q_1, .ref q_3, .ref q_5, .ref q_7, .ref q_9, .ref q_11, .ref q_13, .ref q_15, .ref q_17, .ref q_19, .ref q_21])), (q_1, .inl (cA_2, 502, .inl (fun _ => 0))), (q_3, .inl (cA_4, 502, .inl (fun _ => 0))), (q_5, .inl (cA_6, 502, .inl (fun _ => 0))), (q_7, .inl (cA_8, 502, .inl (fun _ => 0))), (q_9, .inl (cA_10, 502, .inl (fun _ => 0))), (q_11, .inl (cA_12, 502, .inr (.inl (fun _ => 0)))), (q_13, .inl (cA_14, 502, .inl (fun _ => 0))), (q_15, .inl (cA_16, 502, .inl (fun _ => 0))), (q_17, .inl (cA_18, 502, .inl (fun _ => 0))), (q_19, .inl (cA_20, 502, .inl (fun _ => 0))), (q_21, .inl (cA_22, 502, .inl (fun _ => 0)))] := hD
  have hP9 := hP.sub (ws' := [(h0, .inr (7, [.int 502, .int 0, .ref q_1, .ref q_3, .ref q_5, .ref q_7, .ref q_9, .ref q_11, .ref q_13, .ref q_15, .ref q_17, .ref q_19, .ref q_21])), (q_1, .inl (cA_2, 502, .inl (fun _ => 0))), (q_3, .inl (cA_4, 502, .inl (fun _ => 0))), (q_5, .inl (cA_6, 502, .inl (fun _ => 0))), (q_7, .inl (cA_8, 502, .inl (fun _ => 0))), (q_9, .inl (cA_10, 502, .inl (fun _ => 0))), (q_11, .inl (cA_12, 502, .inr (.inl (fun _ => 0)))), (q_13, .inl (cA_14, 502, .inl (fun _ => 0))), (q_15, .inl (cA_16, 502, .inl (fun _ => 0))), (q_17, .inl (cA_18, 502, .inl (fun _ => 0))), (q_19, .inl (cA_20, 502, .inl (fun _ => 0))), (q_21, .inl (cA_22, 502, .inl (fun _ => 0)))]) [0, 1, 2, 3, 4, 5, 6, 7, 8, 9, 10, 11] rfl
  have hD9 := hD.sub (ws' := [(h0, .inr (7, [.int 502, .int 0, .ref q_1, .ref q_3, .ref q_5, .ref q_7, .ref q_9, .ref q_11, .ref q_13, .ref q_15, .ref q_17, .ref q_19, .ref q_21])), (q_1, .inl (cA_2, 502, .inl (fun _ => 0))), (q_3, .inl (cA_4, 502, .inl (fun _ => 0))), (q_5, .inl (cA_6, 502, .inl (fun _ => 0))), (q_7, .inl (cA_8, 502, .inl (fun _ => 0))), (q_9, .inl (cA_10, 502, .inl (fun _ => 0))), (q_11, .inl (cA_12, 502, .inr (.inl (fun _ => 0)))), (q_13, .inl (cA_14, 502, .inl (fun _ => 0))), (q_15, .inl (cA_16, 502, .inl (fun _ => 0))), (q_17, .inl (cA_18, 502, .inl (fun _ => 0))), (q_19, .inl (cA_20, 502, .inl (fun _ => 0))), (q_21, .inl (cA_22, 502, .inl (fun _ => 0)))]) [0, 1, 2, 3, 4, 5, 6, 7, 8, 9, 10, 11] (by decide) rfl
  have hK9 := hK.sub (tys' := [(cA_2, .int), (cA_4, .int), (cA_6, .int), (cA_8, .int), (cA_10, .boolean), (cA_12, .long), (cA_14, .int), (cA_16, .int), (cA_18, .int), (cA_20, .int), (cA_22, .int)]) [0, 1, 2, 3, 4, 5, 6, 7, 8, 9, 10] rfl
  refine W.widen (k := 11) (n := 5522) (Nat.le_of_ble_eq_true rfl) (Nat.le_of_ble_eq_true rfl) ?_
  exact W.vret hx hb hr (fun t ht hW => ⟨⟨(), rfl, trivial, q_1, cA_2, q_3, cA_4, q_5, cA_6, q_7, cA_8, q_9, cA_10, q_11, cA_12, q_13, cA_14, q_15, cA_16, q_17, cA_18, q_19, cA_20, q_21, cA_22, by rw [ht]; exact hP9, va_K.moved hW.alike hK9, hD9⟩, hS.F ht⟩) hS.2.2 dX7_init_91

/-- Arrays.fill's loop, from its head -/
theorem fill_loop {p : Program} {l : Launch} {e : Env} {R : Room} {s : State} {m : MethodId} {args : Array Value} {below : List Frame} {meth : Method} {c : Code} {Q : State → Prop} {dC : Nat → ClassId} {dI : Nat → Nat → Nat} {A : Nat → Prop} {h0 n : Nat} {cA : ClassId} {p0 : Int32} (hn : n < 2 ^ 31) (hx : p.tables.exec = Jvm.exec) (hb : c.code = cJ7_fill_53178) (hK : va_K (dC, dI) vwCl [(cA, .int)] s)
    (kk : ∀ (H : Heap) (locs : List Loc) (ls : Array Slot), va_P (dC, dI) vwCl [(h0, .inl (cA, n, .inl (fun _ => p0)))] H → va_D A [(h0, .inl (cA, n, .inl (fun _ => p0)))] → va_S A s.heap H locs → W p l e R s m args below meth c H locs 0 0 Q (F0 m 20 ls [])) :
    ∀ (k i : Nat) (f : Nat → Int32) (H : Heap) (locs : List Loc) (ls : Array Slot), n + 1 ≤ i + k → i ≤ n → (∀ j, j < i → f j = p0) → va_P (dC, dI) vwCl [(h0, .inl (cA, n, .inl f))] H → va_D A [(h0, .inl (cA, n, .inl f))] → va_S A s.heap H locs → lv_has ls 4 [(3, .int (nI n)), (2, .int (nI i)), (0, .ref h0), (1, .int p0)] → W p l e R s m args below meth c H locs 0 0 Q (F0 m 5 ls []) := by
  intro k
  induction k with
  | zero => intro i f H locs ls h1 h2; exact absurd h1 (by omega)
  | succ k ih =>
    intro i f H locs ls h1 h2 hf hP hD hS hl
    refine lv_iload_n hx hb dJ7_fill_53178_5 rfl (lv_at hl 1 rfl) ?_
    refine lv_iload_n hx hb dJ7_fill_53178_6 rfl (lv_at hl 0 rfl) ?_
    refine lv_icmp_ge (tgt := 20) hx hb dJ7_fill_53178_7 (by decide) (fun c1 => ?_) (fun c1 => ?_)
    · have h3 : n ≤ i := (nI_leI hn (by omega)).mp c1
      have h4 : i = n := by omega
      subst h4
      have hP2 := va_P_arr (fun _ => p0) hP (k := 0) rfl hf
      exact kk H locs ls hP2 (hD.set (p := 0) rfl) hS
    · have hlt : i < n := by
        rcases Nat.lt_or_ge i n with q | q
        · exact q
        · exact absurd (nI_le q (by omega)) c1
      refine lv_aload_n hx hb dJ7_fill_53178_10 rfl (lv_at hl 2 rfl) ?_
      refine lv_iload_n hx hb dJ7_fill_53178_11 rfl (lv_at hl 1 rfl) ?_
      refine lv_iload_n hx hb dJ7_fill_53178_12 rfl (lv_at hl 3 rfl) ?_
      refine va_iast hx hb hK hP hD hS 0 0 rfl rfl (vp_in_nI hlt hn) dJ7_fill_53178_13 (fun H locs hP hD hS => ?_)
      refine lv_iinc (v := nI (i + 1)) (lv' := [(2, .int (nI (i + 1))), (3, .int (nI n)), (0, .ref h0), (1, .int p0)]) hx hb dJ7_fill_53178_14 hl (k := 1) rfl (show nI i + 1 = nI (i + 1) from nI_1 i) (by decide) rfl (fun ls hl => ?_)
      refine lv_goto (tgt := 5) hx hb dJ7_fill_53178_17 (by decide) ?_
      refine ih (i + 1) _ H locs ls (by omega) (by omega) (fun j hj => ?_) hP hD hS (lv_sub hl [1, 0, 2, 3] rfl)
      rw [nI_clamp (by omega)]
      by_cases hji : j = i
      · rw [hji]; exact pk_us
      · rw [pk_un hji]; exact hf j (by omega)
set_option maxRecDepth 100000 in
set_option maxHeartbeats 4000000 in
theorem c_fill (l : Launch) (dC : Nat → ClassId) (dI : Nat → Nat → Nat) (h0 : Nat) (n : Nat) (cA : ClassId) (f : Nat → Int32) (p0 : Int32) (hn : n < 2 ^ 31) (sz : Nat) : Met l yJ7_fill_53178 (.code yJ7_fill_53178 cJ7_fill_53178 4 none :: pw) ({ frames := 0, cells := 0, slots := 0, locals := 0 }) (va_Pc [.ref h0, .int p0] (vPre dC dI [(h0, .inl (cA, n, .inl f))] [(cA, .int)] sz)) (va_Qv (fun (_ : Unit) => True) (fun (_ : Unit) t => vPst dC dI (va_A [(h0, .inl (cA, n, .inl f))] sz) [(h0, .inl (cA, n, .inl (fun _ => p0)))] [(cA, .int)] t) (va_A [(h0, .inl (cA, n, .inl f))] sz)) 0 0 (va_A [(h0, .inl (cA, n, .inl f))] sz) := by
  refine Met.ofW (cc := cJ7_fill_53178) (maxL := 4) (ret := none) (by decide) rfl ?_
  intro p e s m args below meth c s₁ B hml hv
  obtain ⟨rfl, hsz, hP, hK, hD0, hN⟩ := hv
  have hx := B.exec
  have hb := B.bytes
  have hr := B.returns
  have hts := atoms_spec (ws := .code yJ7_fill_53178 cJ7_fill_53178 4 none :: pw) B.pre
  have hts : ∀ w ∈ pw, w.before _ s = true := fun w h => hts w (List.mem_cons_of_mem _ h)
  have hown : s.vm.findClass RJ7 = some m.cls := findClass_of_methodNamed B.named
  have hlocks := B.notSynchronized
  subst hsz
  have hD := hD0.self (sz := s.heap.size)
  generalize hAe : va_A [(h0, .inl (cA, n, .inl f))] s.heap.size = A at hD ⊢
  have hA : ∀ q : Nat, s.heap.size ≤ q → A q := fun q h => by rw [← hAe]; exact Or.inr h
  have hS : va_S A s.heap s.heap [] := va_S.rf
  have hP : va_P (dC, dI) vwCl [(h0, .inl (cA, n, .inl f))] s.heap := hP
  have hl := lv_entry ([.ref h0, .int p0]) (n := 4) (Nat.le_of_ble_eq_true rfl)
  rw [lg_entry_eq]
  generalize (lg_sl ([.ref h0, .int p0]) ++ List.replicate (4 - (lg_sl ([.ref h0, .int p0])).length) Slot.unset).toArray = ls at hl ⊢
  have hl : lv_has ls 4 [(0, .ref h0), (1, .int p0)] := hl
  refine lv_iconst (v := 0) hx hb dJ7_fill_53178_0 (by decide) ?_
  refine lv_istore_n (lv' := [(2, .int 0), (0, .ref h0), (1, .int p0)]) hx hb dJ7_fill_53178_1 rfl hl (by decide) rfl (fun ls hl => ?_)
  refine lv_aload_n hx hb dJ7_fill_53178_2 rfl (lv_at hl 1 rfl) ?_
  refine va_alen hx hb hK hP 0 0 rfl rfl (v := nI n) rfl dJ7_fill_53178_3 ?_
  refine lv_istore_n (lv' := [(3, .int (nI n)), (2, .int 0), (0, .ref h0), (1, .int p0)]) hx hb dJ7_fill_53178_4 rfl hl (by decide) rfl (fun ls hl => ?_)
  refine fill_loop hn hx hb hK (fun H locs ls hP hD hS => ?_) (n + 1) 0 f s.heap [] ls (by omega) (Nat.zero_le n) (fun j h => absurd h (Nat.not_lt_zero j)) hP hD hS hl
  exact W.vret hx hb hr (fun t ht hW => ⟨⟨(), rfl, trivial, by rw [ht]; exact hP, va_K.moved hW.alike hK, hD⟩, hS.F ht⟩) hS.2.2 dJ7_fill_53178_20

set_option maxRecDepth 100000 in
set_option maxHeartbeats 4000000 in
theorem c_j0 (l : Launch) (dC : Nat → ClassId) (dI : Nat → Nat → Nat) (h0 : Nat) (a1 : Nat) (sz : Nat) : Met l yX0_init (.code yX0_init cX0_init 2 none :: pw) ({ frames := 1, cells := 6, slots := 784, locals := 23 }) (va_Pc [.ref h0, .ref a1] (vPre dC dI [(h0, .inr (0, [.null, .null, .long 0, .null, .long 0, .int 0, .int 0, .null, .null, .null, .null, .int 0, .long 0]))] [] sz)) (va_Qv (fun (_ : Unit) => True) (fun (_ : Unit) t => ∃ (e1 : Nat), ∃ (k1 : ClassId), ∃ (e2 : Nat), ∃ (k2 : ClassId), ∃ (e3 : Nat), ∃ (k3 : ClassId), ∃ (e4 : Nat), ∃ (k4 : ClassId), ∃ (e5 : Nat), ∃ (k5 : ClassId), ∃ (e6 : Nat), ∃ (k6 : ClassId), vPst dC dI (va_A [(h0, .inr (0, [.null, .null, .long 0, .null, .long 0, .int 0, .int 0, .null, .null, .null, .null, .int 0, .long 0]))] sz) [(h0, .inr (0, [.ref a1, .ref e1, .long 0, .ref e2, .long 0, .int (-1), .int 0, .ref e3, .ref e4, .ref e5, .ref e6, .int 0, .long 0])), (e1, .inl (k1, 36, .inr (.inl (fun _ => 0)))), (e2, .inl (k2, 36, .inl (fun _ => (-1)))), (e3, .inl (k3, 20, .inl (fun _ => 0))), (e4, .inl (k4, 20, .inl (fun _ => 0))), (e5, .inl (k5, 640, .inl (fun _ => 0))), (e6, .inl (k6, 32, .inl (fun _ => 0)))] [(k1, .long), (k2, .int), (k3, .int), (k4, .int), (k5, .int), (k6, .int)] t) (va_A [(h0, .inr (0, [.null, .null, .long 0, .null, .long 0, .int 0, .int 0, .null, .null, .null, .null, .int 0, .long 0]))] sz)) 6 784 (va_A [(h0, .inr (0, [.null, .null, .long 0, .null, .long 0, .int 0, .int 0, .null, .null, .null, .null, .int 0, .long 0]))] sz) := by
  refine Met.ofW (cc := cX0_init) (maxL := 2) (ret := none) (by decide) rfl ?_
  intro p e s m args below meth c s₁ B hml hv
  obtain ⟨rfl, hsz, hP, hK, hD0, hN⟩ := hv
  have hx := B.exec
  have hb := B.bytes
  have hr := B.returns
  have hts := atoms_spec (ws := .code yX0_init cX0_init 2 none :: pw) B.pre
  have hts : ∀ w ∈ pw, w.before _ s = true := fun w h => hts w (List.mem_cons_of_mem _ h)
  have hown : s.vm.findClass RX0 = some m.cls := findClass_of_methodNamed B.named
  have hlocks := B.notSynchronized
  have hin : meth.name = "<init>" := (name_of_methodNamed B.named B.method).1
  subst hsz
  have hD := hD0.self (sz := s.heap.size)
  generalize hAe : va_A [(h0, .inr (0, [.null, .null, .long 0, .null, .long 0, .int 0, .int 0, .null, .null, .null, .null, .int 0, .long 0]))] s.heap.size = A at hD ⊢
  have hA : ∀ q : Nat, s.heap.size ≤ q → A q := fun q h => by rw [← hAe]; exact Or.inr h
  have hS : va_S A s.heap s.heap [] := va_S.rf
  have hP : va_P (dC, dI) vwCl [(h0, .inr (0, [.null, .null, .long 0, .null, .long 0, .int 0, .int 0, .null, .null, .null, .null, .int 0, .long 0]))] s.heap := hP
  have hl := lv_entry ([.ref h0, .ref a1]) (n := 2) (Nat.le_of_ble_eq_true rfl)
  rw [lg_entry_eq]
  generalize (lg_sl ([.ref h0, .ref a1]) ++ List.replicate (2 - (lg_sl ([.ref h0, .ref a1])).length) Slot.unset).toArray = ls at hl ⊢
  have hl : lv_has ls 2 [(0, .ref h0), (1, .ref a1)] := hl
  refine lv_aload_n hx hb dX0_init_0 rfl (lv_at hl 0 rfl) ?_
  refine W.objInit hx hb hown (hts (.methodLink RX0 3 objectInit) mw_0_16) (hts (.instanceMethod objectInit) mw_0_17) (hts (.code objectInit ⟨#[0xb1]⟩ 1 none) mw_47_1) rfl (by rw [hml]; exact hl.1) rfl dX0_init_1 (Nat.le_of_ble_eq_true rfl) (Nat.le_of_ble_eq_true rfl) ?_
  refine W.eq (g2 := F0 m 4 ls []) rfl ?_
  refine lv_aload_n hx hb dX0_init_4 rfl (lv_at hl 0 rfl) ?_
  refine lv_bipush (v := 36) hx hb dX0_init_5 (by decide) ?_
  refine va_newa (atype := .long) hx hb (hts (.arrayClass .long) mw_0_2) (ty := .long) rfl hK hP hD hS hA (n := 36) (N' := 36) (a0 := (36, .inr (.inl (fun _ => 0)))) (fun _ => rfl) (by decide) (by decide) (Nat.le_of_ble_eq_true rfl) (Nat.le_of_ble_eq_true rfl) (Nat.le_of_ble_eq_true rfl) dX0_init_7 (fun q_1 cA_2 H hK hP hD hS => ?_)
  have hP : va_P (dC, dI) vwCl [(h0, .inr (0, [.null, .null, .long 0, .null, .long 0, .int 0, .int 0, .null, .null, .null, .null, .int 0, .long 0])), (q_1, .inl (cA_2, 36, .inr (.inl (fun _ => 0))))] H := hP
  have hD : va_D A [(h0, .inr (0, [.null, .null, .long 0, .null, .long 0, .int 0, .int 0, .null, .null, .null, .null, .int 0, .long 0])), (q_1, .inl (cA_2, 36, .inr (.inl (fun _ => 0))))] := hD
  have hK : va_K (dC, dI) vwCl [(cA_2, .long)] s := hK
  refine W.widen (k := 1) (n := 36) (Nat.le_of_ble_eq_true rfl) (Nat.le_of_ble_eq_true rfl) ?_
  refine va_putF (D := (dC, dI)) (ci := 0) (v := .ref q_1) (ty := .array .long) (C := RX0) (T := TX0) (N := 13) hx hb hts inlX0 tyX0 tyX0_ok nmX0 hown hK hP hD hS 0 rfl rfl 1 (by decide) (hts (.fieldLink RX0 9 "ShapeReader$Matcher" "relations" "[J") mw_0_18) (fun _ h9 => h9) rfl hin rfl (by decide +kernel) rfl rfl (Nat.le_of_ble_eq_true rfl) dX0_init_9 (fun H locs hP hD hS => ?_)
  have hP : va_P (dC, dI) vwCl [(h0, .inr (0, [.null, .ref q_1, .long 0, .null, .long 0, .int 0, .int 0, .null, .null, .null, .null, .int 0, .long 0])), (q_1, .inl (cA_2, 36, .inr (.inl (fun _ => 0))))] H := hP
  have hD : va_D A [(h0, .inr (0, [.null, .ref q_1, .long 0, .null, .long 0, .int 0, .int 0, .null, .null, .null, .null, .int 0, .long 0])), (q_1, .inl (cA_2, 36, .inr (.inl (fun _ => 0))))] := hD
  refine lv_aload_n hx hb dX0_init_12 rfl (lv_at hl 0 rfl) ?_
  refine lv_lconst (v := 0) hx hb dX0_init_13 (by decide) ?_
  refine va_put (D := (dC, dI)) (ci := 0) (v := .long 0) (ty := .long) (C := RX0) (T := TX0) (N := 13) hx hb hts inlX0 tyX0 tyX0_ok nmX0 hown hK hP hD hS 0 rfl rfl 2 (by decide) (hts (.fieldLink RX0 15 "ShapeReader$Matcher" "related" "J") mw_0_19) (fun _ h9 => h9) rfl (by decide +kernel) rfl rfl (Nat.le_of_ble_eq_true rfl) dX0_init_14 (fun H locs hP hD hS => ?_)
  have hP : va_P (dC, dI) vwCl [(h0, .inr (0, [.null, .ref q_1, .long 0, .null, .long 0, .int 0, .int 0, .null, .null, .null, .null, .int 0, .long 0])), (q_1, .inl (cA_2, 36, .inr (.inl (fun _ => 0))))] H := hP
  have hD : va_D A [(h0, .inr (0, [.null, .ref q_1, .long 0, .null, .long 0, .int 0, .int 0, .null, .null, .null, .null, .int 0, .long 0])), (q_1, .inl (cA_2, 36, .inr (.inl (fun _ => 0))))] := hD
  refine lv_aload_n hx hb dX0_init_17 rfl (lv_at hl 0 rfl) ?_
  refine lv_bipush (v := 36) hx hb dX0_init_18 (by decide) ?_
  refine va_newa (atype := .int) hx hb (hts (.arrayClass .int) mw_0_1) (ty := .int) rfl hK hP hD hS hA (n := 36) (N' := 36) (a0 := (36, .inl (fun _ => 0))) (fun _ => rfl) (by decide) (by decide) (Nat.le_of_ble_eq_true rfl) (Nat.le_of_ble_eq_true rfl) (Nat.le_of_ble_eq_true rfl) dX0_init_20 (fun q_3 cA_4 H hK hP hD hS => ?_)
  have hP : va_P (dC, dI) vwCl [(h0, .inr (0, [.null, .ref q_1, .long 0, .null, .long 0, .int 0, .int 0, .null, .null, .null, .null, .int 0, .long 0])), (q_1, .inl (cA_2, 36, .inr (.inl (fun _ => 0)))), (q_3, .inl (cA_4, 36, .inl (fun _ => 0)))] H := hP
  have hD : va_D A [(h0, .inr (0, [.null, .ref q_1, .long 0, .null, .long 0, .int 0, .int 0, .null, .null, .null, .null, .int 0, .long 0])), (q_1, .inl (cA_2, 36, .inr (.inl (fun _ => 0)))), (q_3, .inl (cA_4, 36, .inl (fun _ => 0)))] := hD
  have hK : va_K (dC, dI) vwCl [(cA_2, .long), (cA_4, .int)] s := hK
  refine W.widen (k := 2) (n := 72) (Nat.le_of_ble_eq_true rfl) (Nat.le_of_ble_eq_true rfl) ?_
  refine va_putF (D := (dC, dI)) (ci := 0) (v := .ref q_3) (ty := .array .int) (C := RX0) (T := TX0) (N := 13) hx hb hts inlX0 tyX0 tyX0_ok nmX0 hown hK hP hD hS 0 rfl rfl 3 (by decide) (hts (.fieldLink RX0 19 "ShapeReader$Matcher" "verdicts" "[I") mw_0_20) (fun _ h9 => h9) rfl hin rfl (by decide +kernel) rfl rfl (Nat.le_of_ble_eq_true rfl) dX0_init_22 (fun H locs hP hD hS => ?_)
  have hP : va_P (dC, dI) vwCl [(h0, .inr (0, [.null, .ref q_1, .long 0, .ref q_3, .long 0, .int 0, .int 0, .null, .null, .null, .null, .int 0, .long 0])), (q_1, .inl (cA_2, 36, .inr (.inl (fun _ => 0)))), (q_3, .inl (cA_4, 36, .inl (fun _ => 0)))] H := hP
  have hD : va_D A [(h0, .inr (0, [.null, .ref q_1, .long 0, .ref q_3, .long 0, .int 0, .int 0, .null, .null, .null, .null, .int 0, .long 0])), (q_1, .inl (cA_2, 36, .inr (.inl (fun _ => 0)))), (q_3, .inl (cA_4, 36, .inl (fun _ => 0)))] := hD
  refine lv_aload_n hx hb dX0_init_25 rfl (lv_at hl 0 rfl) ?_
  refine lv_lconst (v := 0) hx hb dX0_init_26 (by decide) ?_
  refine va_put (D := (dC, dI)) (ci := 0) (v := .long 0) (ty := .long) (C := RX0) (T := TX0) (N := 13) hx hb hts inlX0 tyX0 tyX0_ok nmX0 hown hK hP hD hS 0 rfl rfl 4 (by decide) (hts (.fieldLink RX0 23 "ShapeReader$Matcher" "relation" "J") mw_0_21) (fun _ h9 => h9) rfl (by decide +kernel) rfl rfl (Nat.le_of_ble_eq_true rfl) dX0_init_27 (fun H locs hP hD hS => ?_)
  have hP : va_P (dC, dI) vwCl [(h0, .inr (0, [.null, .ref q_1, .long 0, .ref q_3, .long 0, .int 0, .int 0, .null, .null, .null, .null, .int 0, .long 0])), (q_1, .inl (cA_2, 36, .inr (.inl (fun _ => 0)))), (q_3, .inl (cA_4, 36, .inl (fun _ => 0)))] H := hP
  have hD : va_D A [(h0, .inr (0, [.null, .ref q_1, .long 0, .ref q_3, .long 0, .int 0, .int 0, .null, .null, .null, .null, .int 0, .long 0])), (q_1, .inl (cA_2, 36, .inr (.inl (fun _ => 0)))), (q_3, .inl (cA_4, 36, .inl (fun _ => 0)))] := hD
  refine lv_aload_n hx hb dX0_init_30 rfl (lv_at hl 0 rfl) ?_
  refine lv_iconst (v := (-1)) hx hb dX0_init_31 (by decide) ?_
  refine va_put (D := (dC, dI)) (ci := 0) (v := .int (-1)) (ty := .int) (C := RX0) (T := TX0) (N := 13) hx hb hts inlX0 tyX0 tyX0_ok nmX0 hown hK hP hD hS 0 rfl rfl 5 (by decide) (hts (.fieldLink RX0 26 "ShapeReader$Matcher" "missPair" "I") mw_0_22) (fun _ h9 => h9) rfl (by decide +kernel) rfl rfl (Nat.le_of_ble_eq_true rfl) dX0_init_32 (fun H locs hP hD hS => ?_)
  have hP : va_P (dC, dI) vwCl [(h0, .inr (0, [.null, .ref q_1, .long 0, .ref q_3, .long 0, .int (-1), .int 0, .null, .null, .null, .null, .int 0, .long 0])), (q_1, .inl (cA_2, 36, .inr (.inl (fun _ => 0)))), (q_3, .inl (cA_4, 36, .inl (fun _ => 0)))] H := hP
  have hD : va_D A [(h0, .inr (0, [.null, .ref q_1, .long 0, .ref q_3, .long 0, .int (-1), .int 0, .null, .null, .null, .null, .int 0, .long 0])), (q_1, .inl (cA_2, 36, .inr (.inl (fun _ => 0)))), (q_3, .inl (cA_4, 36, .inl (fun _ => 0)))] := hD
  refine lv_aload_n hx hb dX0_init_35 rfl (lv_at hl 0 rfl) ?_
  refine lv_iconst (v := 0) hx hb dX0_init_36 (by decide) ?_
  refine va_put (D := (dC, dI)) (ci := 0) (v := .int 0) (ty := .int) (C := RX0) (T := TX0) (N := 13) hx hb hts inlX0 tyX0 tyX0_ok nmX0 hown hK hP hD hS 0 rfl rfl 6 (by decide) (hts (.fieldLink RX0 30 "ShapeReader$Matcher" "missCount" "I") mw_0_23) (fun _ h9 => h9) rfl (by decide +kernel) rfl rfl (Nat.le_of_ble_eq_true rfl) dX0_init_37 (fun H locs hP hD hS => ?_)
  have hP : va_P (dC, dI) vwCl [(h0, .inr (0, [.null, .ref q_1, .long 0, .ref q_3, .long 0, .int (-1), .int 0, .null, .null, .null, .null, .int 0, .long 0])), (q_1, .inl (cA_2, 36, .inr (.inl (fun _ => 0)))), (q_3, .inl (cA_4, 36, .inl (fun _ => 0)))] H := hP
  have hD : va_D A [(h0, .inr (0, [.null, .ref q_1, .long 0, .ref q_3, .long 0, .int (-1), .int 0, .null, .null, .null, .null, .int 0, .long 0])), (q_1, .inl (cA_2, 36, .inr (.inl (fun _ => 0)))), (q_3, .inl (cA_4, 36, .inl (fun _ => 0)))] := hD
  refine lv_aload_n hx hb dX0_init_40 rfl (lv_at hl 0 rfl) ?_
  refine lv_bipush (v := 20) hx hb dX0_init_41 (by decide) ?_
  refine va_newa (atype := .int) hx hb (hts (.arrayClass .int) mw_0_1) (ty := .int) rfl hK hP hD hS hA (n := 20) (N' := 20) (a0 := (20, .inl (fun _ => 0))) (fun _ => rfl) (by decide) (by decide) (Nat.le_of_ble_eq_true rfl) (Nat.le_of_ble_eq_true rfl) (Nat.le_of_ble_eq_true rfl) dX0_init_43 (fun q_5 cA_6 H hK hP hD hS => ?_)
  have hP : va_P (dC, dI) vwCl [(h0, .inr (0, [.null, .ref q_1, .long 0, .ref q_3, .long 0, .int (-1), .int 0, .null, .null, .null, .null, .int 0, .long 0])), (q_1, .inl (cA_2, 36, .inr (.inl (fun _ => 0)))), (q_3, .inl (cA_4, 36, .inl (fun _ => 0))), (q_5, .inl (cA_6, 20, .inl (fun _ => 0)))] H := hP
  have hD : va_D A [(h0, .inr (0, [.null, .ref q_1, .long 0, .ref q_3, .long 0, .int (-1), .int 0, .null, .null, .null, .null, .int 0, .long 0])), (q_1, .inl (cA_2, 36, .inr (.inl (fun _ => 0)))), (q_3, .inl (cA_4, 36, .inl (fun _ => 0))), (q_5, .inl (cA_6, 20, .inl (fun _ => 0)))] := hD
  have hK : va_K (dC, dI) vwCl [(cA_2, .long), (cA_4, .int), (cA_6, .int)] s := hK
  refine W.widen (k := 3) (n := 92) (Nat.le_of_ble_eq_true rfl) (Nat.le_of_ble_eq_true rfl) ?_
  refine va_putF (D := (dC, dI)) (ci := 0) (v := .ref q_5) (ty := .array .int) (C := RX0) (T := TX0) (N := 13) hx hb hts inlX0 tyX0 tyX0_ok nmX0 hown hK hP hD hS 0 rfl rfl 7 (by decide) (hts (.fieldLink RX0 33 "ShapeReader$Matcher" "missKinds" "[I") mw_0_24) (fun _ h9 => h9) rfl hin rfl (by decide +kernel) rfl rfl (Nat.le_of_ble_eq_true rfl) dX0_init_45 (fun H locs hP hD hS => ?_)
  have hP : va_P (dC, dI) vwCl [(h0, .inr (0, [.null, .ref q_1, .long 0, .ref q_3, .long 0, .int (-1), .int 0, .ref q_5, .null, .null, .null, .int 0, .long 0])), (q_1, .inl (cA_2, 36, .inr (.inl (fun _ => 0)))), (q_3, .inl (cA_4, 36, .inl (fun _ => 0))), (q_5, .inl (cA_6, 20, .inl (fun _ => 0)))] H := hP
  have hD : va_D A [(h0, .inr (0, [.null, .ref q_1, .long 0, .ref q_3, .long 0, .int (-1), .int 0, .ref q_5, .null, .null, .null, .int 0, .long 0])), (q_1, .inl (cA_2, 36, .inr (.inl (fun _ => 0)))), (q_3, .inl (cA_4, 36, .inl (fun _ => 0))), (q_5, .inl (cA_6, 20, .inl (fun _ => 0)))] := hD
  refine lv_aload_n hx hb dX0_init_48 rfl (lv_at hl 0 rfl) ?_
  refine lv_bipush (v := 20) hx hb dX0_init_49 (by decide) ?_
  refine va_newa (atype := .int) hx hb (hts (.arrayClass .int) mw_0_1) (ty := .int) rfl hK hP hD hS hA (n := 20) (N' := 20) (a0 := (20, .inl (fun _ => 0))) (fun _ => rfl) (by decide) (by decide) (Nat.le_of_ble_eq_true rfl) (Nat.le_of_ble_eq_true rfl) (Nat.le_of_ble_eq_true rfl) dX0_init_51 (fun q_7 cA_8 H hK hP hD hS => ?_)
  have hP : va_P (dC, dI) vwCl [(h0, .inr (0, [.null, .ref q_1, .long 0, .ref q_3, .long 0, .int (-1), .int 0, .ref q_5, .null, .null, .null, .int 0, .long 0])), (q_1, .inl (cA_2, 36, .inr (.inl (fun _ => 0)))), (q_3, .inl (cA_4, 36, .inl (fun _ => 0))), (q_5, .inl (cA_6, 20, .inl (fun _ => 0))), (q_7, .inl (cA_8, 20, .inl (fun _ => 0)))] H := hP
  have hD : va_D A [(h0, .inr (0, [.null, .ref q_1, .long 0, .ref q_3, .long 0, .int (-1), .int 0, .ref q_5, .null, .null, .null, .int 0, .long 0])), (q_1, .inl (cA_2, 36, .inr (.inl (fun _ => 0)))), (q_3, .inl (cA_4, 36, .inl (fun _ => 0))), (q_5, .inl (cA_6, 20, .inl (fun _ => 0))), (q_7, .inl (cA_8, 20, .inl (fun _ => 0)))] := hD
  have hK : va_K (dC, dI) vwCl [(cA_2, .long), (cA_4, .int), (cA_6, .int), (cA_8, .int)] s := hK
  refine W.widen (k := 4) (n := 112) (Nat.le_of_ble_eq_true rfl) (Nat.le_of_ble_eq_true rfl) ?_
  refine va_putF (D := (dC, dI)) (ci := 0) (v := .ref q_7) (ty := .array .int) (C := RX0) (T := TX0) (N := 13) hx hb hts inlX0 tyX0 tyX0_ok nmX0 hown hK hP hD hS 0 rfl rfl 8 (by decide) (hts (.fieldLink RX0 36 "ShapeReader$Matcher" "missSizes" "[I") mw_0_25) (fun _ h9 => h9) rfl hin rfl (by decide +kernel) rfl rfl (Nat.le_of_ble_eq_true rfl) dX0_init_53 (fun H locs hP hD hS => ?_)
  have hP : va_P (dC, dI) vwCl [(h0, .inr (0, [.null, .ref q_1, .long 0, .ref q_3, .long 0, .int (-1), .int 0, .ref q_5, .ref q_7, .null, .null, .int 0, .long 0])), (q_1, .inl (cA_2, 36, .inr (.inl (fun _ => 0)))), (q_3, .inl (cA_4, 36, .inl (fun _ => 0))), (q_5, .inl (cA_6, 20, .inl (fun _ => 0))), (q_7, .inl (cA_8, 20, .inl (fun _ => 0)))] H := hP
  have hD : va_D A [(h0, .inr (0, [.null, .ref q_1, .long 0, .ref q_3, .long 0, .int (-1), .int 0, .ref q_5, .ref q_7, .null, .null, .int 0, .long 0])), (q_1, .inl (cA_2, 36, .inr (.inl (fun _ => 0)))), (q_3, .inl (cA_4, 36, .inl (fun _ => 0))), (q_5, .inl (cA_6, 20, .inl (fun _ => 0))), (q_7, .inl (cA_8, 20, .inl (fun _ => 0)))] := hD
  refine lv_aload_n hx hb dX0_init_56 rfl (lv_at hl 0 rfl) ?_
  refine lv_sipush (v := 640) hx hb dX0_init_57 (by decide) ?_
  refine va_newa (atype := .int) hx hb (hts (.arrayClass .int) mw_0_1) (ty := .int) rfl hK hP hD hS hA (n := 640) (N' := 640) (a0 := (640, .inl (fun _ => 0))) (fun _ => rfl) (by decide) (by decide) (Nat.le_of_ble_eq_true rfl) (Nat.le_of_ble_eq_true rfl) (Nat.le_of_ble_eq_true rfl) dX0_init_60 (fun q_9 cA_10 H hK hP hD hS => ?_)
  have hP : va_P (dC, dI) vwCl [(h0, .inr (0, [.null, .ref q_1, .long 0, .ref q_3, .long 0, .int (-1), .int 0, .ref q_5, .ref q_7, .null, .null, .int 0, .long 0])), (q_1, .inl (cA_2, 36, .inr (.inl (fun _ => 0)))), (q_3, .inl (cA_4, 36, .inl (fun _ => 0))), (q_5, .inl (cA_6, 20, .inl (fun _ => 0))), (q_7, .inl (cA_8, 20, .inl (fun _ => 0))), (q_9, .inl (cA_10, 640, .inl (fun _ => 0)))] H := hP
  have hD : va_D A [(h0, .inr (0, [.null, .ref q_1, .long 0, .ref q_3, .long 0, .int (-1), .int 0, .ref q_5, .ref q_7, .null, .null, .int 0, .long 0])), (q_1, .inl (cA_2, 36, .inr (.inl (fun _ => 0)))), (q_3, .inl (cA_4, 36, .inl (fun _ => 0))), (q_5, .inl (cA_6, 20, .inl (fun _ => 0))), (q_7, .inl (cA_8, 20, .inl (fun _ => 0))), (q_9, .inl (cA_10, 640, .inl (fun _ => 0)))] := hD
  have hK : va_K (dC, dI) vwCl [(cA_2, .long), (cA_4, .int), (cA_6, .int), (cA_8, .int), (cA_10, .int)] s := hK
  refine W.widen (k := 5) (n := 752) (Nat.le_of_ble_eq_true rfl) (Nat.le_of_ble_eq_true rfl) ?_
  refine va_putF (D := (dC, dI)) (ci := 0) (v := .ref q_9) (ty := .array .int) (C := RX0) (T := TX0) (N := 13) hx hb hts inlX0 tyX0 tyX0_ok nmX0 hown hK hP hD hS 0 rfl rfl 9 (by decide) (hts (.fieldLink RX0 39 "ShapeReader$Matcher" "missPaths" "[I") mw_0_26) (fun _ h9 => h9) rfl hin rfl (by decide +kernel) rfl rfl (Nat.le_of_ble_eq_true rfl) dX0_init_62 (fun H locs hP hD hS => ?_)
  have hP : va_P (dC, dI) vwCl [(h0, .inr (0, [.null, .ref q_1, .long 0, .ref q_3, .long 0, .int (-1), .int 0, .ref q_5, .ref q_7, .ref q_9, .null, .int 0, .long 0])), (q_1, .inl (cA_2, 36, .inr (.inl (fun _ => 0)))), (q_3, .inl (cA_4, 36, .inl (fun _ => 0))), (q_5, .inl (cA_6, 20, .inl (fun _ => 0))), (q_7, .inl (cA_8, 20, .inl (fun _ => 0))), (q_9, .inl (cA_10, 640, .inl (fun _ => 0)))] H := hP
  have hD : va_D A [(h0, .inr (0, [.null, .ref q_1, .long 0, .ref q_3, .long 0, .int (-1), .int 0, .ref q_5, .ref q_7, .ref q_9, .null, .int 0, .long 0])), (q_1, .inl (cA_2, 36, .inr (.inl (fun _ => 0)))), (q_3, .inl (cA_4, 36, .inl (fun _ => 0))), (q_5, .inl (cA_6, 20, .inl (fun _ => 0))), (q_7, .inl (cA_8, 20, .inl (fun _ => 0))), (q_9, .inl (cA_10, 640, .inl (fun _ => 0)))] := hD
  refine lv_aload_n hx hb dX0_init_65 rfl (lv_at hl 0 rfl) ?_
  refine lv_bipush (v := 32) hx hb dX0_init_66 (by decide) ?_
  refine va_newa (atype := .int) hx hb (hts (.arrayClass .int) mw_0_1) (ty := .int) rfl hK hP hD hS hA (n := 32) (N' := 32) (a0 := (32, .inl (fun _ => 0))) (fun _ => rfl) (by decide) (by decide) (Nat.le_of_ble_eq_true rfl) (Nat.le_of_ble_eq_true rfl) (Nat.le_of_ble_eq_true rfl) dX0_init_68 (fun q_11 cA_12 H hK hP hD hS => ?_)
  have hP : va_P (dC, dI) vwCl [(h0, .inr (0, [.null, .ref q_1, .long 0, .ref q_3, .long 0, .int (-1), .int 0, .ref q_5, .ref q_7, .ref q_9, .null, .int 0, .long 0])), (q_1, .inl (cA_2, 36, .inr (.inl (fun _ => 0)))), (q_3, .inl (cA_4, 36, .inl (fun _ => 0))), (q_5, .inl (cA_6, 20, .inl (fun _ => 0))), (q_7, .inl (cA_8, 20, .inl (fun _ => 0))), (q_9, .inl (cA_10, 640, .inl (fun _ => 0))), (q_11, .inl (cA_12, 32, .inl (fun _ => 0)))] H := hP
  have hD : va_D A [(h0, .inr (0, [.null, .ref q_1, .long 0, .ref q_3, .long 0, .int (-1), .int 0, .ref q_5, .ref q_7, .ref q_9, .null, .int 0, .long 0])), (q_1, .inl (cA_2, 36, .inr (.inl (fun _ => 0)))), (q_3, .inl (cA_4, 36, .inl (fun _ => 0))), (q_5, .inl (cA_6, 20, .inl (fun _ => 0))), (q_7, .inl (cA_8, 20, .inl (fun _ => 0))), (q_9, .inl (cA_10, 640, .inl (fun _ => 0))), (q_11, .inl (cA_12, 32, .inl (fun _ => 0)))] := hD
  have hK : va_K (dC, dI) vwCl [(cA_2, .long), (cA_4, .int), (cA_6, .int), (cA_8, .int), (cA_10, .int), (cA_12, .int)] s := hK
  refine W.widen (k := 6) (n := 784) (Nat.le_of_ble_eq_true rfl) (Nat.le_of_ble_eq_true rfl) ?_
  refine va_putF (D := (dC, dI)) (ci := 0) (v := .ref q_11) (ty := .array .int) (C := RX0) (T := TX0) (N := 13) hx hb hts inlX0 tyX0 tyX0_ok nmX0 hown hK hP hD hS 0 rfl rfl 10 (by decide) (hts (.fieldLink RX0 42 "ShapeReader$Matcher" "path" "[I") mw_0_27) (fun _ h9 => h9) rfl hin rfl (by decide +kernel) rfl rfl (Nat.le_of_ble_eq_true rfl) dX0_init_70 (fun H locs hP hD hS => ?_)
  have hP : va_P (dC, dI) vwCl [(h0, .inr (0, [.null, .ref q_1, .long 0, .ref q_3, .long 0, .int (-1), .int 0, .ref q_5, .ref q_7, .ref q_9, .ref q_11, .int 0, .long 0])), (q_1, .inl (cA_2, 36, .inr (.inl (fun _ => 0)))), (q_3, .inl (cA_4, 36, .inl (fun _ => 0))), (q_5, .inl (cA_6, 20, .inl (fun _ => 0))), (q_7, .inl (cA_8, 20, .inl (fun _ => 0))), (q_9, .inl (cA_10, 640, .inl (fun _ => 0))), (q_11, .inl (cA_12, 32, .inl (fun _ => 0)))] H := hP
  have hD : va_D A [(h0, .inr (0, [.null, .ref q_1, .long 0, .ref q_3, .long 0, .int (-1), .int 0, .ref q_5, .ref q_7, .ref q_9, .ref q_11, .int 0, .long 0])), (q_1, .inl (cA_2, 36, .inr (.inl (fun _ => 0)))), (q_3, .inl (cA_4, 36, .inl (fun _ => 0))), (q_5, .inl (cA_6, 20, .inl (fun _ => 0))), (q_7, .inl (cA_8, 20, .inl (fun _ => 0))), (q_9, .inl (cA_10, 640, .inl (fun _ => 0))), (q_11, .inl (cA_12, 32, .inl (fun _ => 0)))] := hD
  refine lv_aload_n hx hb dX0_init_73 rfl (lv_at hl 0 rfl) ?_
  refine lv_iconst (v := 0) hx hb dX0_init_74 (by decide) ?_
  refine va_put (D := (dC, dI)) (ci := 0) (v := .int 0) (ty := .int) (C := RX0) (T := TX0) (N := 13) hx hb hts inlX0 tyX0 tyX0_ok nmX0 hown hK hP hD hS 0 rfl rfl 11 (by decide) (hts (.fieldLink RX0 45 "ShapeReader$Matcher" "steps" "I") mw_0_28) (fun _ h9 => h9) rfl (by decide +kernel) rfl rfl (Nat.le_of_ble_eq_true rfl) dX0_init_75 (fun H locs hP hD hS => ?_)
  have hP : va_P (dC, dI) vwCl [(h0, .inr (0, [.null, .ref q_1, .long 0, .ref q_3, .long 0, .int (-1), .int 0, .ref q_5, .ref q_7, .ref q_9, .ref q_11, .int 0, .long 0])), (q_1, .inl (cA_2, 36, .inr (.inl (fun _ => 0)))), (q_3, .inl (cA_4, 36, .inl (fun _ => 0))), (q_5, .inl (cA_6, 20, .inl (fun _ => 0))), (q_7, .inl (cA_8, 20, .inl (fun _ => 0))), (q_9, .inl (cA_10, 640, .inl (fun _ => 0))), (q_11, .inl (cA_12, 32, .inl (fun _ => 0)))] H := hP
  have hD : va_D A [(h0, .inr (0, [.null, .ref q_1, .long 0, .ref q_3, .long 0, .int (-1), .int 0, .ref q_5, .ref q_7, .ref q_9, .ref q_11, .int 0, .long 0])), (q_1, .inl (cA_2, 36, .inr (.inl (fun _ => 0)))), (q_3, .inl (cA_4, 36, .inl (fun _ => 0))), (q_5, .inl (cA_6, 20, .inl (fun _ => 0))), (q_7, .inl (cA_8, 20, .inl (fun _ => 0))), (q_9, .inl (cA_10, 640, .inl (fun _ => 0))), (q_11, .inl (cA_12, 32, .inl (fun _ => 0)))] := hD
  refine lv_aload_n hx hb dX0_init_78 rfl (lv_at hl 0 rfl) ?_
  refine lv_lconst (v := 0) hx hb dX0_init_79 (by decide) ?_
  refine va_put (D := (dC, dI)) (ci := 0) (v := .long 0) (ty := .long) (C := RX0) (T := TX0) (N := 13) hx hb hts inlX0 tyX0 tyX0_ok nmX0 hown hK hP hD hS 0 rfl rfl 12 (by decide) (hts (.fieldLink RX0 48 "ShapeReader$Matcher" "seen" "J") mw_0_29) (fun _ h9 => h9) rfl (by decide +kernel) rfl rfl (Nat.le_of_ble_eq_true rfl) dX0_init_80 (fun H locs hP hD hS => ?_)
  have hP : va_P (dC, dI) vwCl [(h0, .inr (0, [.null, .ref q_1, .long 0, .ref q_3, .long 0, .int (-1), .int 0, .ref q_5, .ref q_7, .ref q_9, .ref q_11, .int 0, .long 0])), (q_1, .inl (cA_2, 36, .inr (.inl (fun _ => 0)))), (q_3, .inl (cA_4, 36, .inl (fun _ => 0))), (q_5, .inl (cA_6, 20, .inl (fun _ => 0))), (q_7, .inl (cA_8, 20, .inl (fun _ => 0))), (q_9, .inl (cA_10, 640, .inl (fun _ => 0))), (q_11, .inl (cA_12, 32, .inl (fun _ => 0)))] H := hP
  have hD : va_D A [(h0, .inr (0, [.null, .ref q_1, .long 0, .ref q_3, .long 0, .int (-1), .int 0, .ref q_5, .ref q_7, .ref q_9, .ref q_11, .int 0, .long 0])), (q_1, .inl (cA_2, 36, .inr (.inl (fun _ => 0)))), (q_3, .inl (cA_4, 36, .inl (fun _ => 0))), (q_5, .inl (cA_6, 20, .inl (fun _ => 0))), (q_7, .inl (cA_8, 20, .inl (fun _ => 0))), (q_9, .inl (cA_10, 640, .inl (fun _ => 0))), (q_11, .inl (cA_12, 32, .inl (fun _ => 0)))] := hD
  refine lv_aload_n hx hb dX0_init_83 rfl (lv_at hl 0 rfl) ?_
  refine lv_aload_n hx hb dX0_init_84 rfl (lv_at hl 1 rfl) ?_
  refine va_putF (D := (dC, dI)) (ci := 0) (v := .ref a1) (ty := .object "ShapeReader$Shapes") (C := RX0) (T := TX0) (N := 13) hx hb hts inlX0 tyX0 tyX0_ok nmX0 hown hK hP hD hS 0 rfl rfl 0 (by decide) (hts (.fieldLink RX0 51 "ShapeReader$Matcher" "shapes" "LShapeReader$Shapes;") mw_1_0) (fun _ h9 => h9) rfl hin rfl (by decide +kernel) rfl rfl (Nat.le_of_ble_eq_true rfl) dX0_init_85 (fun H locs hP hD hS => ?_)
  have hP : va_P (dC, dI) vwCl [(h0, .inr (0, [.ref a1, .ref q_1, .long 0, .ref q_3, .long 0, .int (-1), .int 0, .ref q_5, .ref q_7, .ref q_9, .ref q_11, .int 0, .long 0])), (q_1, .inl (cA_2, 36, .inr (.inl (fun _ => 0)))), (q_3, .inl (cA_4, 36, .inl (fun _ => 0))), (q_5, .inl (cA_6, 20, .inl (fun _ => 0))), (q_7, .inl (cA_8, 20, .inl (fun _ => 0))), (q_9, .inl (cA_10, 640, .inl (fun _ => 0))), (q_11, .inl (cA_12, 32, .inl (fun _ => 0)))] H := hP
  have hD : va_D A [(h0, .inr (0, [.ref a1, .ref q_1, .long 0, .ref q_3, .long 0, .int (-1), .int 0, .ref q_5, .ref q_7, .ref q_9, .ref q_11, .int 0, .long 0])), (q_1, .inl (cA_2, 36, .inr (.inl (fun _ => 0)))), (q_3, .inl (cA_4, 36, .inl (fun _ => 0))), (q_5, .inl (cA_6, 20, .inl (fun _ => 0))), (q_7, .inl (cA_8, 20, .inl (fun _ => 0))), (q_9, .inl (cA_10, 640, .inl (fun _ => 0))), (q_11, .inl (cA_12, 32, .inl (fun _ => 0)))] := hD
  refine lv_aload_n hx hb dX0_init_88 rfl (lv_at hl 0 rfl) ?_
  refine va_get (D := (dC, dI)) (ci := 0) (v := .ref q_3) (C := RX0) (T := TX0) (N := 13) hx hb hts inlX0 hown hK hP 0 rfl rfl 3 (by decide) (hts (.fieldLink RX0 19 "ShapeReader$Matcher" "verdicts" "[I") mw_0_20) (fun _ h9 => h9) rfl dX0_init_89 ?_
  refine lv_iconst (v := (-1)) hx hb dX0_init_92 (by decide) ?_
  have hPc := hP.sub (ws' := [(q_3, .inl (cA_4, 36, .inl (fun _ => 0)))]) [2] rfl
  have hDc := hD.sub (ws' := [(q_3, .inl (cA_4, 36, .inl (fun _ => 0)))]) [2] (by decide) rfl
  have hKc := hK.sub (tys' := [(cA_4, .int)]) [1] rfl
  have hFc := va_free (wc := [(q_3, .inl (cA_4, 36, .inl (fun _ => 0)))]) hD hS hA [2] rfl
  refine va_callv (va_runS (As := [.ref q_3, .int (-1)]) (rest := []) ⟨hx, hb, hml, hown, hts⟩ (c_fill l dC dI q_3 36 cA_4 (fun _ => 0) (-1) (by decide) H.size) (va_cwS 2 hts (gS mw_1_1 mw_1_2 mw_1_3 mw_58_3) rfl rfl rfl (by decide +kernel) ⟨(Nat.le_of_ble_eq_true rfl), (Nat.le_of_ble_eq_true rfl)⟩) (vS hKc hPc hDc hN) rfl rfl hl.1 rfl (lv_room (Nat.le_of_ble_eq_true rfl)) dX0_init_93 ⟨(Nat.le_of_ble_eq_true rfl), (Nat.le_of_ble_eq_true rfl)⟩) hS (fun q _ h => hFc q h) hFc (fun u t H1 locs ht hvm hw hB hz1 hk1 hS => ?_)
  obtain ⟨hP1, hK1, hD1⟩ := hB
  rw [ht] at hP1
  have hK1 := va_K.moved hvm.symm hK1
  obtain ⟨hP, hD⟩ := va_join (wr := [(h0, .inr (0, [.ref a1, .ref q_1, .long 0, .ref q_3, .long 0, .int (-1), .int 0, .ref q_5, .ref q_7, .ref q_9, .ref q_11, .int 0, .long 0])), (q_1, .inl (cA_2, 36, .inr (.inl (fun _ => 0)))), (q_5, .inl (cA_6, 20, .inl (fun _ => 0))), (q_7, .inl (cA_8, 20, .inl (fun _ => 0))), (q_9, .inl (cA_10, 640, .inl (fun _ => 0))), (q_11, .inl (cA_12, 32, .inl (fun _ => 0)))]) (w1 := [(q_3, .inl (cA_4, 36, .inl (fun _ => (-1))))]) hP hD [2] [0, 1, 3, 4, 5, 6] rfl rfl (by decide) (by decide) hk1 hFc hP1 hD1
  clear hPc hDc hKc hP1 hK1 hD1 hFc hk1 hz1
  generalize H1 = H at hP hS ⊢
  have hP : va_P (dC, dI) vwCl [(h0, .inr (0, [.ref a1, .ref q_1, .long 0, .ref q_3, .long 0, .int (-1), .int 0, .ref q_5, .ref q_7, .ref q_9, .ref q_11, .int 0, .long 0])), (q_1, .inl (cA_2, 36, .inr (.inl (fun _ => 0)))), (q_5, .inl (cA_6, 20, .inl (fun _ => 0))), (q_7, .inl (cA_8, 20, .inl (fun _ => 0))), (q_9, .inl (cA_10, 640, .inl (fun _ => 0))), (q_11, .inl (cA_12, 32, .inl (fun _ => 0))), (q_3, .inl (cA_4, 36, .inl (fun _ => (-1))))] H := hP
  have hD : va_D A [(h0, .inr (0, [.ref a1, .ref q_1, .long 0, .ref q_3, .long 0, .int (-1), .int 0, .ref q_5, .ref q_7, .ref q_9, .ref q_11, .int 0, .long 0])), (q_1, .inl (cA_2, 36, .inr (.inl (fun _ => 0)))), (q_5, .inl (cA_6, 20, .inl (fun _ => 0))), (q_7, .inl (cA_8, 20, .inl (fun _ => 0))), (q_9, .inl (cA_10, 640, .inl (fun _ => 0))), (q_11, .inl (cA_12, 32, .inl (fun _ => 0))), (q_3, .inl (cA_4, 36, .inl (fun _ => (-1))))] := hD
  have hP9 := hP.sub (ws' := [(h0, .inr (0, [.ref a1, .ref q_1, .long 0, .ref q_3, .long 0, .int (-1), .int 0, .ref q_5, .ref q_7, .ref q_9, .ref q_11, .int 0, .long 0])), (q_1, .inl (cA_2, 36, .inr (.inl (fun _ => 0)))), (q_3, .inl (cA_4, 36, .inl (fun _ => (-1)))), (q_5, .inl (cA_6, 20, .inl (fun _ => 0))), (q_7, .inl (cA_8, 20, .inl (fun _ => 0))), (q_9, .inl (cA_10, 640, .inl (fun _ => 0))), (q_11, .inl (cA_12, 32, .inl (fun _ => 0)))]) [0, 1, 6, 2, 3, 4, 5] rfl
  have hD9 := hD.sub (ws' := [(h0, .inr (0, [.ref a1, .ref q_1, .long 0, .ref q_3, .long 0, .int (-1), .int 0, .ref q_5, .ref q_7, .ref q_9, .ref q_11, .int 0, .long 0])), (q_1, .inl (cA_2, 36, .inr (.inl (fun _ => 0)))), (q_3, .inl (cA_4, 36, .inl (fun _ => (-1)))), (q_5, .inl (cA_6, 20, .inl (fun _ => 0))), (q_7, .inl (cA_8, 20, .inl (fun _ => 0))), (q_9, .inl (cA_10, 640, .inl (fun _ => 0))), (q_11, .inl (cA_12, 32, .inl (fun _ => 0)))]) [0, 1, 6, 2, 3, 4, 5] (by decide) rfl
  have hK9 := hK.sub (tys' := [(cA_2, .long), (cA_4, .int), (cA_6, .int), (cA_8, .int), (cA_10, .int), (cA_12, .int)]) [0, 1, 2, 3, 4, 5] rfl
  refine W.widen (k := 6) (n := 784) (Nat.le_of_ble_eq_true rfl) (Nat.le_of_ble_eq_true rfl) ?_
  exact W.vret hx hb hr (fun t ht hW => ⟨⟨(), rfl, trivial, q_1, cA_2, q_3, cA_4, q_5, cA_6, q_7, cA_8, q_9, cA_10, q_11, cA_12, by rw [ht]; exact hP9, va_K.moved hW.alike hK9, hD9⟩, hS.F ht⟩) hS.2.2 dX0_init_96

set_option maxRecDepth 100000 in
set_option maxHeartbeats 4000000 in
theorem c_j1 (l : Launch) (dC : Nat → ClassId) (dI : Nat → Nat → Nat) (h0 : Nat) (sz : Nat) : Met l yX1_init (.code yX1_init cX1_init 1 none :: pw) ({ frames := 1, cells := 3, slots := 1608, locals := 23 }) (va_Pc [.ref h0] (vPre dC dI [(h0, .inr (1, [.null, .null, .null]))] [] sz)) (va_Qv (fun (_ : Unit) => True) (fun (_ : Unit) t => ∃ (e1 : Nat), ∃ (k1 : ClassId), ∃ (e2 : Nat), ∃ (k2 : ClassId), ∃ (e3 : Nat), ∃ (k3 : ClassId), vPst dC dI (va_A [(h0, .inr (1, [.null, .null, .null]))] sz) [(h0, .inr (1, [.ref e1, .ref e2, .ref e3])), (e1, .inl (k1, 1600, .inl (fun _ => 0))), (e2, .inl (k2, 4, .inl (fun _ => 0))), (e3, .inl (k3, 4, .inl (fun _ => (-1))))] [(k1, .byte), (k2, .int), (k3, .int)] t) (va_A [(h0, .inr (1, [.null, .null, .null]))] sz)) 3 1608 (va_A [(h0, .inr (1, [.null, .null, .null]))] sz) := by
  refine Met.ofW (cc := cX1_init) (maxL := 1) (ret := none) (by decide) rfl ?_
  intro p e s m args below meth c s₁ B hml hv
  obtain ⟨rfl, hsz, hP, hK, hD0, hN⟩ := hv
  have hx := B.exec
  have hb := B.bytes
  have hr := B.returns
  have hts := atoms_spec (ws := .code yX1_init cX1_init 1 none :: pw) B.pre
  have hts : ∀ w ∈ pw, w.before _ s = true := fun w h => hts w (List.mem_cons_of_mem _ h)
  have hown : s.vm.findClass RX1 = some m.cls := findClass_of_methodNamed B.named
  have hlocks := B.notSynchronized
  have hin : meth.name = "<init>" := (name_of_methodNamed B.named B.method).1
  subst hsz
  have hD := hD0.self (sz := s.heap.size)
  generalize hAe : va_A [(h0, .inr (1, [.null, .null, .null]))] s.heap.size = A at hD ⊢
  have hA : ∀ q : Nat, s.heap.size ≤ q → A q := fun q h => by rw [← hAe]; exact Or.inr h
  have hS : va_S A s.heap s.heap [] := va_S.rf
  have hP : va_P (dC, dI) vwCl [(h0, .inr (1, [.null, .null, .null]))] s.heap := hP
  have hl := lv_entry ([.ref h0]) (n := 1) (Nat.le_of_ble_eq_true rfl)
  rw [lg_entry_eq]
  generalize (lg_sl ([.ref h0]) ++ List.replicate (1 - (lg_sl ([.ref h0])).length) Slot.unset).toArray = ls at hl ⊢
  have hl : lv_has ls 1 [(0, .ref h0)] := hl
  refine lv_aload_n hx hb dX1_init_0 rfl (lv_at hl 0 rfl) ?_
  refine W.objInit hx hb hown (hts (.methodLink RX1 3 objectInit) mw_4_6) (hts (.instanceMethod objectInit) mw_0_17) (hts (.code objectInit ⟨#[0xb1]⟩ 1 none) mw_47_1) rfl (by rw [hml]; exact hl.1) rfl dX1_init_1 (Nat.le_of_ble_eq_true rfl) (Nat.le_of_ble_eq_true rfl) ?_
  refine W.eq (g2 := F0 m 4 ls []) rfl ?_
  refine lv_aload_n hx hb dX1_init_4 rfl (lv_at hl 0 rfl) ?_
  refine lv_sipush (v := 1600) hx hb dX1_init_5 (by decide) ?_
  refine va_newa (atype := .byte) hx hb (hts (.arrayClass .byte) mw_0_0) (ty := .byte) rfl hK hP hD hS hA (n := 1600) (N' := 1600) (a0 := (1600, .inl (fun _ => 0))) (fun _ => rfl) (by decide) (by decide) (Nat.le_of_ble_eq_true rfl) (Nat.le_of_ble_eq_true rfl) (Nat.le_of_ble_eq_true rfl) dX1_init_8 (fun q_1 cA_2 H hK hP hD hS => ?_)
  have hP : va_P (dC, dI) vwCl [(h0, .inr (1, [.null, .null, .null])), (q_1, .inl (cA_2, 1600, .inl (fun _ => 0)))] H := hP
  have hD : va_D A [(h0, .inr (1, [.null, .null, .null])), (q_1, .inl (cA_2, 1600, .inl (fun _ => 0)))] := hD
  have hK : va_K (dC, dI) vwCl [(cA_2, .byte)] s := hK
  refine W.widen (k := 1) (n := 1600) (Nat.le_of_ble_eq_true rfl) (Nat.le_of_ble_eq_true rfl) ?_
  refine va_putF (D := (dC, dI)) (ci := 1) (v := .ref q_1) (ty := .array .byte) (C := RX1) (T := TX1) (N := 3) hx hb hts inlX1 tyX1 tyX1_ok nmX1 hown hK hP hD hS 0 rfl rfl 0 (by decide) (hts (.fieldLink RX1 9 "ShapeReader$Messages" "bytes" "[B") mw_4_7) (fun _ h9 => h9) rfl hin rfl (by decide +kernel) rfl rfl (Nat.le_of_ble_eq_true rfl) dX1_init_10 (fun H locs hP hD hS => ?_)
  have hP : va_P (dC, dI) vwCl [(h0, .inr (1, [.ref q_1, .null, .null])), (q_1, .inl (cA_2, 1600, .inl (fun _ => 0)))] H := hP
  have hD : va_D A [(h0, .inr (1, [.ref q_1, .null, .null])), (q_1, .inl (cA_2, 1600, .inl (fun _ => 0)))] := hD
  refine lv_aload_n hx hb dX1_init_13 rfl (lv_at hl 0 rfl) ?_
  refine lv_iconst (v := 4) hx hb dX1_init_14 (by decide) ?_
  refine va_newa (atype := .int) hx hb (hts (.arrayClass .int) mw_0_1) (ty := .int) rfl hK hP hD hS hA (n := 4) (N' := 4) (a0 := (4, .inl (fun _ => 0))) (fun _ => rfl) (by decide) (by decide) (Nat.le_of_ble_eq_true rfl) (Nat.le_of_ble_eq_true rfl) (Nat.le_of_ble_eq_true rfl) dX1_init_15 (fun q_3 cA_4 H hK hP hD hS => ?_)
  have hP : va_P (dC, dI) vwCl [(h0, .inr (1, [.ref q_1, .null, .null])), (q_1, .inl (cA_2, 1600, .inl (fun _ => 0))), (q_3, .inl (cA_4, 4, .inl (fun _ => 0)))] H := hP
  have hD : va_D A [(h0, .inr (1, [.ref q_1, .null, .null])), (q_1, .inl (cA_2, 1600, .inl (fun _ => 0))), (q_3, .inl (cA_4, 4, .inl (fun _ => 0)))] := hD
  have hK : va_K (dC, dI) vwCl [(cA_2, .byte), (cA_4, .int)] s := hK
  refine W.widen (k := 2) (n := 1604) (Nat.le_of_ble_eq_true rfl) (Nat.le_of_ble_eq_true rfl) ?_
  refine va_putF (D := (dC, dI)) (ci := 1) (v := .ref q_3) (ty := .array .int) (C := RX1) (T := TX1) (N := 3) hx hb hts inlX1 tyX1 tyX1_ok nmX1 hown hK hP hD hS 0 rfl rfl 1 (by decide) (hts (.fieldLink RX1 15 "ShapeReader$Messages" "sizes" "[I") mw_4_8) (fun _ h9 => h9) rfl hin rfl (by decide +kernel) rfl rfl (Nat.le_of_ble_eq_true rfl) dX1_init_17 (fun H locs hP hD hS => ?_)
  have hP : va_P (dC, dI) vwCl [(h0, .inr (1, [.ref q_1, .ref q_3, .null])), (q_1, .inl (cA_2, 1600, .inl (fun _ => 0))), (q_3, .inl (cA_4, 4, .inl (fun _ => 0)))] H := hP
  have hD : va_D A [(h0, .inr (1, [.ref q_1, .ref q_3, .null])), (q_1, .inl (cA_2, 1600, .inl (fun _ => 0))), (q_3, .inl (cA_4, 4, .inl (fun _ => 0)))] := hD
  refine lv_aload_n hx hb dX1_init_20 rfl (lv_at hl 0 rfl) ?_
  refine lv_iconst (v := 4) hx hb dX1_init_21 (by decide) ?_
  refine va_newa (atype := .int) hx hb (hts (.arrayClass .int) mw_0_1) (ty := .int) rfl hK hP hD hS hA (n := 4) (N' := 4) (a0 := (4, .inl (fun _ => 0))) (fun _ => rfl) (by decide) (by decide) (Nat.le_of_ble_eq_true rfl) (Nat.le_of_ble_eq_true rfl) (Nat.le_of_ble_eq_true rfl) dX1_init_22 (fun q_5 cA_6 H hK hP hD hS => ?_)
  have hP : va_P (dC, dI) vwCl [(h0, .inr (1, [.ref q_1, .ref q_3, .null])), (q_1, .inl (cA_2, 1600, .inl (fun _ => 0))), (q_3, .inl (cA_4, 4, .inl (fun _ => 0))), (q_5, .inl (cA_6, 4, .inl (fun _ => 0)))] H := hP
  have hD : va_D A [(h0, .inr (1, [.ref q_1, .ref q_3, .null])), (q_1, .inl (cA_2, 1600, .inl (fun _ => 0))), (q_3, .inl (cA_4, 4, .inl (fun _ => 0))), (q_5, .inl (cA_6, 4, .inl (fun _ => 0)))] := hD
  have hK : va_K (dC, dI) vwCl [(cA_2, .byte), (cA_4, .int), (cA_6, .int)] s := hK
  refine W.widen (k := 3) (n := 1608) (Nat.le_of_ble_eq_true rfl) (Nat.le_of_ble_eq_true rfl) ?_
  refine va_putF (D := (dC, dI)) (ci := 1) (v := .ref q_5) (ty := .array .int) (C := RX1) (T := TX1) (N := 3) hx hb hts inlX1 tyX1 tyX1_ok nmX1 hown hK hP hD hS 0 rfl rfl 2 (by decide) (hts (.fieldLink RX1 19 "ShapeReader$Messages" "plansUsed" "[I") mw_4_9) (fun _ h9 => h9) rfl hin rfl (by decide +kernel) rfl rfl (Nat.le_of_ble_eq_true rfl) dX1_init_24 (fun H locs hP hD hS => ?_)
  have hP : va_P (dC, dI) vwCl [(h0, .inr (1, [.ref q_1, .ref q_3, .ref q_5])), (q_1, .inl (cA_2, 1600, .inl (fun _ => 0))), (q_3, .inl (cA_4, 4, .inl (fun _ => 0))), (q_5, .inl (cA_6, 4, .inl (fun _ => 0)))] H := hP
  have hD : va_D A [(h0, .inr (1, [.ref q_1, .ref q_3, .ref q_5])), (q_1, .inl (cA_2, 1600, .inl (fun _ => 0))), (q_3, .inl (cA_4, 4, .inl (fun _ => 0))), (q_5, .inl (cA_6, 4, .inl (fun _ => 0)))] := hD
  refine lv_aload_n hx hb dX1_init_27 rfl (lv_at hl 0 rfl) ?_
  refine va_get (D := (dC, dI)) (ci := 1) (v := .ref q_5) (C := RX1) (T := TX1) (N := 3) hx hb hts inlX1 hown hK hP 0 rfl rfl 2 (by decide) (hts (.fieldLink RX1 19 "ShapeReader$Messages" "plansUsed" "[I") mw_4_9) (fun _ h9 => h9) rfl dX1_init_28 ?_
  refine lv_iconst (v := (-1)) hx hb dX1_init_31 (by decide) ?_
  have hPc := hP.sub (ws' := [(q_5, .inl (cA_6, 4, .inl (fun _ => 0)))]) [3] rfl
  have hDc := hD.sub (ws' := [(q_5, .inl (cA_6, 4, .inl (fun _ => 0)))]) [3] (by decide) rfl
  have hKc := hK.sub (tys' := [(cA_6, .int)]) [2] rfl
  have hFc := va_free (wc := [(q_5, .inl (cA_6, 4, .inl (fun _ => 0)))]) hD hS hA [3] rfl
  refine va_callv (va_runS (As := [.ref q_5, .int (-1)]) (rest := []) ⟨hx, hb, hml, hown, hts⟩ (c_fill l dC dI q_5 4 cA_6 (fun _ => 0) (-1) (by decide) H.size) (va_cwS 2 hts (gS mw_4_10 mw_1_2 mw_1_3 mw_58_3) rfl rfl rfl (by decide +kernel) ⟨(Nat.le_of_ble_eq_true rfl), (Nat.le_of_ble_eq_true rfl)⟩) (vS hKc hPc hDc hN) rfl rfl hl.1 rfl (lv_room (Nat.le_of_ble_eq_true rfl)) dX1_init_32 ⟨(Nat.le_of_ble_eq_true rfl), (Nat.le_of_ble_eq_true rfl)⟩) hS (fun q _ h => hFc q h) hFc (fun u t H1 locs ht hvm hw hB hz1 hk1 hS => ?_)
  obtain ⟨hP1, hK1, hD1⟩ := hB
  rw [ht] at hP1
  have hK1 := va_K.moved hvm.symm hK1
  obtain ⟨hP, hD⟩ := va_join (wr := [(h0, .inr (1, [.ref q_1, .ref q_3, .ref q_5])), (q_1, .inl (cA_2, 1600, .inl (fun _ => 0))), (q_3, .inl (cA_4, 4, .inl (fun _ => 0)))]) (w1 := [(q_5, .inl (cA_6, 4, .inl (fun _ => (-1))))]) hP hD [3] [0, 1, 2] rfl rfl (by decide) (by decide) hk1 hFc hP1 hD1
  clear hPc hDc hKc hP1 hK1 hD1 hFc hk1 hz1
  generalize H1 = H at hP hS ⊢
  have hP : va_P (dC, dI) vwCl [(h0, .inr (1, [.ref q_1, .ref q_3, .ref q_5])), (q_1, .inl (cA_2, 1600, .inl (fun _ => 0))), (q_3, .inl (cA_4, 4, .inl (fun _ => 0))), (q_5, .inl (cA_6, 4, .inl (fun _ => (-1))))] H := hP
  have hD : va_D A [(h0, .inr (1, [.ref q_1, .ref q_3, .ref q_5])), (q_1, .inl (cA_2, 1600, .inl (fun _ => 0))), (q_3, .inl (cA_4, 4, .inl (fun _ => 0))), (q_5, .inl (cA_6, 4, .inl (fun _ => (-1))))] := hD
  have hP9 := hP.sub (ws' := [(h0, .inr (1, [.ref q_1, .ref q_3, .ref q_5])), (q_1, .inl (cA_2, 1600, .inl (fun _ => 0))), (q_3, .inl (cA_4, 4, .inl (fun _ => 0))), (q_5, .inl (cA_6, 4, .inl (fun _ => (-1))))]) [0, 1, 2, 3] rfl
  have hD9 := hD.sub (ws' := [(h0, .inr (1, [.ref q_1, .ref q_3, .ref q_5])), (q_1, .inl (cA_2, 1600, .inl (fun _ => 0))), (q_3, .inl (cA_4, 4, .inl (fun _ => 0))), (q_5, .inl (cA_6, 4, .inl (fun _ => (-1))))]) [0, 1, 2, 3] (by decide) rfl
  have hK9 := hK.sub (tys' := [(cA_2, .byte), (cA_4, .int), (cA_6, .int)]) [0, 1, 2] rfl
  refine W.widen (k := 3) (n := 1608) (Nat.le_of_ble_eq_true rfl) (Nat.le_of_ble_eq_true rfl) ?_
  exact W.vret hx hb hr (fun t ht hW => ⟨⟨(), rfl, trivial, q_1, cA_2, q_3, cA_4, q_5, cA_6, by rw [ht]; exact hP9, va_K.moved hW.alike hK9, hD9⟩, hS.F ht⟩) hS.2.2 dX1_init_35
