theorem dX1_byteOf_0 : decode cX1_byteOf 0 = .ok (.iload_n 1, 1) := by decide +kernel
theorem dX1_byteOf_1 : decode cX1_byteOf 1 = .ok (.sipush 400, 3) := by decide +kernel
theorem dX1_byteOf_4 : decode cX1_byteOf 4 = .ok (.imul, 1) := by decide +kernel
theorem dX1_byteOf_5 : decode cX1_byteOf 5 = .ok (.iload_n 2, 1) := by decide +kernel
theorem dX1_byteOf_6 : decode cX1_byteOf 6 = .ok (.iadd, 1) := by decide +kernel
theorem dX1_byteOf_7 : decode cX1_byteOf 7 = .ok (.istore_n 3, 1) := by decide +kernel
theorem dX1_byteOf_8 : decode cX1_byteOf 8 = .ok (.iload_n 3, 1) := by decide +kernel
theorem dX1_byteOf_9 : decode cX1_byteOf 9 = .ok (.ifCond .lt 23, 3) := by decide +kernel
theorem dX1_byteOf_12 : decode cX1_byteOf 12 = .ok (.iload_n 3, 1) := by decide +kernel
theorem dX1_byteOf_13 : decode cX1_byteOf 13 = .ok (.sipush 1600, 3) := by decide +kernel
theorem dX1_byteOf_16 : decode cX1_byteOf 16 = .ok (.if_icmp .ge 16, 3) := by decide +kernel
theorem dX1_byteOf_19 : decode cX1_byteOf 19 = .ok (.aload_n 0, 1) := by decide +kernel
theorem dX1_byteOf_20 : decode cX1_byteOf 20 = .ok (.getfield 9, 3) := by decide +kernel
theorem dX1_byteOf_23 : decode cX1_byteOf 23 = .ok (.iload_n 3, 1) := by decide +kernel
theorem dX1_byteOf_24 : decode cX1_byteOf 24 = .ok (.baload, 1) := by decide +kernel
theorem dX1_byteOf_25 : decode cX1_byteOf 25 = .ok (.sipush 255, 3) := by decide +kernel
theorem dX1_byteOf_28 : decode cX1_byteOf 28 = .ok (.iand, 1) := by decide +kernel
theorem dX1_byteOf_29 : decode cX1_byteOf 29 = .ok (.goto 4, 3) := by decide +kernel
theorem dX1_byteOf_32 : decode cX1_byteOf 32 = .ok (.iconst 0, 1) := by decide +kernel
theorem dX1_byteOf_33 : decode cX1_byteOf 33 = .ok (.ireturn, 1) := by decide +kernel
theorem dX4_stepBack_0 : decode cX4_stepBack 0 = .ok (.aload_n 0, 1) := by decide +kernel
theorem dX4_stepBack_1 : decode cX4_stepBack 1 = .ok (.getfield 21, 3) := by decide +kernel
theorem dX4_stepBack_4 : decode cX4_stepBack 4 = .ok (.ifCond .ne 13, 3) := by decide +kernel
theorem dX4_stepBack_7 : decode cX4_stepBack 7 = .ok (.aload_n 0, 1) := by decide +kernel
theorem dX4_stepBack_8 : decode cX4_stepBack 8 = .ok (.dup, 1) := by decide +kernel
theorem dX4_stepBack_9 : decode cX4_stepBack 9 = .ok (.getfield 31, 3) := by decide +kernel
theorem dX4_stepBack_12 : decode cX4_stepBack 12 = .ok (.iconst 1, 1) := by decide +kernel
theorem dX4_stepBack_13 : decode cX4_stepBack 13 = .ok (.isub, 1) := by decide +kernel
theorem dX4_stepBack_14 : decode cX4_stepBack 14 = .ok (.putfield 31, 3) := by decide +kernel
theorem dX4_stepBack_17 : decode cX4_stepBack 17 = .ok (.return_, 1) := by decide +kernel
theorem dX4_takeByte_0 : decode cX4_takeByte 0 = .ok (.aload_n 0, 1) := by decide +kernel
theorem dX4_takeByte_1 : decode cX4_takeByte 1 = .ok (.getfield 21, 3) := by decide +kernel
theorem dX4_takeByte_4 : decode cX4_takeByte 4 = .ok (.ifCond .eq 5, 3) := by decide +kernel
theorem dX4_takeByte_7 : decode cX4_takeByte 7 = .ok (.iconst 0, 1) := by decide +kernel
theorem dX4_takeByte_8 : decode cX4_takeByte 8 = .ok (.ireturn, 1) := by decide +kernel
theorem dX4_takeByte_9 : decode cX4_takeByte 9 = .ok (.aload_n 0, 1) := by decide +kernel
theorem dX4_takeByte_10 : decode cX4_takeByte 10 = .ok (.getfield 15, 3) := by decide +kernel
theorem dX4_takeByte_13 : decode cX4_takeByte 13 = .ok (.aload_n 0, 1) := by decide +kernel
theorem dX4_takeByte_14 : decode cX4_takeByte 14 = .ok (.getfield 18, 3) := by decide +kernel
theorem dX4_takeByte_17 : decode cX4_takeByte 17 = .ok (.if_icmp .lt 15, 3) := by decide +kernel
theorem dX4_takeByte_20 : decode cX4_takeByte 20 = .ok (.aload_n 0, 1) := by decide +kernel
theorem dX4_takeByte_21 : decode cX4_takeByte 21 = .ok (.bipush 11, 2) := by decide +kernel
theorem dX4_takeByte_23 : decode cX4_takeByte 23 = .ok (.aload_n 0, 1) := by decide +kernel
theorem dX4_takeByte_24 : decode cX4_takeByte 24 = .ok (.getfield 18, 3) := by decide +kernel
theorem dX4_takeByte_27 : decode cX4_takeByte 27 = .ok (.invokevirtual 86, 3) := by decide +kernel
theorem dX4_takeByte_30 : decode cX4_takeByte 30 = .ok (.iconst 0, 1) := by decide +kernel
theorem dX4_takeByte_31 : decode cX4_takeByte 31 = .ok (.ireturn, 1) := by decide +kernel
theorem dX4_takeByte_32 : decode cX4_takeByte 32 = .ok (.aload_n 0, 1) := by decide +kernel
theorem dX4_takeByte_33 : decode cX4_takeByte 33 = .ok (.getfield 41, 3) := by decide +kernel
theorem dX4_takeByte_36 : decode cX4_takeByte 36 = .ok (.aload_n 0, 1) := by decide +kernel
theorem dX4_takeByte_37 : decode cX4_takeByte 37 = .ok (.getfield 9, 3) := by decide +kernel
theorem dX4_takeByte_40 : decode cX4_takeByte 40 = .ok (.aload_n 0, 1) := by decide +kernel
theorem dX4_takeByte_41 : decode cX4_takeByte 41 = .ok (.getfield 15, 3) := by decide +kernel
theorem dX4_takeByte_44 : decode cX4_takeByte 44 = .ok (.invokevirtual 215, 3) := by decide +kernel
theorem dX4_takeByte_47 : decode cX4_takeByte 47 = .ok (.istore_n 1, 1) := by decide +kernel
theorem dX4_takeByte_48 : decode cX4_takeByte 48 = .ok (.aload_n 0, 1) := by decide +kernel
theorem dX4_takeByte_49 : decode cX4_takeByte 49 = .ok (.dup, 1) := by decide +kernel
theorem dX4_takeByte_50 : decode cX4_takeByte 50 = .ok (.getfield 15, 3) := by decide +kernel
theorem dX4_takeByte_53 : decode cX4_takeByte 53 = .ok (.iconst 1, 1) := by decide +kernel
theorem dX4_takeByte_54 : decode cX4_takeByte 54 = .ok (.iadd, 1) := by decide +kernel
theorem dX4_takeByte_55 : decode cX4_takeByte 55 = .ok (.putfield 15, 3) := by decide +kernel
theorem dX4_takeByte_58 : decode cX4_takeByte 58 = .ok (.iload_n 1, 1) := by decide +kernel
theorem dX4_takeByte_59 : decode cX4_takeByte 59 = .ok (.ireturn, 1) := by decide +kernel
theorem dX4_takeCount_0 : decode cX4_takeCount 0 = .ok (.aload_n 0, 1) := by decide +kernel
theorem dX4_takeCount_1 : decode cX4_takeCount 1 = .ok (.iload_n 1, 1) := by decide +kernel
theorem dX4_takeCount_2 : decode cX4_takeCount 2 = .ok (.invokevirtual 196, 3) := by decide +kernel
theorem dX4_takeCount_5 : decode cX4_takeCount 5 = .ok (.lstore_n 3, 1) := by decide +kernel
theorem dX4_takeCount_6 : decode cX4_takeCount 6 = .ok (.lload_n 3, 1) := by decide +kernel
theorem dX4_takeCount_7 : decode cX4_takeCount 7 = .ok (.lconst 0, 1) := by decide +kernel
theorem dX4_takeCount_8 : decode cX4_takeCount 8 = .ok (.lcmp, 1) := by decide +kernel
theorem dX4_takeCount_9 : decode cX4_takeCount 9 = .ok (.ifCond .lt 10, 3) := by decide +kernel
theorem dX4_takeCount_12 : decode cX4_takeCount 12 = .ok (.lload_n 3, 1) := by decide +kernel
theorem dX4_takeCount_13 : decode cX4_takeCount 13 = .ok (.iload_n 2, 1) := by decide +kernel
theorem dX4_takeCount_14 : decode cX4_takeCount 14 = .ok (.i2l, 1) := by decide +kernel
theorem dX4_takeCount_15 : decode cX4_takeCount 15 = .ok (.lcmp, 1) := by decide +kernel
theorem dX4_takeCount_16 : decode cX4_takeCount 16 = .ok (.ifCond .le 10, 3) := by decide +kernel
theorem dX4_takeCount_19 : decode cX4_takeCount 19 = .ok (.aload_n 0, 1) := by decide +kernel
theorem dX4_takeCount_20 : decode cX4_takeCount 20 = .ok (.bipush 12, 2) := by decide +kernel
theorem dX4_takeCount_22 : decode cX4_takeCount 22 = .ok (.iload_n 1, 1) := by decide +kernel
theorem dX4_takeCount_23 : decode cX4_takeCount 23 = .ok (.invokevirtual 86, 3) := by decide +kernel
theorem dX4_takeCount_26 : decode cX4_takeCount 26 = .ok (.aload_n 0, 1) := by decide +kernel
theorem dX4_takeCount_27 : decode cX4_takeCount 27 = .ok (.getfield 21, 3) := by decide +kernel
theorem dX4_takeCount_30 : decode cX4_takeCount 30 = .ok (.ifCond .eq 7, 3) := by decide +kernel
theorem dX4_takeCount_33 : decode cX4_takeCount 33 = .ok (.iconst 0, 1) := by decide +kernel
theorem dX4_takeCount_34 : decode cX4_takeCount 34 = .ok (.goto 5, 3) := by decide +kernel
theorem dX4_takeCount_37 : decode cX4_takeCount 37 = .ok (.lload_n 3, 1) := by decide +kernel
theorem dX4_takeCount_38 : decode cX4_takeCount 38 = .ok (.l2i, 1) := by decide +kernel
theorem dX4_takeCount_39 : decode cX4_takeCount 39 = .ok (.ireturn, 1) := by decide +kernel
theorem dX4_takeNumber_0 : decode cX4_takeNumber 0 = .ok (.lconst 0, 1) := by decide +kernel
theorem dX4_takeNumber_1 : decode cX4_takeNumber 1 = .ok (.lstore_n 2, 1) := by decide +kernel
theorem dX4_takeNumber_2 : decode cX4_takeNumber 2 = .ok (.iconst 0, 1) := by decide +kernel
theorem dX4_takeNumber_3 : decode cX4_takeNumber 3 = .ok (.istore 4, 2) := by decide +kernel
theorem dX4_takeNumber_5 : decode cX4_takeNumber 5 = .ok (.iload 4, 2) := by decide +kernel
theorem dX4_takeNumber_7 : decode cX4_takeNumber 7 = .ok (.bipush 10, 2) := by decide +kernel
theorem dX4_takeNumber_9 : decode cX4_takeNumber 9 = .ok (.if_icmp .ge 61, 3) := by decide +kernel
theorem dX4_takeNumber_12 : decode cX4_takeNumber 12 = .ok (.aload_n 0, 1) := by decide +kernel
theorem dX4_takeNumber_13 : decode cX4_takeNumber 13 = .ok (.invokevirtual 192, 3) := by decide +kernel
theorem dX4_takeNumber_16 : decode cX4_takeNumber 16 = .ok (.istore 5, 2) := by decide +kernel
theorem dX4_takeNumber_18 : decode cX4_takeNumber 18 = .ok (.iload 4, 2) := by decide +kernel
theorem dX4_takeNumber_20 : decode cX4_takeNumber 20 = .ok (.bipush 9, 2) := by decide +kernel
theorem dX4_takeNumber_22 : decode cX4_takeNumber 22 = .ok (.if_icmp .ne 16, 3) := by decide +kernel
theorem dX4_takeNumber_25 : decode cX4_takeNumber 25 = .ok (.iload 5, 2) := by decide +kernel
theorem dX4_takeNumber_27 : decode cX4_takeNumber 27 = .ok (.iconst 1, 1) := by decide +kernel
theorem dX4_takeNumber_28 : decode cX4_takeNumber 28 = .ok (.if_icmp .le 10, 3) := by decide +kernel
theorem dX4_takeNumber_31 : decode cX4_takeNumber 31 = .ok (.aload_n 0, 1) := by decide +kernel
theorem dX4_takeNumber_32 : decode cX4_takeNumber 32 = .ok (.bipush 12, 2) := by decide +kernel
theorem dX4_takeNumber_34 : decode cX4_takeNumber 34 = .ok (.iload_n 1, 1) := by decide +kernel
theorem dX4_takeNumber_35 : decode cX4_takeNumber 35 = .ok (.invokevirtual 86, 3) := by decide +kernel
theorem dX4_takeNumber_38 : decode cX4_takeNumber 38 = .ok (.lload_n 2, 1) := by decide +kernel
theorem dX4_takeNumber_39 : decode cX4_takeNumber 39 = .ok (.iload 5, 2) := by decide +kernel
theorem dX4_takeNumber_41 : decode cX4_takeNumber 41 = .ok (.bipush 127, 2) := by decide +kernel
theorem dX4_takeNumber_43 : decode cX4_takeNumber 43 = .ok (.iand, 1) := by decide +kernel
theorem dX4_takeNumber_44 : decode cX4_takeNumber 44 = .ok (.i2l, 1) := by decide +kernel
theorem dX4_takeNumber_45 : decode cX4_takeNumber 45 = .ok (.bipush 7, 2) := by decide +kernel
theorem dX4_takeNumber_47 : decode cX4_takeNumber 47 = .ok (.iload 4, 2) := by decide +kernel
theorem dX4_takeNumber_49 : decode cX4_takeNumber 49 = .ok (.imul, 1) := by decide +kernel
theorem dX4_takeNumber_50 : decode cX4_takeNumber 50 = .ok (.lshl, 1) := by decide +kernel
theorem dX4_takeNumber_51 : decode cX4_takeNumber 51 = .ok (.lor, 1) := by decide +kernel
theorem dX4_takeNumber_52 : decode cX4_takeNumber 52 = .ok (.lstore_n 2, 1) := by decide +kernel
theorem dX4_takeNumber_53 : decode cX4_takeNumber 53 = .ok (.iload 5, 2) := by decide +kernel
theorem dX4_takeNumber_55 : decode cX4_takeNumber 55 = .ok (.sipush 128, 3) := by decide +kernel
theorem dX4_takeNumber_58 : decode cX4_takeNumber 58 = .ok (.if_icmp .ge 6, 3) := by decide +kernel
theorem dX4_takeNumber_61 : decode cX4_takeNumber 61 = .ok (.goto 9, 3) := by decide +kernel
theorem dX4_takeNumber_64 : decode cX4_takeNumber 64 = .ok (.iinc 4 1, 3) := by decide +kernel
theorem dX4_takeNumber_67 : decode cX4_takeNumber 67 = .ok (.goto (-62), 3) := by decide +kernel
theorem dX4_takeNumber_70 : decode cX4_takeNumber 70 = .ok (.aload_n 0, 1) := by decide +kernel
theorem dX4_takeNumber_71 : decode cX4_takeNumber 71 = .ok (.getfield 21, 3) := by decide +kernel
theorem dX4_takeNumber_74 : decode cX4_takeNumber 74 = .ok (.ifCond .eq 7, 3) := by decide +kernel
theorem dX4_takeNumber_77 : decode cX4_takeNumber 77 = .ok (.lconst 0, 1) := by decide +kernel
theorem dX4_takeNumber_78 : decode cX4_takeNumber 78 = .ok (.goto 11, 3) := by decide +kernel
theorem dX4_takeNumber_81 : decode cX4_takeNumber 81 = .ok (.lload_n 2, 1) := by decide +kernel
theorem dX4_takeNumber_82 : decode cX4_takeNumber 82 = .ok (.iconst 1, 1) := by decide +kernel
theorem dX4_takeNumber_83 : decode cX4_takeNumber 83 = .ok (.lushr, 1) := by decide +kernel
theorem dX4_takeNumber_84 : decode cX4_takeNumber 84 = .ok (.lload_n 2, 1) := by decide +kernel
theorem dX4_takeNumber_85 : decode cX4_takeNumber 85 = .ok (.lconst 1, 1) := by decide +kernel
theorem dX4_takeNumber_86 : decode cX4_takeNumber 86 = .ok (.land, 1) := by decide +kernel
theorem dX4_takeNumber_87 : decode cX4_takeNumber 87 = .ok (.lneg, 1) := by decide +kernel
theorem dX4_takeNumber_88 : decode cX4_takeNumber 88 = .ok (.lxor, 1) := by decide +kernel
theorem dX4_takeNumber_89 : decode cX4_takeNumber 89 = .ok (.lreturn, 1) := by decide +kernel
theorem dX7_isRow_0 : decode cX7_isRow 0 = .ok (.iload_n 1, 1) := by decide +kernel
theorem dX7_isRow_1 : decode cX7_isRow 1 = .ok (.ifCond .lt 23, 3) := by decide +kernel
theorem dX7_isRow_4 : decode cX7_isRow 4 = .ok (.iload_n 1, 1) := by decide +kernel
theorem dX7_isRow_5 : decode cX7_isRow 5 = .ok (.aload_n 0, 1) := by decide +kernel
theorem dX7_isRow_6 : decode cX7_isRow 6 = .ok (.getfield 9, 3) := by decide +kernel
theorem dX7_isRow_9 : decode cX7_isRow 9 = .ok (.if_icmp .ge 15, 3) := by decide +kernel
theorem dX7_isRow_12 : decode cX7_isRow 12 = .ok (.iload_n 1, 1) := by decide +kernel
theorem dX7_isRow_13 : decode cX7_isRow 13 = .ok (.aload_n 0, 1) := by decide +kernel
theorem dX7_isRow_14 : decode cX7_isRow 14 = .ok (.getfield 15, 3) := by decide +kernel
theorem dX7_isRow_17 : decode cX7_isRow 17 = .ok (.if_icmp .ge 7, 3) := by decide +kernel
theorem dX7_isRow_20 : decode cX7_isRow 20 = .ok (.iconst 1, 1) := by decide +kernel
theorem dX7_isRow_21 : decode cX7_isRow 21 = .ok (.goto 4, 3) := by decide +kernel
theorem dX7_isRow_24 : decode cX7_isRow 24 = .ok (.iconst 0, 1) := by decide +kernel
theorem dX7_isRow_25 : decode cX7_isRow 25 = .ok (.ireturn, 1) := by decide +kernel
theorem dX7_link_0 : decode cX7_link 0 = .ok (.aload_n 0, 1) := by decide +kernel
theorem dX7_link_1 : decode cX7_link 1 = .ok (.getfield 42, 3) := by decide +kernel
theorem dX7_link_4 : decode cX7_link 4 = .ok (.iload_n 2, 1) := by decide +kernel
theorem dX7_link_5 : decode cX7_link 5 = .ok (.iaload, 1) := by decide +kernel
theorem dX7_link_6 : decode cX7_link 6 = .ok (.istore_n 3, 1) := by decide +kernel
theorem dX7_link_7 : decode cX7_link 7 = .ok (.iconst (-1), 1) := by decide +kernel
theorem dX7_link_8 : decode cX7_link 8 = .ok (.istore 4, 2) := by decide +kernel
theorem dX7_link_10 : decode cX7_link 10 = .ok (.aload_n 0, 1) := by decide +kernel
theorem dX7_link_11 : decode cX7_link 11 = .ok (.iload_n 3, 1) := by decide +kernel
theorem dX7_link_12 : decode cX7_link 12 = .ok (.invokevirtual 54, 3) := by decide +kernel
theorem dX7_link_15 : decode cX7_link 15 = .ok (.ifCond .eq 24, 3) := by decide +kernel
theorem dX7_link_18 : decode cX7_link 18 = .ok (.aload_n 0, 1) := by decide +kernel
theorem dX7_link_19 : decode cX7_link 19 = .ok (.getfield 25, 3) := by decide +kernel
theorem dX7_link_22 : decode cX7_link 22 = .ok (.iload_n 3, 1) := by decide +kernel
theorem dX7_link_23 : decode cX7_link 23 = .ok (.iaload, 1) := by decide +kernel
theorem dX7_link_24 : decode cX7_link 24 = .ok (.aload_n 0, 1) := by decide +kernel
theorem dX7_link_25 : decode cX7_link 25 = .ok (.getfield 25, 3) := by decide +kernel
theorem dX7_link_28 : decode cX7_link 28 = .ok (.iload_n 1, 1) := by decide +kernel
theorem dX7_link_29 : decode cX7_link 29 = .ok (.iaload, 1) := by decide +kernel
theorem dX7_link_30 : decode cX7_link 30 = .ok (.if_icmp .ge 9, 3) := by decide +kernel
theorem dX7_link_33 : decode cX7_link 33 = .ok (.iload_n 3, 1) := by decide +kernel
theorem dX7_link_34 : decode cX7_link 34 = .ok (.istore 4, 2) := by decide +kernel
theorem dX7_link_36 : decode cX7_link 36 = .ok (.goto 67, 3) := by decide +kernel
theorem dX7_link_39 : decode cX7_link 39 = .ok (.aload_n 0, 1) := by decide +kernel
theorem dX7_link_40 : decode cX7_link 40 = .ok (.getfield 39, 3) := by decide +kernel
theorem dX7_link_43 : decode cX7_link 43 = .ok (.iload_n 2, 1) := by decide +kernel
theorem dX7_link_44 : decode cX7_link 44 = .ok (.iaload, 1) := by decide +kernel
theorem dX7_link_45 : decode cX7_link 45 = .ok (.istore 5, 2) := by decide +kernel
theorem dX7_link_47 : decode cX7_link 47 = .ok (.iconst 0, 1) := by decide +kernel
theorem dX7_link_48 : decode cX7_link 48 = .ok (.istore 6, 2) := by decide +kernel
theorem dX7_link_50 : decode cX7_link 50 = .ok (.iload 6, 2) := by decide +kernel
theorem dX7_link_52 : decode cX7_link 52 = .ok (.aload_n 0, 1) := by decide +kernel
theorem dX7_link_53 : decode cX7_link 53 = .ok (.getfield 9, 3) := by decide +kernel
theorem dX7_link_56 : decode cX7_link 56 = .ok (.if_icmp .ge 47, 3) := by decide +kernel
theorem dX7_link_59 : decode cX7_link 59 = .ok (.aload_n 0, 1) := by decide +kernel
theorem dX7_link_60 : decode cX7_link 60 = .ok (.iload 5, 2) := by decide +kernel
theorem dX7_link_62 : decode cX7_link 62 = .ok (.invokevirtual 54, 3) := by decide +kernel
theorem dX7_link_65 : decode cX7_link 65 = .ok (.ifCond .eq 38, 3) := by decide +kernel
theorem dX7_link_68 : decode cX7_link 68 = .ok (.aload_n 0, 1) := by decide +kernel
theorem dX7_link_69 : decode cX7_link 69 = .ok (.getfield 25, 3) := by decide +kernel
theorem dX7_link_72 : decode cX7_link 72 = .ok (.iload 5, 2) := by decide +kernel
theorem dX7_link_74 : decode cX7_link 74 = .ok (.iaload, 1) := by decide +kernel
theorem dX7_link_75 : decode cX7_link 75 = .ok (.aload_n 0, 1) := by decide +kernel
theorem dX7_link_76 : decode cX7_link 76 = .ok (.getfield 25, 3) := by decide +kernel
theorem dX7_link_79 : decode cX7_link 79 = .ok (.iload_n 1, 1) := by decide +kernel
theorem dX7_link_80 : decode cX7_link 80 = .ok (.iaload, 1) := by decide +kernel
theorem dX7_link_81 : decode cX7_link 81 = .ok (.if_icmp .ge 22, 3) := by decide +kernel
theorem dX7_link_84 : decode cX7_link 84 = .ok (.iload 5, 2) := by decide +kernel
theorem dX7_link_86 : decode cX7_link 86 = .ok (.istore 4, 2) := by decide +kernel
theorem dX7_link_88 : decode cX7_link 88 = .ok (.aload_n 0, 1) := by decide +kernel
theorem dX7_link_89 : decode cX7_link 89 = .ok (.getfield 45, 3) := by decide +kernel
theorem dX7_link_92 : decode cX7_link 92 = .ok (.iload 5, 2) := by decide +kernel
theorem dX7_link_94 : decode cX7_link 94 = .ok (.iaload, 1) := by decide +kernel
theorem dX7_link_95 : decode cX7_link 95 = .ok (.istore 5, 2) := by decide +kernel
theorem dX7_link_97 : decode cX7_link 97 = .ok (.iinc 6 1, 3) := by decide +kernel
theorem dX7_link_100 : decode cX7_link 100 = .ok (.goto (-50), 3) := by decide +kernel
theorem dX7_link_103 : decode cX7_link 103 = .ok (.aload_n 0, 1) := by decide +kernel
theorem dX7_link_104 : decode cX7_link 104 = .ok (.iload 4, 2) := by decide +kernel
theorem dX7_link_106 : decode cX7_link 106 = .ok (.invokevirtual 54, 3) := by decide +kernel
theorem dX7_link_109 : decode cX7_link 109 = .ok (.ifCond .eq 27, 3) := by decide +kernel
theorem dX7_link_112 : decode cX7_link 112 = .ok (.aload_n 0, 1) := by decide +kernel
theorem dX7_link_113 : decode cX7_link 113 = .ok (.getfield 45, 3) := by decide +kernel
theorem dX7_link_116 : decode cX7_link 116 = .ok (.iload_n 1, 1) := by decide +kernel
theorem dX7_link_117 : decode cX7_link 117 = .ok (.aload_n 0, 1) := by decide +kernel
theorem dX7_link_118 : decode cX7_link 118 = .ok (.getfield 45, 3) := by decide +kernel
theorem dX7_link_121 : decode cX7_link 121 = .ok (.iload 4, 2) := by decide +kernel
theorem dX7_link_123 : decode cX7_link 123 = .ok (.iaload, 1) := by decide +kernel
theorem dX7_link_124 : decode cX7_link 124 = .ok (.iastore, 1) := by decide +kernel
theorem dX7_link_125 : decode cX7_link 125 = .ok (.aload_n 0, 1) := by decide +kernel
theorem dX7_link_126 : decode cX7_link 126 = .ok (.getfield 45, 3) := by decide +kernel
theorem dX7_link_129 : decode cX7_link 129 = .ok (.iload 4, 2) := by decide +kernel
theorem dX7_link_131 : decode cX7_link 131 = .ok (.iload_n 1, 1) := by decide +kernel
theorem dX7_link_132 : decode cX7_link 132 = .ok (.iastore, 1) := by decide +kernel
theorem dX7_link_133 : decode cX7_link 133 = .ok (.goto 22, 3) := by decide +kernel
theorem dX7_link_136 : decode cX7_link 136 = .ok (.aload_n 0, 1) := by decide +kernel
theorem dX7_link_137 : decode cX7_link 137 = .ok (.getfield 45, 3) := by decide +kernel
theorem dX7_link_140 : decode cX7_link 140 = .ok (.iload_n 1, 1) := by decide +kernel
theorem dX7_link_141 : decode cX7_link 141 = .ok (.aload_n 0, 1) := by decide +kernel
theorem dX7_link_142 : decode cX7_link 142 = .ok (.getfield 39, 3) := by decide +kernel
theorem dX7_link_145 : decode cX7_link 145 = .ok (.iload_n 2, 1) := by decide +kernel
theorem dX7_link_146 : decode cX7_link 146 = .ok (.iaload, 1) := by decide +kernel
theorem dX7_link_147 : decode cX7_link 147 = .ok (.iastore, 1) := by decide +kernel
theorem dX7_link_148 : decode cX7_link 148 = .ok (.aload_n 0, 1) := by decide +kernel
theorem dX7_link_149 : decode cX7_link 149 = .ok (.getfield 39, 3) := by decide +kernel
theorem dX7_link_152 : decode cX7_link 152 = .ok (.iload_n 2, 1) := by decide +kernel
theorem dX7_link_153 : decode cX7_link 153 = .ok (.iload_n 1, 1) := by decide +kernel
theorem dX7_link_154 : decode cX7_link 154 = .ok (.iastore, 1) := by decide +kernel
theorem dX7_link_155 : decode cX7_link 155 = .ok (.aload_n 0, 1) := by decide +kernel
theorem dX7_link_156 : decode cX7_link 156 = .ok (.getfield 45, 3) := by decide +kernel
theorem dX7_link_159 : decode cX7_link 159 = .ok (.iload_n 1, 1) := by decide +kernel
theorem dX7_link_160 : decode cX7_link 160 = .ok (.iaload, 1) := by decide +kernel
theorem dX7_link_161 : decode cX7_link 161 = .ok (.iconst (-1), 1) := by decide +kernel
theorem dX7_link_162 : decode cX7_link 162 = .ok (.if_icmp .ne 10, 3) := by decide +kernel
theorem dX7_link_165 : decode cX7_link 165 = .ok (.aload_n 0, 1) := by decide +kernel
theorem dX7_link_166 : decode cX7_link 166 = .ok (.getfield 42, 3) := by decide +kernel
theorem dX7_link_169 : decode cX7_link 169 = .ok (.iload_n 2, 1) := by decide +kernel
theorem dX7_link_170 : decode cX7_link 170 = .ok (.iload_n 1, 1) := by decide +kernel
theorem dX7_link_171 : decode cX7_link 171 = .ok (.iastore, 1) := by decide +kernel
theorem dX7_link_172 : decode cX7_link 172 = .ok (.return_, 1) := by decide +kernel
def f_X4_step_26 (b : Nat) (t : Nat) (σ : ST) : Option (ST) := some (stI σ b 10 ((σ.1 b 10) + 1))
def f_X4_step (b : Nat) (t : Nat) (p0 : Int32) (σ : ST) : Option (ST) := if (σ.1 b 10) < 0 then (f_X4_step_26 b t  σ) else (if 64 ≤ (σ.1 b 10) then (f_X4_step_26 b t  σ) else (if 0 ≤ (σ.1 b 10).toInt ∧ (σ.1 b 10).toInt < 64 then (f_X4_step_26 b t  (stI σ (b + 1) (σ.1 b 10).toNatClampNeg p0)) else none))

set_option maxRecDepth 100000 in
set_option maxHeartbeats 4000000 in
theorem b_X4_step_26_89_50 {p : Program} {l : Launch} {e : Env} {s : State} {m : MethodId} {args : Array Value} {below : List Frame} {meth : Method} {c : Code} {dC : Nat → ClassId} {dI : Nat → Nat → Nat} {a : Nat → Nat} {k : Nat → ClassId} {A : Nat → Prop} {q : ST} (hC : CxA p s m args meth c dC dI k A cX4_step RX4 none 2)    {σ : ST} (h : f_X4_step_26 89 50  σ = some q) : GoA p l e ({ frames := 0, cells := 0, slots := 0, locals := 0 } : Room) s m args below meth c (MQ below (qAv dC dI a k A q) args s 0 0 A) dC dI a k A 2 26 σ [(0, .ref (a 89))] [] := by
  have hC0 := hC
  obtain ⟨hx, hb, hr, hml, hown, hts, hlocks, hA, hN, hK⟩ := hC0
  intro H locs ls hP hD hS hl
  have hD0 : ∀ σ1 : ST, va_D A (wA a k σ1) := fun σ1 => wA_D hD
  unfold f_X4_step_26 at h
  refine lv_aload_n hx hb dX4_step_26 rfl (lv_at hl 0 rfl) ?_
  refine lv_dup hx hb dX4_step_27 rfl ?_
  refine va_get (D := (dC, dI)) (ci := 4) (C := RX4) (T := TX4) (N := 12) hx hb hts inlX4 hown hK hP 89 gA_89 rfl 10 (by decide) (hts (.fieldLink RX4 31 "ShapeReader$Reading" "steps" "I") mw_10_26) (fun _ h9 => h9) rfl dX4_step_28 ?_
  refine lv_iconst (v := 1) hx hb dX4_step_31 (by decide) ?_
  refine lv_iadd hx hb dX4_step_32 ?_
  refine va_put (D := (dC, dI)) (ci := 4) (ty := .int) (C := RX4) (T := TX4) (N := 12) hx hb hts inlX4 tyX4 tyX4_ok nmX4 hown hK hP hD hS 89 gA_89 rfl 10 (by decide) (hts (.fieldLink RX4 31 "ShapeReader$Reading" "steps" "I") mw_10_26) (fun _ h9 => h9) rfl (by decide +kernel) rfl rfl (Nat.le_of_ble_eq_true rfl) dX4_step_33 (fun H locs hP hD hS => ?_)
  replace hP := uA_89_10 hP
  replace hD := hD0 ((stI σ 89 10 ((σ.1 89 10) + 1)))
  obtain rfl := Option.some.inj h
  exact W.vret hx hb hr (fun t ht hW => ⟨⟨(), rfl, trivial, ⟨by rw [ht]; exact hP, va_K.moved hW.alike hK, hD⟩⟩, hS.F ht⟩) hS.2.2 dX4_step_36

set_option maxRecDepth 100000 in
set_option maxHeartbeats 4000000 in
theorem b_X4_step_e_89_50 {p : Program} {l : Launch} {e : Env} {s : State} {m : MethodId} {args : Array Value} {below : List Frame} {meth : Method} {c : Code} {dC : Nat → ClassId} {dI : Nat → Nat → Nat} {a : Nat → Nat} {k : Nat → ClassId} {A : Nat → Prop} {q : ST} (hC : CxA p s m args meth c dC dI k A cX4_step RX4 none 2)   {p0 : Int32} {σ : ST} (h : f_X4_step 89 50 p0 σ = some q) : GoA p l e ({ frames := 0, cells := 0, slots := 0, locals := 0 } : Room) s m args below meth c (MQ below (qAv dC dI a k A q) args s 0 0 A) dC dI a k A 2 0 σ (lv_args 0 [.ref (a 89), .int p0]) [] := by
  have hC0 := hC
  obtain ⟨hx, hb, hr, hml, hown, hts, hlocks, hA, hN, hK⟩ := hC0
  intro H locs ls hP hD hS hl
  have hD0 : ∀ σ1 : ST, va_D A (wA a k σ1) := fun σ1 => wA_D hD
  replace hl : lv_has ls 2 [(0, .ref (a 89)), (1, .int p0)] := hl
  unfold f_X4_step at h
  refine lv_aload_n hx hb dX4_step_0 rfl (lv_at hl 0 rfl) ?_
  refine va_get (D := (dC, dI)) (ci := 4) (C := RX4) (T := TX4) (N := 12) hx hb hts inlX4 hown hK hP 89 gA_89 rfl 10 (by decide) (hts (.fieldLink RX4 31 "ShapeReader$Reading" "steps" "I") mw_10_26) (fun _ h9 => h9) rfl dX4_step_1 ?_
  refine lv_if_lt (tgt := 26) hx hb dX4_step_4 (by decide) (fun hc => ?_) (fun hc => ?_)
  · replace h := ip hc h
    exact b_X4_step_26_89_50 hC h _ _ _ hP hD hS (lv_sub hl [0] rfl)
  · replace h := iq hc h
    refine lv_aload_n hx hb dX4_step_7 rfl (lv_at hl 0 rfl) ?_
    refine va_get (D := (dC, dI)) (ci := 4) (C := RX4) (T := TX4) (N := 12) hx hb hts inlX4 hown hK hP 89 gA_89 rfl 10 (by decide) (hts (.fieldLink RX4 31 "ShapeReader$Reading" "steps" "I") mw_10_26) (fun _ h9 => h9) rfl dX4_step_8 ?_
    refine lv_bipush (v := 64) hx hb dX4_step_11 (by decide) ?_
    refine lv_icmp_ge (tgt := 26) hx hb dX4_step_13 (by decide) (fun hc => ?_) (fun hc => ?_)
    · replace h := ip hc h
      exact b_X4_step_26_89_50 hC h _ _ _ hP hD hS (lv_sub hl [0] rfl)
    · replace h := iq hc h
      refine lv_aload_n hx hb dX4_step_16 rfl (lv_at hl 0 rfl) ?_
      refine va_get (D := (dC, dI)) (ci := 4) (C := RX4) (T := TX4) (N := 12) hx hb hts inlX4 hown hK hP 89 gA_89 rfl 9 (by decide) (hts (.fieldLink RX4 27 "ShapeReader$Reading" "path" "[I") mw_10_25) (fun _ h9 => h9) rfl dX4_step_17 ?_
      refine lv_aload_n hx hb dX4_step_20 rfl (lv_at hl 0 rfl) ?_
      refine va_get (D := (dC, dI)) (ci := 4) (C := RX4) (T := TX4) (N := 12) hx hb hts inlX4 hown hK hP 89 gA_89 rfl 10 (by decide) (hts (.fieldLink RX4 31 "ShapeReader$Reading" "steps" "I") mw_10_26) (fun _ h9 => h9) rfl dX4_step_21 ?_
      refine lv_iload_n hx hb dX4_step_24 rfl (lv_at hl 1 rfl) ?_
      obtain ⟨hg1, h⟩ := ig h
      refine va_iast hx hb hK hP hD hS 90 76 gA_90 yA_90 (vp_in_iff.mpr hg1) dX4_step_25 (fun H locs hP hD hS => ?_)
      replace hP := uA_90 hP
      replace hD := hD0 ((stI σ 90 (σ.1 89 10).toNatClampNeg p0))
      exact b_X4_step_26_89_50 hC h _ _ _ hP hD hS (lv_sub hl [0] rfl)

theorem s_X4_step_89_50 {l : Launch} {dC : Nat → ClassId} {dI : Nat → Nat → Nat} {a : Nat → Nat} {k : Nat → ClassId} {sz : Nat} {p0 : Int32} {σ : ST} {q : ST} (h : f_X4_step 89 50 p0 σ = some q) : Met l yX4_step (.code yX4_step cX4_step 2 none :: pw) ({ frames := 0, cells := 0, slots := 0, locals := 0 } : Room) (va_Pc [.ref (a 89), .int p0] (vPre dC dI (wA a k σ) (tA k) sz)) (qAv dC dI a k (va_A (wA a k σ) sz) q) 0 0 (va_A (wA a k σ) sz) := metA (fun A => qAv dC dI a k A q) (plainFor_of_name (by decide)) (Nat.le_of_ble_eq_true rfl) (fun _ _ _ _ _ _ _ _ hC => b_X4_step_e_89_50 hC h)

set_option maxRecDepth 100000 in
set_option maxHeartbeats 4000000 in
theorem b_X4_step_26_92_62 {p : Program} {l : Launch} {e : Env} {s : State} {m : MethodId} {args : Array Value} {below : List Frame} {meth : Method} {c : Code} {dC : Nat → ClassId} {dI : Nat → Nat → Nat} {a : Nat → Nat} {k : Nat → ClassId} {A : Nat → Prop} {q : ST} (hC : CxA p s m args meth c dC dI k A cX4_step RX4 none 2)    {σ : ST} (h : f_X4_step_26 92 62  σ = some q) : GoA p l e ({ frames := 0, cells := 0, slots := 0, locals := 0 } : Room) s m args below meth c (MQ below (qAv dC dI a k A q) args s 0 0 A) dC dI a k A 2 26 σ [(0, .ref (a 92))] [] := by
  have hC0 := hC
  obtain ⟨hx, hb, hr, hml, hown, hts, hlocks, hA, hN, hK⟩ := hC0
  intro H locs ls hP hD hS hl
  have hD0 : ∀ σ1 : ST, va_D A (wA a k σ1) := fun σ1 => wA_D hD
  unfold f_X4_step_26 at h
  refine lv_aload_n hx hb dX4_step_26 rfl (lv_at hl 0 rfl) ?_
  refine lv_dup hx hb dX4_step_27 rfl ?_
  refine va_get (D := (dC, dI)) (ci := 4) (C := RX4) (T := TX4) (N := 12) hx hb hts inlX4 hown hK hP 92 gA_92 rfl 10 (by decide) (hts (.fieldLink RX4 31 "ShapeReader$Reading" "steps" "I") mw_10_26) (fun _ h9 => h9) rfl dX4_step_28 ?_
  refine lv_iconst (v := 1) hx hb dX4_step_31 (by decide) ?_
  refine lv_iadd hx hb dX4_step_32 ?_
  refine va_put (D := (dC, dI)) (ci := 4) (ty := .int) (C := RX4) (T := TX4) (N := 12) hx hb hts inlX4 tyX4 tyX4_ok nmX4 hown hK hP hD hS 92 gA_92 rfl 10 (by decide) (hts (.fieldLink RX4 31 "ShapeReader$Reading" "steps" "I") mw_10_26) (fun _ h9 => h9) rfl (by decide +kernel) rfl rfl (Nat.le_of_ble_eq_true rfl) dX4_step_33 (fun H locs hP hD hS => ?_)
  replace hP := uA_92_10 hP
  replace hD := hD0 ((stI σ 92 10 ((σ.1 92 10) + 1)))
  obtain rfl := Option.some.inj h
  exact W.vret hx hb hr (fun t ht hW => ⟨⟨(), rfl, trivial, ⟨by rw [ht]; exact hP, va_K.moved hW.alike hK, hD⟩⟩, hS.F ht⟩) hS.2.2 dX4_step_36

set_option maxRecDepth 100000 in
set_option maxHeartbeats 4000000 in
theorem b_X4_step_e_92_62 {p : Program} {l : Launch} {e : Env} {s : State} {m : MethodId} {args : Array Value} {below : List Frame} {meth : Method} {c : Code} {dC : Nat → ClassId} {dI : Nat → Nat → Nat} {a : Nat → Nat} {k : Nat → ClassId} {A : Nat → Prop} {q : ST} (hC : CxA p s m args meth c dC dI k A cX4_step RX4 none 2)   {p0 : Int32} {σ : ST} (h : f_X4_step 92 62 p0 σ = some q) : GoA p l e ({ frames := 0, cells := 0, slots := 0, locals := 0 } : Room) s m args below meth c (MQ below (qAv dC dI a k A q) args s 0 0 A) dC dI a k A 2 0 σ (lv_args 0 [.ref (a 92), .int p0]) [] := by
  have hC0 := hC
  obtain ⟨hx, hb, hr, hml, hown, hts, hlocks, hA, hN, hK⟩ := hC0
  intro H locs ls hP hD hS hl
  have hD0 : ∀ σ1 : ST, va_D A (wA a k σ1) := fun σ1 => wA_D hD
  replace hl : lv_has ls 2 [(0, .ref (a 92)), (1, .int p0)] := hl
  unfold f_X4_step at h
  refine lv_aload_n hx hb dX4_step_0 rfl (lv_at hl 0 rfl) ?_
  refine va_get (D := (dC, dI)) (ci := 4) (C := RX4) (T := TX4) (N := 12) hx hb hts inlX4 hown hK hP 92 gA_92 rfl 10 (by decide) (hts (.fieldLink RX4 31 "ShapeReader$Reading" "steps" "I") mw_10_26) (fun _ h9 => h9) rfl dX4_step_1 ?_
  refine lv_if_lt (tgt := 26) hx hb dX4_step_4 (by decide) (fun hc => ?_) (fun hc => ?_)
  · replace h := ip hc h
    exact b_X4_step_26_92_62 hC h _ _ _ hP hD hS (lv_sub hl [0] rfl)
  · replace h := iq hc h
    refine lv_aload_n hx hb dX4_step_7 rfl (lv_at hl 0 rfl) ?_
    refine va_get (D := (dC, dI)) (ci := 4) (C := RX4) (T := TX4) (N := 12) hx hb hts inlX4 hown hK hP 92 gA_92 rfl 10 (by decide) (hts (.fieldLink RX4 31 "ShapeReader$Reading" "steps" "I") mw_10_26) (fun _ h9 => h9) rfl dX4_step_8 ?_
    refine lv_bipush (v := 64) hx hb dX4_step_11 (by decide) ?_
    refine lv_icmp_ge (tgt := 26) hx hb dX4_step_13 (by decide) (fun hc => ?_) (fun hc => ?_)
    · replace h := ip hc h
      exact b_X4_step_26_92_62 hC h _ _ _ hP hD hS (lv_sub hl [0] rfl)
    · replace h := iq hc h
      refine lv_aload_n hx hb dX4_step_16 rfl (lv_at hl 0 rfl) ?_
      refine va_get (D := (dC, dI)) (ci := 4) (C := RX4) (T := TX4) (N := 12) hx hb hts inlX4 hown hK hP 92 gA_92 rfl 9 (by decide) (hts (.fieldLink RX4 27 "ShapeReader$Reading" "path" "[I") mw_10_25) (fun _ h9 => h9) rfl dX4_step_17 ?_
      refine lv_aload_n hx hb dX4_step_20 rfl (lv_at hl 0 rfl) ?_
      refine va_get (D := (dC, dI)) (ci := 4) (C := RX4) (T := TX4) (N := 12) hx hb hts inlX4 hown hK hP 92 gA_92 rfl 10 (by decide) (hts (.fieldLink RX4 31 "ShapeReader$Reading" "steps" "I") mw_10_26) (fun _ h9 => h9) rfl dX4_step_21 ?_
      refine lv_iload_n hx hb dX4_step_24 rfl (lv_at hl 1 rfl) ?_
      obtain ⟨hg1, h⟩ := ig h
      refine va_iast hx hb hK hP hD hS 93 78 gA_93 yA_93 (vp_in_iff.mpr hg1) dX4_step_25 (fun H locs hP hD hS => ?_)
      replace hP := uA_93 hP
      replace hD := hD0 ((stI σ 93 (σ.1 92 10).toNatClampNeg p0))
      exact b_X4_step_26_92_62 hC h _ _ _ hP hD hS (lv_sub hl [0] rfl)

theorem s_X4_step_92_62 {l : Launch} {dC : Nat → ClassId} {dI : Nat → Nat → Nat} {a : Nat → Nat} {k : Nat → ClassId} {sz : Nat} {p0 : Int32} {σ : ST} {q : ST} (h : f_X4_step 92 62 p0 σ = some q) : Met l yX4_step (.code yX4_step cX4_step 2 none :: pw) ({ frames := 0, cells := 0, slots := 0, locals := 0 } : Room) (va_Pc [.ref (a 92), .int p0] (vPre dC dI (wA a k σ) (tA k) sz)) (qAv dC dI a k (va_A (wA a k σ) sz) q) 0 0 (va_A (wA a k σ) sz) := metA (fun A => qAv dC dI a k A q) (plainFor_of_name (by decide)) (Nat.le_of_ble_eq_true rfl) (fun _ _ _ _ _ _ _ _ hC => b_X4_step_e_92_62 hC h)

set_option maxRecDepth 100000 in
set_option maxHeartbeats 4000000 in
theorem b_X4_step_26_92_74 {p : Program} {l : Launch} {e : Env} {s : State} {m : MethodId} {args : Array Value} {below : List Frame} {meth : Method} {c : Code} {dC : Nat → ClassId} {dI : Nat → Nat → Nat} {a : Nat → Nat} {k : Nat → ClassId} {A : Nat → Prop} {q : ST} (hC : CxA p s m args meth c dC dI k A cX4_step RX4 none 2)    {σ : ST} (h : f_X4_step_26 92 74  σ = some q) : GoA p l e ({ frames := 0, cells := 0, slots := 0, locals := 0 } : Room) s m args below meth c (MQ below (qAv dC dI a k A q) args s 0 0 A) dC dI a k A 2 26 σ [(0, .ref (a 92))] [] := by
  have hC0 := hC
  obtain ⟨hx, hb, hr, hml, hown, hts, hlocks, hA, hN, hK⟩ := hC0
  intro H locs ls hP hD hS hl
  have hD0 : ∀ σ1 : ST, va_D A (wA a k σ1) := fun σ1 => wA_D hD
  unfold f_X4_step_26 at h
  refine lv_aload_n hx hb dX4_step_26 rfl (lv_at hl 0 rfl) ?_
  refine lv_dup hx hb dX4_step_27 rfl ?_
  refine va_get (D := (dC, dI)) (ci := 4) (C := RX4) (T := TX4) (N := 12) hx hb hts inlX4 hown hK hP 92 gA_92 rfl 10 (by decide) (hts (.fieldLink RX4 31 "ShapeReader$Reading" "steps" "I") mw_10_26) (fun _ h9 => h9) rfl dX4_step_28 ?_
  refine lv_iconst (v := 1) hx hb dX4_step_31 (by decide) ?_
  refine lv_iadd hx hb dX4_step_32 ?_
  refine va_put (D := (dC, dI)) (ci := 4) (ty := .int) (C := RX4) (T := TX4) (N := 12) hx hb hts inlX4 tyX4 tyX4_ok nmX4 hown hK hP hD hS 92 gA_92 rfl 10 (by decide) (hts (.fieldLink RX4 31 "ShapeReader$Reading" "steps" "I") mw_10_26) (fun _ h9 => h9) rfl (by decide +kernel) rfl rfl (Nat.le_of_ble_eq_true rfl) dX4_step_33 (fun H locs hP hD hS => ?_)
  replace hP := uA_92_10 hP
  replace hD := hD0 ((stI σ 92 10 ((σ.1 92 10) + 1)))
  obtain rfl := Option.some.inj h
  exact W.vret hx hb hr (fun t ht hW => ⟨⟨(), rfl, trivial, ⟨by rw [ht]; exact hP, va_K.moved hW.alike hK, hD⟩⟩, hS.F ht⟩) hS.2.2 dX4_step_36

set_option maxRecDepth 100000 in
set_option maxHeartbeats 4000000 in
theorem b_X4_step_e_92_74 {p : Program} {l : Launch} {e : Env} {s : State} {m : MethodId} {args : Array Value} {below : List Frame} {meth : Method} {c : Code} {dC : Nat → ClassId} {dI : Nat → Nat → Nat} {a : Nat → Nat} {k : Nat → ClassId} {A : Nat → Prop} {q : ST} (hC : CxA p s m args meth c dC dI k A cX4_step RX4 none 2)   {p0 : Int32} {σ : ST} (h : f_X4_step 92 74 p0 σ = some q) : GoA p l e ({ frames := 0, cells := 0, slots := 0, locals := 0 } : Room) s m args below meth c (MQ below (qAv dC dI a k A q) args s 0 0 A) dC dI a k A 2 0 σ (lv_args 0 [.ref (a 92), .int p0]) [] := by
  have hC0 := hC
  obtain ⟨hx, hb, hr, hml, hown, hts, hlocks, hA, hN, hK⟩ := hC0
  intro H locs ls hP hD hS hl
  have hD0 : ∀ σ1 : ST, va_D A (wA a k σ1) := fun σ1 => wA_D hD
  replace hl : lv_has ls 2 [(0, .ref (a 92)), (1, .int p0)] := hl
  unfold f_X4_step at h
  refine lv_aload_n hx hb dX4_step_0 rfl (lv_at hl 0 rfl) ?_
  refine va_get (D := (dC, dI)) (ci := 4) (C := RX4) (T := TX4) (N := 12) hx hb hts inlX4 hown hK hP 92 gA_92 rfl 10 (by decide) (hts (.fieldLink RX4 31 "ShapeReader$Reading" "steps" "I") mw_10_26) (fun _ h9 => h9) rfl dX4_step_1 ?_
  refine lv_if_lt (tgt := 26) hx hb dX4_step_4 (by decide) (fun hc => ?_) (fun hc => ?_)
  · replace h := ip hc h
    exact b_X4_step_26_92_74 hC h _ _ _ hP hD hS (lv_sub hl [0] rfl)
  · replace h := iq hc h
    refine lv_aload_n hx hb dX4_step_7 rfl (lv_at hl 0 rfl) ?_
    refine va_get (D := (dC, dI)) (ci := 4) (C := RX4) (T := TX4) (N := 12) hx hb hts inlX4 hown hK hP 92 gA_92 rfl 10 (by decide) (hts (.fieldLink RX4 31 "ShapeReader$Reading" "steps" "I") mw_10_26) (fun _ h9 => h9) rfl dX4_step_8 ?_
    refine lv_bipush (v := 64) hx hb dX4_step_11 (by decide) ?_
    refine lv_icmp_ge (tgt := 26) hx hb dX4_step_13 (by decide) (fun hc => ?_) (fun hc => ?_)
    · replace h := ip hc h
      exact b_X4_step_26_92_74 hC h _ _ _ hP hD hS (lv_sub hl [0] rfl)
    · replace h := iq hc h
      refine lv_aload_n hx hb dX4_step_16 rfl (lv_at hl 0 rfl) ?_
      refine va_get (D := (dC, dI)) (ci := 4) (C := RX4) (T := TX4) (N := 12) hx hb hts inlX4 hown hK hP 92 gA_92 rfl 9 (by decide) (hts (.fieldLink RX4 27 "ShapeReader$Reading" "path" "[I") mw_10_25) (fun _ h9 => h9) rfl dX4_step_17 ?_
      refine lv_aload_n hx hb dX4_step_20 rfl (lv_at hl 0 rfl) ?_
      refine va_get (D := (dC, dI)) (ci := 4) (C := RX4) (T := TX4) (N := 12) hx hb hts inlX4 hown hK hP 92 gA_92 rfl 10 (by decide) (hts (.fieldLink RX4 31 "ShapeReader$Reading" "steps" "I") mw_10_26) (fun _ h9 => h9) rfl dX4_step_21 ?_
      refine lv_iload_n hx hb dX4_step_24 rfl (lv_at hl 1 rfl) ?_
      obtain ⟨hg1, h⟩ := ig h
      refine va_iast hx hb hK hP hD hS 93 78 gA_93 yA_93 (vp_in_iff.mpr hg1) dX4_step_25 (fun H locs hP hD hS => ?_)
      replace hP := uA_93 hP
      replace hD := hD0 ((stI σ 93 (σ.1 92 10).toNatClampNeg p0))
      exact b_X4_step_26_92_74 hC h _ _ _ hP hD hS (lv_sub hl [0] rfl)

theorem s_X4_step_92_74 {l : Launch} {dC : Nat → ClassId} {dI : Nat → Nat → Nat} {a : Nat → Nat} {k : Nat → ClassId} {sz : Nat} {p0 : Int32} {σ : ST} {q : ST} (h : f_X4_step 92 74 p0 σ = some q) : Met l yX4_step (.code yX4_step cX4_step 2 none :: pw) ({ frames := 0, cells := 0, slots := 0, locals := 0 } : Room) (va_Pc [.ref (a 92), .int p0] (vPre dC dI (wA a k σ) (tA k) sz)) (qAv dC dI a k (va_A (wA a k σ) sz) q) 0 0 (va_A (wA a k σ) sz) := metA (fun A => qAv dC dI a k A q) (plainFor_of_name (by decide)) (Nat.le_of_ble_eq_true rfl) (fun _ _ _ _ _ _ _ _ hC => b_X4_step_e_92_74 hC h)

def f_X4_stepBack (b : Nat) (t : Nat) (σ : ST) : Option (ST) := if (σ.1 b 7) = 0 then (some (stI σ b 10 ((σ.1 b 10) - 1))) else (some σ)

set_option maxRecDepth 100000 in
set_option maxHeartbeats 4000000 in
theorem b_X4_stepBack_e_89_50 {p : Program} {l : Launch} {e : Env} {s : State} {m : MethodId} {args : Array Value} {below : List Frame} {meth : Method} {c : Code} {dC : Nat → ClassId} {dI : Nat → Nat → Nat} {a : Nat → Nat} {k : Nat → ClassId} {A : Nat → Prop} {q : ST} (hC : CxA p s m args meth c dC dI k A cX4_stepBack RX4 none 1)    {σ : ST} (h : f_X4_stepBack 89 50  σ = some q) : GoA p l e ({ frames := 0, cells := 0, slots := 0, locals := 0 } : Room) s m args below meth c (MQ below (qAv dC dI a k A q) args s 0 0 A) dC dI a k A 1 0 σ (lv_args 0 [.ref (a 89)]) [] := by
  have hC0 := hC
  obtain ⟨hx, hb, hr, hml, hown, hts, hlocks, hA, hN, hK⟩ := hC0
  intro H locs ls hP hD hS hl
  have hD0 : ∀ σ1 : ST, va_D A (wA a k σ1) := fun σ1 => wA_D hD
  replace hl : lv_has ls 1 [(0, .ref (a 89))] := hl
  unfold f_X4_stepBack at h
  refine lv_aload_n hx hb dX4_stepBack_0 rfl (lv_at hl 0 rfl) ?_
  refine va_get (D := (dC, dI)) (ci := 4) (C := RX4) (T := TX4) (N := 12) hx hb hts inlX4 hown hK hP 89 gA_89 rfl 7 (by decide) (hts (.fieldLink RX4 21 "ShapeReader$Reading" "failure" "I") mw_10_23) (fun _ h9 => h9) rfl dX4_stepBack_1 ?_
  refine lv_if_ne (tgt := 17) hx hb dX4_stepBack_4 (by decide) (fun hc => ?_) (fun hc => ?_)
  · replace h := iq hc h
    obtain rfl := Option.some.inj h
    exact W.vret hx hb hr (fun t ht hW => ⟨⟨(), rfl, trivial, ⟨by rw [ht]; exact hP, va_K.moved hW.alike hK, hD⟩⟩, hS.F ht⟩) hS.2.2 dX4_stepBack_17
  · replace h := ip hc h
    refine lv_aload_n hx hb dX4_stepBack_7 rfl (lv_at hl 0 rfl) ?_
    refine lv_dup hx hb dX4_stepBack_8 rfl ?_
    refine va_get (D := (dC, dI)) (ci := 4) (C := RX4) (T := TX4) (N := 12) hx hb hts inlX4 hown hK hP 89 gA_89 rfl 10 (by decide) (hts (.fieldLink RX4 31 "ShapeReader$Reading" "steps" "I") mw_10_26) (fun _ h9 => h9) rfl dX4_stepBack_9 ?_
    refine lv_iconst (v := 1) hx hb dX4_stepBack_12 (by decide) ?_
    refine lv_isub hx hb dX4_stepBack_13 ?_
    refine va_put (D := (dC, dI)) (ci := 4) (ty := .int) (C := RX4) (T := TX4) (N := 12) hx hb hts inlX4 tyX4 tyX4_ok nmX4 hown hK hP hD hS 89 gA_89 rfl 10 (by decide) (hts (.fieldLink RX4 31 "ShapeReader$Reading" "steps" "I") mw_10_26) (fun _ h9 => h9) rfl (by decide +kernel) rfl rfl (Nat.le_of_ble_eq_true rfl) dX4_stepBack_14 (fun H locs hP hD hS => ?_)
    replace hP := uA_89_10 hP
    replace hD := hD0 ((stI σ 89 10 ((σ.1 89 10) - 1)))
    obtain rfl := Option.some.inj h
    exact W.vret hx hb hr (fun t ht hW => ⟨⟨(), rfl, trivial, ⟨by rw [ht]; exact hP, va_K.moved hW.alike hK, hD⟩⟩, hS.F ht⟩) hS.2.2 dX4_stepBack_17

theorem s_X4_stepBack_89_50 {l : Launch} {dC : Nat → ClassId} {dI : Nat → Nat → Nat} {a : Nat → Nat} {k : Nat → ClassId} {sz : Nat}  {σ : ST} {q : ST} (h : f_X4_stepBack 89 50  σ = some q) : Met l yX4_stepBack (.code yX4_stepBack cX4_stepBack 1 none :: pw) ({ frames := 0, cells := 0, slots := 0, locals := 0 } : Room) (va_Pc [.ref (a 89)] (vPre dC dI (wA a k σ) (tA k) sz)) (qAv dC dI a k (va_A (wA a k σ) sz) q) 0 0 (va_A (wA a k σ) sz) := metA (fun A => qAv dC dI a k A q) (plainFor_of_name (by decide)) (Nat.le_of_ble_eq_true rfl) (fun _ _ _ _ _ _ _ _ hC => b_X4_stepBack_e_89_50 hC h)

set_option maxRecDepth 100000 in
set_option maxHeartbeats 4000000 in
theorem b_X4_stepBack_e_92_62 {p : Program} {l : Launch} {e : Env} {s : State} {m : MethodId} {args : Array Value} {below : List Frame} {meth : Method} {c : Code} {dC : Nat → ClassId} {dI : Nat → Nat → Nat} {a : Nat → Nat} {k : Nat → ClassId} {A : Nat → Prop} {q : ST} (hC : CxA p s m args meth c dC dI k A cX4_stepBack RX4 none 1)    {σ : ST} (h : f_X4_stepBack 92 62  σ = some q) : GoA p l e ({ frames := 0, cells := 0, slots := 0, locals := 0 } : Room) s m args below meth c (MQ below (qAv dC dI a k A q) args s 0 0 A) dC dI a k A 1 0 σ (lv_args 0 [.ref (a 92)]) [] := by
  have hC0 := hC
  obtain ⟨hx, hb, hr, hml, hown, hts, hlocks, hA, hN, hK⟩ := hC0
  intro H locs ls hP hD hS hl
  have hD0 : ∀ σ1 : ST, va_D A (wA a k σ1) := fun σ1 => wA_D hD
  replace hl : lv_has ls 1 [(0, .ref (a 92))] := hl
  unfold f_X4_stepBack at h
  refine lv_aload_n hx hb dX4_stepBack_0 rfl (lv_at hl 0 rfl) ?_
  refine va_get (D := (dC, dI)) (ci := 4) (C := RX4) (T := TX4) (N := 12) hx hb hts inlX4 hown hK hP 92 gA_92 rfl 7 (by decide) (hts (.fieldLink RX4 21 "ShapeReader$Reading" "failure" "I") mw_10_23) (fun _ h9 => h9) rfl dX4_stepBack_1 ?_
  refine lv_if_ne (tgt := 17) hx hb dX4_stepBack_4 (by decide) (fun hc => ?_) (fun hc => ?_)
  · replace h := iq hc h
    obtain rfl := Option.some.inj h
    exact W.vret hx hb hr (fun t ht hW => ⟨⟨(), rfl, trivial, ⟨by rw [ht]; exact hP, va_K.moved hW.alike hK, hD⟩⟩, hS.F ht⟩) hS.2.2 dX4_stepBack_17
  · replace h := ip hc h
    refine lv_aload_n hx hb dX4_stepBack_7 rfl (lv_at hl 0 rfl) ?_
    refine lv_dup hx hb dX4_stepBack_8 rfl ?_
    refine va_get (D := (dC, dI)) (ci := 4) (C := RX4) (T := TX4) (N := 12) hx hb hts inlX4 hown hK hP 92 gA_92 rfl 10 (by decide) (hts (.fieldLink RX4 31 "ShapeReader$Reading" "steps" "I") mw_10_26) (fun _ h9 => h9) rfl dX4_stepBack_9 ?_
    refine lv_iconst (v := 1) hx hb dX4_stepBack_12 (by decide) ?_
    refine lv_isub hx hb dX4_stepBack_13 ?_
    refine va_put (D := (dC, dI)) (ci := 4) (ty := .int) (C := RX4) (T := TX4) (N := 12) hx hb hts inlX4 tyX4 tyX4_ok nmX4 hown hK hP hD hS 92 gA_92 rfl 10 (by decide) (hts (.fieldLink RX4 31 "ShapeReader$Reading" "steps" "I") mw_10_26) (fun _ h9 => h9) rfl (by decide +kernel) rfl rfl (Nat.le_of_ble_eq_true rfl) dX4_stepBack_14 (fun H locs hP hD hS => ?_)
    replace hP := uA_92_10 hP
    replace hD := hD0 ((stI σ 92 10 ((σ.1 92 10) - 1)))
    obtain rfl := Option.some.inj h
    exact W.vret hx hb hr (fun t ht hW => ⟨⟨(), rfl, trivial, ⟨by rw [ht]; exact hP, va_K.moved hW.alike hK, hD⟩⟩, hS.F ht⟩) hS.2.2 dX4_stepBack_17

theorem s_X4_stepBack_92_62 {l : Launch} {dC : Nat → ClassId} {dI : Nat → Nat → Nat} {a : Nat → Nat} {k : Nat → ClassId} {sz : Nat}  {σ : ST} {q : ST} (h : f_X4_stepBack 92 62  σ = some q) : Met l yX4_stepBack (.code yX4_stepBack cX4_stepBack 1 none :: pw) ({ frames := 0, cells := 0, slots := 0, locals := 0 } : Room) (va_Pc [.ref (a 92)] (vPre dC dI (wA a k σ) (tA k) sz)) (qAv dC dI a k (va_A (wA a k σ) sz) q) 0 0 (va_A (wA a k σ) sz) := metA (fun A => qAv dC dI a k A q) (plainFor_of_name (by decide)) (Nat.le_of_ble_eq_true rfl) (fun _ _ _ _ _ _ _ _ hC => b_X4_stepBack_e_92_62 hC h)

set_option maxRecDepth 100000 in
set_option maxHeartbeats 4000000 in
theorem b_X4_stepBack_e_92_74 {p : Program} {l : Launch} {e : Env} {s : State} {m : MethodId} {args : Array Value} {below : List Frame} {meth : Method} {c : Code} {dC : Nat → ClassId} {dI : Nat → Nat → Nat} {a : Nat → Nat} {k : Nat → ClassId} {A : Nat → Prop} {q : ST} (hC : CxA p s m args meth c dC dI k A cX4_stepBack RX4 none 1)    {σ : ST} (h : f_X4_stepBack 92 74  σ = some q) : GoA p l e ({ frames := 0, cells := 0, slots := 0, locals := 0 } : Room) s m args below meth c (MQ below (qAv dC dI a k A q) args s 0 0 A) dC dI a k A 1 0 σ (lv_args 0 [.ref (a 92)]) [] := by
  have hC0 := hC
  obtain ⟨hx, hb, hr, hml, hown, hts, hlocks, hA, hN, hK⟩ := hC0
  intro H locs ls hP hD hS hl
  have hD0 : ∀ σ1 : ST, va_D A (wA a k σ1) := fun σ1 => wA_D hD
  replace hl : lv_has ls 1 [(0, .ref (a 92))] := hl
  unfold f_X4_stepBack at h
  refine lv_aload_n hx hb dX4_stepBack_0 rfl (lv_at hl 0 rfl) ?_
  refine va_get (D := (dC, dI)) (ci := 4) (C := RX4) (T := TX4) (N := 12) hx hb hts inlX4 hown hK hP 92 gA_92 rfl 7 (by decide) (hts (.fieldLink RX4 21 "ShapeReader$Reading" "failure" "I") mw_10_23) (fun _ h9 => h9) rfl dX4_stepBack_1 ?_
  refine lv_if_ne (tgt := 17) hx hb dX4_stepBack_4 (by decide) (fun hc => ?_) (fun hc => ?_)
  · replace h := iq hc h
    obtain rfl := Option.some.inj h
    exact W.vret hx hb hr (fun t ht hW => ⟨⟨(), rfl, trivial, ⟨by rw [ht]; exact hP, va_K.moved hW.alike hK, hD⟩⟩, hS.F ht⟩) hS.2.2 dX4_stepBack_17
  · replace h := ip hc h
    refine lv_aload_n hx hb dX4_stepBack_7 rfl (lv_at hl 0 rfl) ?_
    refine lv_dup hx hb dX4_stepBack_8 rfl ?_
    refine va_get (D := (dC, dI)) (ci := 4) (C := RX4) (T := TX4) (N := 12) hx hb hts inlX4 hown hK hP 92 gA_92 rfl 10 (by decide) (hts (.fieldLink RX4 31 "ShapeReader$Reading" "steps" "I") mw_10_26) (fun _ h9 => h9) rfl dX4_stepBack_9 ?_
    refine lv_iconst (v := 1) hx hb dX4_stepBack_12 (by decide) ?_
    refine lv_isub hx hb dX4_stepBack_13 ?_
    refine va_put (D := (dC, dI)) (ci := 4) (ty := .int) (C := RX4) (T := TX4) (N := 12) hx hb hts inlX4 tyX4 tyX4_ok nmX4 hown hK hP hD hS 92 gA_92 rfl 10 (by decide) (hts (.fieldLink RX4 31 "ShapeReader$Reading" "steps" "I") mw_10_26) (fun _ h9 => h9) rfl (by decide +kernel) rfl rfl (Nat.le_of_ble_eq_true rfl) dX4_stepBack_14 (fun H locs hP hD hS => ?_)
    replace hP := uA_92_10 hP
    replace hD := hD0 ((stI σ 92 10 ((σ.1 92 10) - 1)))
    obtain rfl := Option.some.inj h
    exact W.vret hx hb hr (fun t ht hW => ⟨⟨(), rfl, trivial, ⟨by rw [ht]; exact hP, va_K.moved hW.alike hK, hD⟩⟩, hS.F ht⟩) hS.2.2 dX4_stepBack_17

theorem s_X4_stepBack_92_74 {l : Launch} {dC : Nat → ClassId} {dI : Nat → Nat → Nat} {a : Nat → Nat} {k : Nat → ClassId} {sz : Nat}  {σ : ST} {q : ST} (h : f_X4_stepBack 92 74  σ = some q) : Met l yX4_stepBack (.code yX4_stepBack cX4_stepBack 1 none :: pw) ({ frames := 0, cells := 0, slots := 0, locals := 0 } : Room) (va_Pc [.ref (a 92)] (vPre dC dI (wA a k σ) (tA k) sz)) (qAv dC dI a k (va_A (wA a k σ) sz) q) 0 0 (va_A (wA a k σ) sz) := metA (fun A => qAv dC dI a k A q) (plainFor_of_name (by decide)) (Nat.le_of_ble_eq_true rfl) (fun _ _ _ _ _ _ _ _ hC => b_X4_stepBack_e_92_74 hC h)

def f_X1_byteOf (p0 : Int32) (p1 : Int32) (σ : ST) : Option (Int32 × ST) := if ((p0 * 400) + p1) < 0 then (some (0, σ)) else (if 1600 ≤ ((p0 * 400) + p1) then (some (0, σ)) else (if 0 ≤ ((p0 * 400) + p1).toInt ∧ ((p0 * 400) + p1).toInt < 1600 then (some (((σ.1 38 ((p0 * 400) + p1).toNatClampNeg) &&& 255), σ)) else none))

set_option maxRecDepth 100000 in
set_option maxHeartbeats 4000000 in
theorem b_X1_byteOf_e {p : Program} {l : Launch} {e : Env} {s : State} {m : MethodId} {args : Array Value} {below : List Frame} {meth : Method} {c : Code} {dC : Nat → ClassId} {dI : Nat → Nat → Nat} {a : Nat → Nat} {k : Nat → ClassId} {A : Nat → Prop} {q : Int32 × ST} (hC : CxA p s m args meth c dC dI k A cX1_byteOf RX1 (some .int) 4)   {p0 : Int32} {p1 : Int32} {σ : ST} (h : f_X1_byteOf  p0 p1 σ = some q) : GoA p l e ({ frames := 0, cells := 0, slots := 0, locals := 0 } : Room) s m args below meth c (MQ below (qAi dC dI a k A q) args s 0 0 A) dC dI a k A 4 0 σ (lv_args 0 [.ref (a 37), .int p0, .int p1]) [] := by
  have hC0 := hC
  obtain ⟨hx, hb, hr, hml, hown, hts, hlocks, hA, hN, hK⟩ := hC0
  intro H locs ls hP hD hS hl
  have hD0 : ∀ σ1 : ST, va_D A (wA a k σ1) := fun σ1 => wA_D hD
  replace hl : lv_has ls 4 [(0, .ref (a 37)), (1, .int p0), (2, .int p1)] := hl
  unfold f_X1_byteOf at h
  refine lv_iload_n hx hb dX1_byteOf_0 rfl (lv_at hl 1 rfl) ?_
  refine lv_sipush (v := 400) hx hb dX1_byteOf_1 (by decide) ?_
  refine lv_imul hx hb dX1_byteOf_4 ?_
  refine lv_iload_n hx hb dX1_byteOf_5 rfl (lv_at hl 2 rfl) ?_
  refine lv_iadd hx hb dX1_byteOf_6 ?_
  refine lv_istore_n (lv' := [(3, .int ((p0 * 400) + p1)), (0, .ref (a 37)), (1, .int p0), (2, .int p1)]) hx hb dX1_byteOf_7 rfl hl (by decide) rfl (fun ls hl => ?_)
  refine lv_iload_n hx hb dX1_byteOf_8 rfl (lv_at hl 0 rfl) ?_
  refine lv_if_lt (tgt := 32) hx hb dX1_byteOf_9 (by decide) (fun hc => ?_) (fun hc => ?_)
  · replace h := ip hc h
    refine lv_iconst (v := 0) hx hb dX1_byteOf_32 (by decide) ?_
    obtain rfl := Option.some.inj h
    exact W.iret hx hb hr (fun t ht hW => ⟨⟨_, (), rfl, rfl, ⟨by rw [ht]; exact hP, va_K.moved hW.alike hK, hD⟩⟩, hS.F ht⟩) hS.2.2 dX1_byteOf_33
  · replace h := iq hc h
    refine lv_iload_n hx hb dX1_byteOf_12 rfl (lv_at hl 0 rfl) ?_
    refine lv_sipush (v := 1600) hx hb dX1_byteOf_13 (by decide) ?_
    refine lv_icmp_ge (tgt := 32) hx hb dX1_byteOf_16 (by decide) (fun hc => ?_) (fun hc => ?_)
    · replace h := ip hc h
      refine lv_iconst (v := 0) hx hb dX1_byteOf_32 (by decide) ?_
      obtain rfl := Option.some.inj h
      exact W.iret hx hb hr (fun t ht hW => ⟨⟨_, (), rfl, rfl, ⟨by rw [ht]; exact hP, va_K.moved hW.alike hK, hD⟩⟩, hS.F ht⟩) hS.2.2 dX1_byteOf_33
    · replace h := iq hc h
      refine lv_aload_n hx hb dX1_byteOf_19 rfl (lv_at hl 1 rfl) ?_
      refine va_get (D := (dC, dI)) (ci := 1) (C := RX1) (T := TX1) (N := 3) hx hb hts inlX1 hown hK hP 37 gA_37 rfl 0 (by decide) (hts (.fieldLink RX1 9 "ShapeReader$Messages" "bytes" "[B") mw_4_7) (fun _ h9 => h9) rfl dX1_byteOf_20 ?_
      refine lv_iload_n hx hb dX1_byteOf_23 rfl (lv_at hl 0 rfl) ?_
      obtain ⟨hg1, h⟩ := ig h
      refine va_bald hx hb hK hP 38 32 gA_38 yA_38 (vp_in_iff.mpr hg1) dX1_byteOf_24 ?_
      refine lv_sipush (v := 255) hx hb dX1_byteOf_25 (by decide) ?_
      refine lv_iand hx hb dX1_byteOf_28 ?_
      refine lv_goto (tgt := 33) hx hb dX1_byteOf_29 (by decide) ?_
      obtain rfl := Option.some.inj h
      exact W.iret hx hb hr (fun t ht hW => ⟨⟨_, (), rfl, rfl, ⟨by rw [ht]; exact hP, va_K.moved hW.alike hK, hD⟩⟩, hS.F ht⟩) hS.2.2 dX1_byteOf_33

theorem s_X1_byteOf {l : Launch} {dC : Nat → ClassId} {dI : Nat → Nat → Nat} {a : Nat → Nat} {k : Nat → ClassId} {sz : Nat} {p0 : Int32} {p1 : Int32} {σ : ST} {q : Int32 × ST} (h : f_X1_byteOf  p0 p1 σ = some q) : Met l yX1_byteOf (.code yX1_byteOf cX1_byteOf 4 (some .int) :: pw) ({ frames := 0, cells := 0, slots := 0, locals := 0 } : Room) (va_Pc [.ref (a 37), .int p0, .int p1] (vPre dC dI (wA a k σ) (tA k) sz)) (qAi dC dI a k (va_A (wA a k σ) sz) q) 0 0 (va_A (wA a k σ) sz) := metA (fun A => qAi dC dI a k A q) (plainFor_of_name (by decide)) (Nat.le_of_ble_eq_true rfl) (fun _ _ _ _ _ _ _ _ hC => b_X1_byteOf_e hC h)

def f_X4_takeByte (b : Nat) (t : Nat) (σ : ST) : Option (Int32 × ST) := if (σ.1 b 7) = 0 then (if (σ.1 b 5) < (σ.1 b 6) then ((f_X1_byteOf  (σ.1 b 4) (σ.1 b 5) σ).bind fun q1 => some (q1.1, (stI q1.2 b 5 ((q1.2.1 b 5) + 1)))) else ((f_X4_fail b t 11 (σ.1 b 6) σ).bind fun q3 => some (0, q3))) else (some (0, σ))

set_option maxRecDepth 100000 in
set_option maxHeartbeats 4000000 in
theorem b_X4_takeByte_e_89_50 {p : Program} {l : Launch} {e : Env} {s : State} {m : MethodId} {args : Array Value} {below : List Frame} {meth : Method} {c : Code} {dC : Nat → ClassId} {dI : Nat → Nat → Nat} {a : Nat → Nat} {k : Nat → ClassId} {A : Nat → Prop} {q : Int32 × ST} (hC : CxA p s m args meth c dC dI k A cX4_takeByte RX4 (some .int) 2)    {σ : ST} (h : f_X4_takeByte 89 50  σ = some q) : GoA p l e ({ frames := 1, cells := 0, slots := 0, locals := 23 } : Room) s m args below meth c (MQ below (qAi dC dI a k A q) args s 0 0 A) dC dI a k A 2 0 σ (lv_args 0 [.ref (a 89)]) [] := by
  have hC0 := hC
  obtain ⟨hx, hb, hr, hml, hown, hts, hlocks, hA, hN, hK⟩ := hC0
  intro H locs ls hP hD hS hl
  have hD0 : ∀ σ1 : ST, va_D A (wA a k σ1) := fun σ1 => wA_D hD
  replace hl : lv_has ls 2 [(0, .ref (a 89))] := hl
  unfold f_X4_takeByte at h
  refine lv_aload_n hx hb dX4_takeByte_0 rfl (lv_at hl 0 rfl) ?_
  refine va_get (D := (dC, dI)) (ci := 4) (C := RX4) (T := TX4) (N := 12) hx hb hts inlX4 hown hK hP 89 gA_89 rfl 7 (by decide) (hts (.fieldLink RX4 21 "ShapeReader$Reading" "failure" "I") mw_10_23) (fun _ h9 => h9) rfl dX4_takeByte_1 ?_
  refine lv_if_eq (tgt := 9) hx hb dX4_takeByte_4 (by decide) (fun hc => ?_) (fun hc => ?_)
  · replace h := ip hc h
    refine lv_aload_n hx hb dX4_takeByte_9 rfl (lv_at hl 0 rfl) ?_
    refine va_get (D := (dC, dI)) (ci := 4) (C := RX4) (T := TX4) (N := 12) hx hb hts inlX4 hown hK hP 89 gA_89 rfl 5 (by decide) (hts (.fieldLink RX4 15 "ShapeReader$Reading" "next" "I") mw_10_21) (fun _ h9 => h9) rfl dX4_takeByte_10 ?_
    refine lv_aload_n hx hb dX4_takeByte_13 rfl (lv_at hl 0 rfl) ?_
    refine va_get (D := (dC, dI)) (ci := 4) (C := RX4) (T := TX4) (N := 12) hx hb hts inlX4 hown hK hP 89 gA_89 rfl 6 (by decide) (hts (.fieldLink RX4 18 "ShapeReader$Reading" "end" "I") mw_10_22) (fun _ h9 => h9) rfl dX4_takeByte_14 ?_
    refine lv_icmp_lt (tgt := 32) hx hb dX4_takeByte_17 (by decide) (fun hc => ?_) (fun hc => ?_)
    · replace h := ip hc h
      refine lv_aload_n hx hb dX4_takeByte_32 rfl (lv_at hl 0 rfl) ?_
      refine va_get (D := (dC, dI)) (ci := 4) (C := RX4) (T := TX4) (N := 12) hx hb hts inlX4 hown hK hP 89 gA_89 rfl 1 (by decide) (hts (.fieldLink RX4 41 "ShapeReader$Reading" "messages" "LShapeReader$Messages;") mw_10_29) (fun _ h9 => h9) rfl dX4_takeByte_33 ?_
      refine lv_aload_n hx hb dX4_takeByte_36 rfl (lv_at hl 0 rfl) ?_
      refine va_get (D := (dC, dI)) (ci := 4) (C := RX4) (T := TX4) (N := 12) hx hb hts inlX4 hown hK hP 89 gA_89 rfl 4 (by decide) (hts (.fieldLink RX4 9 "ShapeReader$Reading" "message" "I") mw_10_20) (fun _ h9 => h9) rfl dX4_takeByte_37 ?_
      refine lv_aload_n hx hb dX4_takeByte_40 rfl (lv_at hl 0 rfl) ?_
      refine va_get (D := (dC, dI)) (ci := 4) (C := RX4) (T := TX4) (N := 12) hx hb hts inlX4 hown hK hP 89 gA_89 rfl 5 (by decide) (hts (.fieldLink RX4 15 "ShapeReader$Reading" "next" "I") mw_10_21) (fun _ h9 => h9) rfl dX4_takeByte_41 ?_
      obtain ⟨q1, hc, h⟩ := ib h
      have hF := va_frees hD hS hA
      refine va_calli (va_runV (As := [.int (σ.1 89 4), .int (σ.1 89 5)]) (rest := []) ⟨hx, hb, hml, hown, hts⟩ (s_X1_byteOf hc) (cwV 2 hts (gV mw_14_12 mw_4_18 mw_4_19 mw_0_5 mw_48_4) rfl rfl rfl (by decide +kernel) ⟨(Nat.le_of_ble_eq_true rfl), (Nat.le_of_ble_eq_true rfl)⟩) (vV (ci := 1) (q0 := 37) hK hP hD hN rfl gA_37) rfl rfl hl.1 rfl (lv_room (Nat.le_of_ble_eq_true rfl)) dX4_takeByte_44 ⟨(Nat.le_of_ble_eq_true rfl), (Nat.le_of_ble_eq_true rfl)⟩) hS (fun q _ h => hF q h) hF (fun r2 u t H locs ht hvm hw hB _ _ hS => ?_)
      obtain rfl : r2 = q1.1 := hw
      replace hP : va_P (dC, dI) vwCl (wA a k q1.2) H := by rw [← ht]; exact hB.1
      replace hD := hD0 (q1.2)
      clear hB hF
      refine lv_istore_n (lv' := [(1, .int q1.1), (0, .ref (a 89))]) hx hb dX4_takeByte_47 rfl hl (by decide) rfl (fun ls hl => ?_)
      refine lv_aload_n hx hb dX4_takeByte_48 rfl (lv_at hl 1 rfl) ?_
      refine lv_dup hx hb dX4_takeByte_49 rfl ?_
      refine va_get (D := (dC, dI)) (ci := 4) (C := RX4) (T := TX4) (N := 12) hx hb hts inlX4 hown hK hP 89 gA_89 rfl 5 (by decide) (hts (.fieldLink RX4 15 "ShapeReader$Reading" "next" "I") mw_10_21) (fun _ h9 => h9) rfl dX4_takeByte_50 ?_
      refine lv_iconst (v := 1) hx hb dX4_takeByte_53 (by decide) ?_
      refine lv_iadd hx hb dX4_takeByte_54 ?_
      refine va_put (D := (dC, dI)) (ci := 4) (ty := .int) (C := RX4) (T := TX4) (N := 12) hx hb hts inlX4 tyX4 tyX4_ok nmX4 hown hK hP hD hS 89 gA_89 rfl 5 (by decide) (hts (.fieldLink RX4 15 "ShapeReader$Reading" "next" "I") mw_10_21) (fun _ h9 => h9) rfl (by decide +kernel) rfl rfl (Nat.le_of_ble_eq_true rfl) dX4_takeByte_55 (fun H locs hP hD hS => ?_)
      replace hP := uA_89_5 hP
      replace hD := hD0 ((stI q1.2 89 5 ((q1.2.1 89 5) + 1)))
      refine lv_iload_n hx hb dX4_takeByte_58 rfl (lv_at hl 0 rfl) ?_
      obtain rfl := Option.some.inj h
      exact W.iret hx hb hr (fun t ht hW => ⟨⟨_, (), rfl, rfl, ⟨by rw [ht]; exact hP, va_K.moved hW.alike hK, hD⟩⟩, hS.F ht⟩) hS.2.2 dX4_takeByte_59
    · replace h := iq hc h
      refine lv_aload_n hx hb dX4_takeByte_20 rfl (lv_at hl 0 rfl) ?_
      refine lv_bipush (v := 11) hx hb dX4_takeByte_21 (by decide) ?_
      refine lv_aload_n hx hb dX4_takeByte_23 rfl (lv_at hl 0 rfl) ?_
      refine va_get (D := (dC, dI)) (ci := 4) (C := RX4) (T := TX4) (N := 12) hx hb hts inlX4 hown hK hP 89 gA_89 rfl 6 (by decide) (hts (.fieldLink RX4 18 "ShapeReader$Reading" "end" "I") mw_10_22) (fun _ h9 => h9) rfl dX4_takeByte_24 ?_
      obtain ⟨q3, hc, h⟩ := ib h
      have hF := va_frees hD hS hA
      refine va_callv (va_runV (As := [.int 11, .int (σ.1 89 6)]) (rest := []) ⟨hx, hb, hml, hown, hts⟩ (s_X4_fail_89_50 hc) (cwV 2 hts (gV mw_11_15 mw_11_16 mw_11_17 mw_0_8 mw_49_2) rfl rfl rfl (by decide +kernel) ⟨(Nat.le_of_ble_eq_true rfl), (Nat.le_of_ble_eq_true rfl)⟩) (vV (ci := 4) (q0 := 89) hK hP hD hN rfl gA_89) rfl rfl hl.1 rfl (lv_room (Nat.le_of_ble_eq_true rfl)) dX4_takeByte_27 ⟨(Nat.le_of_ble_eq_true rfl), (Nat.le_of_ble_eq_true rfl)⟩) hS (fun q _ h => hF q h) hF (fun u t H locs ht hvm hw hB _ _ hS => ?_)
      replace hP : va_P (dC, dI) vwCl (wA a k q3) H := by rw [← ht]; exact hB.1
      replace hD := hD0 (q3)
      clear hB hF
      refine lv_iconst (v := 0) hx hb dX4_takeByte_30 (by decide) ?_
      obtain rfl := Option.some.inj h
      exact W.iret hx hb hr (fun t ht hW => ⟨⟨_, (), rfl, rfl, ⟨by rw [ht]; exact hP, va_K.moved hW.alike hK, hD⟩⟩, hS.F ht⟩) hS.2.2 dX4_takeByte_31
  · replace h := iq hc h
    refine lv_iconst (v := 0) hx hb dX4_takeByte_7 (by decide) ?_
    obtain rfl := Option.some.inj h
    exact W.iret hx hb hr (fun t ht hW => ⟨⟨_, (), rfl, rfl, ⟨by rw [ht]; exact hP, va_K.moved hW.alike hK, hD⟩⟩, hS.F ht⟩) hS.2.2 dX4_takeByte_8

theorem s_X4_takeByte_89_50 {l : Launch} {dC : Nat → ClassId} {dI : Nat → Nat → Nat} {a : Nat → Nat} {k : Nat → ClassId} {sz : Nat}  {σ : ST} {q : Int32 × ST} (h : f_X4_takeByte 89 50  σ = some q) : Met l yX4_takeByte (.code yX4_takeByte cX4_takeByte 2 (some .int) :: pw) ({ frames := 1, cells := 0, slots := 0, locals := 23 } : Room) (va_Pc [.ref (a 89)] (vPre dC dI (wA a k σ) (tA k) sz)) (qAi dC dI a k (va_A (wA a k σ) sz) q) 0 0 (va_A (wA a k σ) sz) := metA (fun A => qAi dC dI a k A q) (plainFor_of_name (by decide)) (Nat.le_of_ble_eq_true rfl) (fun _ _ _ _ _ _ _ _ hC => b_X4_takeByte_e_89_50 hC h)

set_option maxRecDepth 100000 in
set_option maxHeartbeats 4000000 in
theorem b_X4_takeByte_e_92_62 {p : Program} {l : Launch} {e : Env} {s : State} {m : MethodId} {args : Array Value} {below : List Frame} {meth : Method} {c : Code} {dC : Nat → ClassId} {dI : Nat → Nat → Nat} {a : Nat → Nat} {k : Nat → ClassId} {A : Nat → Prop} {q : Int32 × ST} (hC : CxA p s m args meth c dC dI k A cX4_takeByte RX4 (some .int) 2)    {σ : ST} (h : f_X4_takeByte 92 62  σ = some q) : GoA p l e ({ frames := 1, cells := 0, slots := 0, locals := 23 } : Room) s m args below meth c (MQ below (qAi dC dI a k A q) args s 0 0 A) dC dI a k A 2 0 σ (lv_args 0 [.ref (a 92)]) [] := by
  have hC0 := hC
  obtain ⟨hx, hb, hr, hml, hown, hts, hlocks, hA, hN, hK⟩ := hC0
  intro H locs ls hP hD hS hl
  have hD0 : ∀ σ1 : ST, va_D A (wA a k σ1) := fun σ1 => wA_D hD
  replace hl : lv_has ls 2 [(0, .ref (a 92))] := hl
  unfold f_X4_takeByte at h
  refine lv_aload_n hx hb dX4_takeByte_0 rfl (lv_at hl 0 rfl) ?_
  refine va_get (D := (dC, dI)) (ci := 4) (C := RX4) (T := TX4) (N := 12) hx hb hts inlX4 hown hK hP 92 gA_92 rfl 7 (by decide) (hts (.fieldLink RX4 21 "ShapeReader$Reading" "failure" "I") mw_10_23) (fun _ h9 => h9) rfl dX4_takeByte_1 ?_
  refine lv_if_eq (tgt := 9) hx hb dX4_takeByte_4 (by decide) (fun hc => ?_) (fun hc => ?_)
  · replace h := ip hc h
    refine lv_aload_n hx hb dX4_takeByte_9 rfl (lv_at hl 0 rfl) ?_
    refine va_get (D := (dC, dI)) (ci := 4) (C := RX4) (T := TX4) (N := 12) hx hb hts inlX4 hown hK hP 92 gA_92 rfl 5 (by decide) (hts (.fieldLink RX4 15 "ShapeReader$Reading" "next" "I") mw_10_21) (fun _ h9 => h9) rfl dX4_takeByte_10 ?_
    refine lv_aload_n hx hb dX4_takeByte_13 rfl (lv_at hl 0 rfl) ?_
    refine va_get (D := (dC, dI)) (ci := 4) (C := RX4) (T := TX4) (N := 12) hx hb hts inlX4 hown hK hP 92 gA_92 rfl 6 (by decide) (hts (.fieldLink RX4 18 "ShapeReader$Reading" "end" "I") mw_10_22) (fun _ h9 => h9) rfl dX4_takeByte_14 ?_
    refine lv_icmp_lt (tgt := 32) hx hb dX4_takeByte_17 (by decide) (fun hc => ?_) (fun hc => ?_)
    · replace h := ip hc h
      refine lv_aload_n hx hb dX4_takeByte_32 rfl (lv_at hl 0 rfl) ?_
      refine va_get (D := (dC, dI)) (ci := 4) (C := RX4) (T := TX4) (N := 12) hx hb hts inlX4 hown hK hP 92 gA_92 rfl 1 (by decide) (hts (.fieldLink RX4 41 "ShapeReader$Reading" "messages" "LShapeReader$Messages;") mw_10_29) (fun _ h9 => h9) rfl dX4_takeByte_33 ?_
      refine lv_aload_n hx hb dX4_takeByte_36 rfl (lv_at hl 0 rfl) ?_
      refine va_get (D := (dC, dI)) (ci := 4) (C := RX4) (T := TX4) (N := 12) hx hb hts inlX4 hown hK hP 92 gA_92 rfl 4 (by decide) (hts (.fieldLink RX4 9 "ShapeReader$Reading" "message" "I") mw_10_20) (fun _ h9 => h9) rfl dX4_takeByte_37 ?_
      refine lv_aload_n hx hb dX4_takeByte_40 rfl (lv_at hl 0 rfl) ?_
      refine va_get (D := (dC, dI)) (ci := 4) (C := RX4) (T := TX4) (N := 12) hx hb hts inlX4 hown hK hP 92 gA_92 rfl 5 (by decide) (hts (.fieldLink RX4 15 "ShapeReader$Reading" "next" "I") mw_10_21) (fun _ h9 => h9) rfl dX4_takeByte_41 ?_
      obtain ⟨q1, hc, h⟩ := ib h
      have hF := va_frees hD hS hA
      refine va_calli (va_runV (As := [.int (σ.1 92 4), .int (σ.1 92 5)]) (rest := []) ⟨hx, hb, hml, hown, hts⟩ (s_X1_byteOf hc) (cwV 2 hts (gV mw_14_12 mw_4_18 mw_4_19 mw_0_5 mw_48_4) rfl rfl rfl (by decide +kernel) ⟨(Nat.le_of_ble_eq_true rfl), (Nat.le_of_ble_eq_true rfl)⟩) (vV (ci := 1) (q0 := 37) hK hP hD hN rfl gA_37) rfl rfl hl.1 rfl (lv_room (Nat.le_of_ble_eq_true rfl)) dX4_takeByte_44 ⟨(Nat.le_of_ble_eq_true rfl), (Nat.le_of_ble_eq_true rfl)⟩) hS (fun q _ h => hF q h) hF (fun r2 u t H locs ht hvm hw hB _ _ hS => ?_)
      obtain rfl : r2 = q1.1 := hw
      replace hP : va_P (dC, dI) vwCl (wA a k q1.2) H := by rw [← ht]; exact hB.1
      replace hD := hD0 (q1.2)
      clear hB hF
      refine lv_istore_n (lv' := [(1, .int q1.1), (0, .ref (a 92))]) hx hb dX4_takeByte_47 rfl hl (by decide) rfl (fun ls hl => ?_)
      refine lv_aload_n hx hb dX4_takeByte_48 rfl (lv_at hl 1 rfl) ?_
      refine lv_dup hx hb dX4_takeByte_49 rfl ?_
      refine va_get (D := (dC, dI)) (ci := 4) (C := RX4) (T := TX4) (N := 12) hx hb hts inlX4 hown hK hP 92 gA_92 rfl 5 (by decide) (hts (.fieldLink RX4 15 "ShapeReader$Reading" "next" "I") mw_10_21) (fun _ h9 => h9) rfl dX4_takeByte_50 ?_
      refine lv_iconst (v := 1) hx hb dX4_takeByte_53 (by decide) ?_
      refine lv_iadd hx hb dX4_takeByte_54 ?_
      refine va_put (D := (dC, dI)) (ci := 4) (ty := .int) (C := RX4) (T := TX4) (N := 12) hx hb hts inlX4 tyX4 tyX4_ok nmX4 hown hK hP hD hS 92 gA_92 rfl 5 (by decide) (hts (.fieldLink RX4 15 "ShapeReader$Reading" "next" "I") mw_10_21) (fun _ h9 => h9) rfl (by decide +kernel) rfl rfl (Nat.le_of_ble_eq_true rfl) dX4_takeByte_55 (fun H locs hP hD hS => ?_)
      replace hP := uA_92_5 hP
      replace hD := hD0 ((stI q1.2 92 5 ((q1.2.1 92 5) + 1)))
      refine lv_iload_n hx hb dX4_takeByte_58 rfl (lv_at hl 0 rfl) ?_
      obtain rfl := Option.some.inj h
      exact W.iret hx hb hr (fun t ht hW => ⟨⟨_, (), rfl, rfl, ⟨by rw [ht]; exact hP, va_K.moved hW.alike hK, hD⟩⟩, hS.F ht⟩) hS.2.2 dX4_takeByte_59
    · replace h := iq hc h
      refine lv_aload_n hx hb dX4_takeByte_20 rfl (lv_at hl 0 rfl) ?_
      refine lv_bipush (v := 11) hx hb dX4_takeByte_21 (by decide) ?_
      refine lv_aload_n hx hb dX4_takeByte_23 rfl (lv_at hl 0 rfl) ?_
      refine va_get (D := (dC, dI)) (ci := 4) (C := RX4) (T := TX4) (N := 12) hx hb hts inlX4 hown hK hP 92 gA_92 rfl 6 (by decide) (hts (.fieldLink RX4 18 "ShapeReader$Reading" "end" "I") mw_10_22) (fun _ h9 => h9) rfl dX4_takeByte_24 ?_
      obtain ⟨q3, hc, h⟩ := ib h
      have hF := va_frees hD hS hA
      refine va_callv (va_runV (As := [.int 11, .int (σ.1 92 6)]) (rest := []) ⟨hx, hb, hml, hown, hts⟩ (s_X4_fail_92_62 hc) (cwV 2 hts (gV mw_11_15 mw_11_16 mw_11_17 mw_0_8 mw_49_2) rfl rfl rfl (by decide +kernel) ⟨(Nat.le_of_ble_eq_true rfl), (Nat.le_of_ble_eq_true rfl)⟩) (vV (ci := 4) (q0 := 92) hK hP hD hN rfl gA_92) rfl rfl hl.1 rfl (lv_room (Nat.le_of_ble_eq_true rfl)) dX4_takeByte_27 ⟨(Nat.le_of_ble_eq_true rfl), (Nat.le_of_ble_eq_true rfl)⟩) hS (fun q _ h => hF q h) hF (fun u t H locs ht hvm hw hB _ _ hS => ?_)
      replace hP : va_P (dC, dI) vwCl (wA a k q3) H := by rw [← ht]; exact hB.1
      replace hD := hD0 (q3)
      clear hB hF
      refine lv_iconst (v := 0) hx hb dX4_takeByte_30 (by decide) ?_
      obtain rfl := Option.some.inj h
      exact W.iret hx hb hr (fun t ht hW => ⟨⟨_, (), rfl, rfl, ⟨by rw [ht]; exact hP, va_K.moved hW.alike hK, hD⟩⟩, hS.F ht⟩) hS.2.2 dX4_takeByte_31
  · replace h := iq hc h
    refine lv_iconst (v := 0) hx hb dX4_takeByte_7 (by decide) ?_
    obtain rfl := Option.some.inj h
    exact W.iret hx hb hr (fun t ht hW => ⟨⟨_, (), rfl, rfl, ⟨by rw [ht]; exact hP, va_K.moved hW.alike hK, hD⟩⟩, hS.F ht⟩) hS.2.2 dX4_takeByte_8

theorem s_X4_takeByte_92_62 {l : Launch} {dC : Nat → ClassId} {dI : Nat → Nat → Nat} {a : Nat → Nat} {k : Nat → ClassId} {sz : Nat}  {σ : ST} {q : Int32 × ST} (h : f_X4_takeByte 92 62  σ = some q) : Met l yX4_takeByte (.code yX4_takeByte cX4_takeByte 2 (some .int) :: pw) ({ frames := 1, cells := 0, slots := 0, locals := 23 } : Room) (va_Pc [.ref (a 92)] (vPre dC dI (wA a k σ) (tA k) sz)) (qAi dC dI a k (va_A (wA a k σ) sz) q) 0 0 (va_A (wA a k σ) sz) := metA (fun A => qAi dC dI a k A q) (plainFor_of_name (by decide)) (Nat.le_of_ble_eq_true rfl) (fun _ _ _ _ _ _ _ _ hC => b_X4_takeByte_e_92_62 hC h)

set_option maxRecDepth 100000 in
set_option maxHeartbeats 4000000 in
theorem b_X4_takeByte_e_92_74 {p : Program} {l : Launch} {e : Env} {s : State} {m : MethodId} {args : Array Value} {below : List Frame} {meth : Method} {c : Code} {dC : Nat → ClassId} {dI : Nat → Nat → Nat} {a : Nat → Nat} {k : Nat → ClassId} {A : Nat → Prop} {q : Int32 × ST} (hC : CxA p s m args meth c dC dI k A cX4_takeByte RX4 (some .int) 2)    {σ : ST} (h : f_X4_takeByte 92 74  σ = some q) : GoA p l e ({ frames := 1, cells := 0, slots := 0, locals := 23 } : Room) s m args below meth c (MQ below (qAi dC dI a k A q) args s 0 0 A) dC dI a k A 2 0 σ (lv_args 0 [.ref (a 92)]) [] := by
  have hC0 := hC
  obtain ⟨hx, hb, hr, hml, hown, hts, hlocks, hA, hN, hK⟩ := hC0
  intro H locs ls hP hD hS hl
  have hD0 : ∀ σ1 : ST, va_D A (wA a k σ1) := fun σ1 => wA_D hD
  replace hl : lv_has ls 2 [(0, .ref (a 92))] := hl
  unfold f_X4_takeByte at h
  refine lv_aload_n hx hb dX4_takeByte_0 rfl (lv_at hl 0 rfl) ?_
  refine va_get (D := (dC, dI)) (ci := 4) (C := RX4) (T := TX4) (N := 12) hx hb hts inlX4 hown hK hP 92 gA_92 rfl 7 (by decide) (hts (.fieldLink RX4 21 "ShapeReader$Reading" "failure" "I") mw_10_23) (fun _ h9 => h9) rfl dX4_takeByte_1 ?_
  refine lv_if_eq (tgt := 9) hx hb dX4_takeByte_4 (by decide) (fun hc => ?_) (fun hc => ?_)
  · replace h := ip hc h
    refine lv_aload_n hx hb dX4_takeByte_9 rfl (lv_at hl 0 rfl) ?_
    refine va_get (D := (dC, dI)) (ci := 4) (C := RX4) (T := TX4) (N := 12) hx hb hts inlX4 hown hK hP 92 gA_92 rfl 5 (by decide) (hts (.fieldLink RX4 15 "ShapeReader$Reading" "next" "I") mw_10_21) (fun _ h9 => h9) rfl dX4_takeByte_10 ?_
    refine lv_aload_n hx hb dX4_takeByte_13 rfl (lv_at hl 0 rfl) ?_
    refine va_get (D := (dC, dI)) (ci := 4) (C := RX4) (T := TX4) (N := 12) hx hb hts inlX4 hown hK hP 92 gA_92 rfl 6 (by decide) (hts (.fieldLink RX4 18 "ShapeReader$Reading" "end" "I") mw_10_22) (fun _ h9 => h9) rfl dX4_takeByte_14 ?_
    refine lv_icmp_lt (tgt := 32) hx hb dX4_takeByte_17 (by decide) (fun hc => ?_) (fun hc => ?_)
    · replace h := ip hc h
      refine lv_aload_n hx hb dX4_takeByte_32 rfl (lv_at hl 0 rfl) ?_
      refine va_get (D := (dC, dI)) (ci := 4) (C := RX4) (T := TX4) (N := 12) hx hb hts inlX4 hown hK hP 92 gA_92 rfl 1 (by decide) (hts (.fieldLink RX4 41 "ShapeReader$Reading" "messages" "LShapeReader$Messages;") mw_10_29) (fun _ h9 => h9) rfl dX4_takeByte_33 ?_
      refine lv_aload_n hx hb dX4_takeByte_36 rfl (lv_at hl 0 rfl) ?_
      refine va_get (D := (dC, dI)) (ci := 4) (C := RX4) (T := TX4) (N := 12) hx hb hts inlX4 hown hK hP 92 gA_92 rfl 4 (by decide) (hts (.fieldLink RX4 9 "ShapeReader$Reading" "message" "I") mw_10_20) (fun _ h9 => h9) rfl dX4_takeByte_37 ?_
      refine lv_aload_n hx hb dX4_takeByte_40 rfl (lv_at hl 0 rfl) ?_
      refine va_get (D := (dC, dI)) (ci := 4) (C := RX4) (T := TX4) (N := 12) hx hb hts inlX4 hown hK hP 92 gA_92 rfl 5 (by decide) (hts (.fieldLink RX4 15 "ShapeReader$Reading" "next" "I") mw_10_21) (fun _ h9 => h9) rfl dX4_takeByte_41 ?_
      obtain ⟨q1, hc, h⟩ := ib h
      have hF := va_frees hD hS hA
      refine va_calli (va_runV (As := [.int (σ.1 92 4), .int (σ.1 92 5)]) (rest := []) ⟨hx, hb, hml, hown, hts⟩ (s_X1_byteOf hc) (cwV 2 hts (gV mw_14_12 mw_4_18 mw_4_19 mw_0_5 mw_48_4) rfl rfl rfl (by decide +kernel) ⟨(Nat.le_of_ble_eq_true rfl), (Nat.le_of_ble_eq_true rfl)⟩) (vV (ci := 1) (q0 := 37) hK hP hD hN rfl gA_37) rfl rfl hl.1 rfl (lv_room (Nat.le_of_ble_eq_true rfl)) dX4_takeByte_44 ⟨(Nat.le_of_ble_eq_true rfl), (Nat.le_of_ble_eq_true rfl)⟩) hS (fun q _ h => hF q h) hF (fun r2 u t H locs ht hvm hw hB _ _ hS => ?_)
      obtain rfl : r2 = q1.1 := hw
      replace hP : va_P (dC, dI) vwCl (wA a k q1.2) H := by rw [← ht]; exact hB.1
      replace hD := hD0 (q1.2)
      clear hB hF
      refine lv_istore_n (lv' := [(1, .int q1.1), (0, .ref (a 92))]) hx hb dX4_takeByte_47 rfl hl (by decide) rfl (fun ls hl => ?_)
      refine lv_aload_n hx hb dX4_takeByte_48 rfl (lv_at hl 1 rfl) ?_
      refine lv_dup hx hb dX4_takeByte_49 rfl ?_
      refine va_get (D := (dC, dI)) (ci := 4) (C := RX4) (T := TX4) (N := 12) hx hb hts inlX4 hown hK hP 92 gA_92 rfl 5 (by decide) (hts (.fieldLink RX4 15 "ShapeReader$Reading" "next" "I") mw_10_21) (fun _ h9 => h9) rfl dX4_takeByte_50 ?_
      refine lv_iconst (v := 1) hx hb dX4_takeByte_53 (by decide) ?_
      refine lv_iadd hx hb dX4_takeByte_54 ?_
      refine va_put (D := (dC, dI)) (ci := 4) (ty := .int) (C := RX4) (T := TX4) (N := 12) hx hb hts inlX4 tyX4 tyX4_ok nmX4 hown hK hP hD hS 92 gA_92 rfl 5 (by decide) (hts (.fieldLink RX4 15 "ShapeReader$Reading" "next" "I") mw_10_21) (fun _ h9 => h9) rfl (by decide +kernel) rfl rfl (Nat.le_of_ble_eq_true rfl) dX4_takeByte_55 (fun H locs hP hD hS => ?_)
      replace hP := uA_92_5 hP
      replace hD := hD0 ((stI q1.2 92 5 ((q1.2.1 92 5) + 1)))
      refine lv_iload_n hx hb dX4_takeByte_58 rfl (lv_at hl 0 rfl) ?_
      obtain rfl := Option.some.inj h
      exact W.iret hx hb hr (fun t ht hW => ⟨⟨_, (), rfl, rfl, ⟨by rw [ht]; exact hP, va_K.moved hW.alike hK, hD⟩⟩, hS.F ht⟩) hS.2.2 dX4_takeByte_59
    · replace h := iq hc h
      refine lv_aload_n hx hb dX4_takeByte_20 rfl (lv_at hl 0 rfl) ?_
      refine lv_bipush (v := 11) hx hb dX4_takeByte_21 (by decide) ?_
      refine lv_aload_n hx hb dX4_takeByte_23 rfl (lv_at hl 0 rfl) ?_
      refine va_get (D := (dC, dI)) (ci := 4) (C := RX4) (T := TX4) (N := 12) hx hb hts inlX4 hown hK hP 92 gA_92 rfl 6 (by decide) (hts (.fieldLink RX4 18 "ShapeReader$Reading" "end" "I") mw_10_22) (fun _ h9 => h9) rfl dX4_takeByte_24 ?_
      obtain ⟨q3, hc, h⟩ := ib h
      have hF := va_frees hD hS hA
      refine va_callv (va_runV (As := [.int 11, .int (σ.1 92 6)]) (rest := []) ⟨hx, hb, hml, hown, hts⟩ (s_X4_fail_92_74 hc) (cwV 2 hts (gV mw_11_15 mw_11_16 mw_11_17 mw_0_8 mw_49_2) rfl rfl rfl (by decide +kernel) ⟨(Nat.le_of_ble_eq_true rfl), (Nat.le_of_ble_eq_true rfl)⟩) (vV (ci := 4) (q0 := 92) hK hP hD hN rfl gA_92) rfl rfl hl.1 rfl (lv_room (Nat.le_of_ble_eq_true rfl)) dX4_takeByte_27 ⟨(Nat.le_of_ble_eq_true rfl), (Nat.le_of_ble_eq_true rfl)⟩) hS (fun q _ h => hF q h) hF (fun u t H locs ht hvm hw hB _ _ hS => ?_)
      replace hP : va_P (dC, dI) vwCl (wA a k q3) H := by rw [← ht]; exact hB.1
      replace hD := hD0 (q3)
      clear hB hF
      refine lv_iconst (v := 0) hx hb dX4_takeByte_30 (by decide) ?_
      obtain rfl := Option.some.inj h
      exact W.iret hx hb hr (fun t ht hW => ⟨⟨_, (), rfl, rfl, ⟨by rw [ht]; exact hP, va_K.moved hW.alike hK, hD⟩⟩, hS.F ht⟩) hS.2.2 dX4_takeByte_31
  · replace h := iq hc h
    refine lv_iconst (v := 0) hx hb dX4_takeByte_7 (by decide) ?_
    obtain rfl := Option.some.inj h
    exact W.iret hx hb hr (fun t ht hW => ⟨⟨_, (), rfl, rfl, ⟨by rw [ht]; exact hP, va_K.moved hW.alike hK, hD⟩⟩, hS.F ht⟩) hS.2.2 dX4_takeByte_8

theorem s_X4_takeByte_92_74 {l : Launch} {dC : Nat → ClassId} {dI : Nat → Nat → Nat} {a : Nat → Nat} {k : Nat → ClassId} {sz : Nat}  {σ : ST} {q : Int32 × ST} (h : f_X4_takeByte 92 74  σ = some q) : Met l yX4_takeByte (.code yX4_takeByte cX4_takeByte 2 (some .int) :: pw) ({ frames := 1, cells := 0, slots := 0, locals := 23 } : Room) (va_Pc [.ref (a 92)] (vPre dC dI (wA a k σ) (tA k) sz)) (qAi dC dI a k (va_A (wA a k σ) sz) q) 0 0 (va_A (wA a k σ) sz) := metA (fun A => qAi dC dI a k A q) (plainFor_of_name (by decide)) (Nat.le_of_ble_eq_true rfl) (fun _ _ _ _ _ _ _ _ hC => b_X4_takeByte_e_92_74 hC h)

def f_X4_takeNumber_70 (b : Nat) (t : Nat) (x2 : Int64) (σ : ST) : Option (Int64 × ST) := if (σ.1 b 7) = 0 then (some ((((x2.toUInt64 >>> ((1 : Int32).toInt64.toUInt64 &&& Int64.toUInt64 63)).toInt64) ^^^ (-(x2 &&& 1))), σ)) else (some (0, σ))
def f_X4_takeNumber_38 (k5 : Int32 → Int64 → Int32 → ST → Option (Int64 × ST)) (b : Nat) (t : Nat) (x1 : Int32) (x2 : Int64) (x4 : Int32) (x5 : Int32) (σ : ST) : Option (Int64 × ST) := if 128 ≤ x5 then (k5 x1 (x2 ||| (((x5 &&& 127).toInt64) <<< ((7 * x4).toInt64 &&& 63))) (x4 + 1) σ) else (f_X4_takeNumber_70 b t (x2 ||| (((x5 &&& 127).toInt64) <<< ((7 * x4).toInt64 &&& 63))) σ)
def f_X4_takeNumber_5 (b : Nat) (t : Nat) : Nat → Int32 → Int64 → Int32 → ST → Option (Int64 × ST)
  | 0, _, _, _, _ => none
  | n + 1, x1, x2, x4, σ => if 10 ≤ x4 then (f_X4_takeNumber_70 b t x2 σ) else ((f_X4_takeByte b t  σ).bind fun q1 => if x4 = 9 then (if q1.1 ≤ 1 then (f_X4_takeNumber_38 (f_X4_takeNumber_5 b t n) b t x1 x2 x4 q1.1 q1.2) else ((f_X4_fail b t 12 x1 q1.2).bind fun q3 => f_X4_takeNumber_38 (f_X4_takeNumber_5 b t n) b t x1 x2 x4 q1.1 q3)) else (f_X4_takeNumber_38 (f_X4_takeNumber_5 b t n) b t x1 x2 x4 q1.1 q1.2))
def f_X4_takeNumber (b : Nat) (t : Nat) (p0 : Int32) (σ : ST) : Option (Int64 × ST) := f_X4_takeNumber_5 b t FU p0 0 0 σ

set_option maxRecDepth 100000 in
set_option maxHeartbeats 4000000 in
theorem b_X4_takeNumber_70_89_50 {p : Program} {l : Launch} {e : Env} {s : State} {m : MethodId} {args : Array Value} {below : List Frame} {meth : Method} {c : Code} {dC : Nat → ClassId} {dI : Nat → Nat → Nat} {a : Nat → Nat} {k : Nat → ClassId} {A : Nat → Prop} {q : Int64 × ST} (hC : CxA p s m args meth c dC dI k A cX4_takeNumber RX4 (some .long) 6)   {x2 : Int64} {σ : ST} (h : f_X4_takeNumber_70 89 50 x2 σ = some q) : GoA p l e ({ frames := 2, cells := 0, slots := 0, locals := 44 } : Room) s m args below meth c (MQ below (qAl dC dI a k A q) args s 0 0 A) dC dI a k A 6 70 σ [(0, .ref (a 89)), (2, .long x2)] [] := by
  have hC0 := hC
  obtain ⟨hx, hb, hr, hml, hown, hts, hlocks, hA, hN, hK⟩ := hC0
  intro H locs ls hP hD hS hl
  have hD0 : ∀ σ1 : ST, va_D A (wA a k σ1) := fun σ1 => wA_D hD
  unfold f_X4_takeNumber_70 at h
  refine lv_aload_n hx hb dX4_takeNumber_70 rfl (lv_at hl 0 rfl) ?_
  refine va_get (D := (dC, dI)) (ci := 4) (C := RX4) (T := TX4) (N := 12) hx hb hts inlX4 hown hK hP 89 gA_89 rfl 7 (by decide) (hts (.fieldLink RX4 21 "ShapeReader$Reading" "failure" "I") mw_10_23) (fun _ h9 => h9) rfl dX4_takeNumber_71 ?_
  refine lv_if_eq (tgt := 81) hx hb dX4_takeNumber_74 (by decide) (fun hc => ?_) (fun hc => ?_)
  · replace h := ip hc h
    refine lv_lload_n hx hb dX4_takeNumber_81 rfl (lv_at hl 1 rfl) ?_
    refine lv_iconst (v := 1) hx hb dX4_takeNumber_82 (by decide) ?_
    refine lv_lushr (v := ((x2.toUInt64 >>> ((1 : Int32).toInt64.toUInt64 &&& Int64.toUInt64 63)).toInt64)) hx hb dX4_takeNumber_83 rfl ?_
    refine lv_lload_n hx hb dX4_takeNumber_84 rfl (lv_at hl 1 rfl) ?_
    refine lv_lconst (v := 1) hx hb dX4_takeNumber_85 (by decide) ?_
    refine lv_land hx hb dX4_takeNumber_86 ?_
    refine lv_lneg hx hb dX4_takeNumber_87 ?_
    refine lv_lxor hx hb dX4_takeNumber_88 ?_
    obtain rfl := Option.some.inj h
    exact W.lret hx hb hr (fun t ht hW => ⟨⟨_, (), rfl, rfl, ⟨by rw [ht]; exact hP, va_K.moved hW.alike hK, hD⟩⟩, hS.F ht⟩) hS.2.2 dX4_takeNumber_89
  · replace h := iq hc h
    refine lv_lconst (v := 0) hx hb dX4_takeNumber_77 (by decide) ?_
    refine lv_goto (tgt := 89) hx hb dX4_takeNumber_78 (by decide) ?_
    obtain rfl := Option.some.inj h
    exact W.lret hx hb hr (fun t ht hW => ⟨⟨_, (), rfl, rfl, ⟨by rw [ht]; exact hP, va_K.moved hW.alike hK, hD⟩⟩, hS.F ht⟩) hS.2.2 dX4_takeNumber_89

set_option maxRecDepth 100000 in
set_option maxHeartbeats 4000000 in
theorem b_X4_takeNumber_38_89_50 {p : Program} {l : Launch} {e : Env} {s : State} {m : MethodId} {args : Array Value} {below : List Frame} {meth : Method} {c : Code} {dC : Nat → ClassId} {dI : Nat → Nat → Nat} {a : Nat → Nat} {k : Nat → ClassId} {A : Nat → Prop} {q : Int64 × ST} (hC : CxA p s m args meth c dC dI k A cX4_takeNumber RX4 (some .long) 6)  {k5 : Int32 → Int64 → Int32 → ST → Option (Int64 × ST)} (hk5 : ∀ (x1 : Int32) (x2 : Int64) (x4 : Int32) (σ : ST), k5 x1 x2 x4 σ = some q → GoA p l e ({ frames := 2, cells := 0, slots := 0, locals := 44 } : Room) s m args below meth c (MQ below (qAl dC dI a k A q) args s 0 0 A) dC dI a k A 6 5 σ [(0, .ref (a 89)), (1, .int x1), (2, .long x2), (4, .int x4)] []) {x1 : Int32} {x2 : Int64} {x4 : Int32} {x5 : Int32} {σ : ST} (h : f_X4_takeNumber_38 k5 89 50 x1 x2 x4 x5 σ = some q) : GoA p l e ({ frames := 2, cells := 0, slots := 0, locals := 44 } : Room) s m args below meth c (MQ below (qAl dC dI a k A q) args s 0 0 A) dC dI a k A 6 38 σ [(0, .ref (a 89)), (1, .int x1), (2, .long x2), (4, .int x4), (5, .int x5)] [] := by
  have hC0 := hC
  obtain ⟨hx, hb, hr, hml, hown, hts, hlocks, hA, hN, hK⟩ := hC0
  intro H locs ls hP hD hS hl
  have hD0 : ∀ σ1 : ST, va_D A (wA a k σ1) := fun σ1 => wA_D hD
  unfold f_X4_takeNumber_38 at h
  refine lv_lload_n hx hb dX4_takeNumber_38 rfl (lv_at hl 2 rfl) ?_
  refine lv_iload hx hb dX4_takeNumber_39 (lv_at hl 4 rfl) ?_
  refine lv_bipush (v := 127) hx hb dX4_takeNumber_41 (by decide) ?_
  refine lv_iand hx hb dX4_takeNumber_43 ?_
  refine lv_i2l (v := (x5 &&& 127).toInt64) hx hb dX4_takeNumber_44 rfl ?_
  refine lv_bipush (v := 7) hx hb dX4_takeNumber_45 (by decide) ?_
  refine lv_iload hx hb dX4_takeNumber_47 (lv_at hl 3 rfl) ?_
  refine lv_imul hx hb dX4_takeNumber_49 ?_
  refine lv_lshl (v := (((x5 &&& 127).toInt64) <<< ((7 * x4).toInt64 &&& 63))) hx hb dX4_takeNumber_50 rfl ?_
  refine lv_lor hx hb dX4_takeNumber_51 ?_
  refine lv_lstore_n (lv' := [(2, .long (x2 ||| (((x5 &&& 127).toInt64) <<< ((7 * x4).toInt64 &&& 63)))), (0, .ref (a 89)), (1, .int x1), (4, .int x4), (5, .int x5)]) hx hb dX4_takeNumber_52 rfl hl (by decide) rfl (fun ls hl => ?_)
  refine lv_iload hx hb dX4_takeNumber_53 (lv_at hl 4 rfl) ?_
  refine lv_sipush (v := 128) hx hb dX4_takeNumber_55 (by decide) ?_
  refine lv_icmp_ge (tgt := 64) hx hb dX4_takeNumber_58 (by decide) (fun hc => ?_) (fun hc => ?_)
  · replace h := ip hc h
    refine lv_iinc (v := (x4 + 1)) (lv' := [(4, .int (x4 + 1)), (2, .long (x2 ||| (((x5 &&& 127).toInt64) <<< ((7 * x4).toInt64 &&& 63)))), (0, .ref (a 89)), (1, .int x1), (5, .int x5)]) hx hb dX4_takeNumber_64 hl (k := 3) rfl rfl (by decide) rfl (fun ls hl => ?_)
    refine lv_goto (tgt := 5) hx hb dX4_takeNumber_67 (by decide) ?_
    exact hk5 _ _ _ _ h _ _ _ hP hD hS (lv_sub hl [2, 3, 1, 0] rfl)
  · replace h := iq hc h
    refine lv_goto (tgt := 70) hx hb dX4_takeNumber_61 (by decide) ?_
    exact b_X4_takeNumber_70_89_50 hC h _ _ _ hP hD hS (lv_sub hl [1, 0] rfl)

set_option maxRecDepth 100000 in
set_option maxHeartbeats 4000000 in
theorem b_X4_takeNumber_5_89_50 {p : Program} {l : Launch} {e : Env} {s : State} {m : MethodId} {args : Array Value} {below : List Frame} {meth : Method} {c : Code} {dC : Nat → ClassId} {dI : Nat → Nat → Nat} {a : Nat → Nat} {k : Nat → ClassId} {A : Nat → Prop} {q : Int64 × ST} (hC : CxA p s m args meth c dC dI k A cX4_takeNumber RX4 (some .long) 6)   : ∀ (n : Nat) (x1 : Int32) (x2 : Int64) (x4 : Int32) (σ : ST), f_X4_takeNumber_5 89 50 n x1 x2 x4 σ = some q → GoA p l e ({ frames := 2, cells := 0, slots := 0, locals := 44 } : Room) s m args below meth c (MQ below (qAl dC dI a k A q) args s 0 0 A) dC dI a k A 6 5 σ [(0, .ref (a 89)), (1, .int x1), (2, .long x2), (4, .int x4)] [] := by
  intro n
  induction n with
  | zero =>
    intro x1 x2 x4 σ h
    rw [f_X4_takeNumber_5] at h
    cases h
  | succ n ih =>
    intro x1 x2 x4 σ h
    have hC0 := hC
    obtain ⟨hx, hb, hr, hml, hown, hts, hlocks, hA, hN, hK⟩ := hC0
    intro H locs ls hP hD hS hl
    have hD0 : ∀ σ1 : ST, va_D A (wA a k σ1) := fun σ1 => wA_D hD
    rw [f_X4_takeNumber_5] at h
    refine lv_iload hx hb dX4_takeNumber_5 (lv_at hl 3 rfl) ?_
    refine lv_bipush (v := 10) hx hb dX4_takeNumber_7 (by decide) ?_
    refine lv_icmp_ge (tgt := 70) hx hb dX4_takeNumber_9 (by decide) (fun hc => ?_) (fun hc => ?_)
    · replace h := ip hc h
      exact b_X4_takeNumber_70_89_50 hC h _ _ _ hP hD hS (lv_sub hl [0, 2] rfl)
    · replace h := iq hc h
      refine lv_aload_n hx hb dX4_takeNumber_12 rfl (lv_at hl 0 rfl) ?_
      obtain ⟨q1, hc, h⟩ := ib h
      have hF := va_frees hD hS hA
      refine va_calli (va_runV (As := []) (rest := []) ⟨hx, hb, hml, hown, hts⟩ (s_X4_takeByte_89_50 hc) (cwV 0 hts (gV mw_13_28 mw_13_29 mw_14_0 mw_0_8 mw_49_16) rfl rfl rfl (by decide +kernel) ⟨(Nat.le_of_ble_eq_true rfl), (Nat.le_of_ble_eq_true rfl)⟩) (vV (ci := 4) (q0 := 89) hK hP hD hN rfl gA_89) rfl rfl hl.1 rfl (lv_room (Nat.le_of_ble_eq_true rfl)) dX4_takeNumber_13 ⟨(Nat.le_of_ble_eq_true rfl), (Nat.le_of_ble_eq_true rfl)⟩) hS (fun q _ h => hF q h) hF (fun r2 u t H locs ht hvm hw hB _ _ hS => ?_)
      obtain rfl : r2 = q1.1 := hw
      replace hP : va_P (dC, dI) vwCl (wA a k q1.2) H := by rw [← ht]; exact hB.1
      replace hD := hD0 (q1.2)
      clear hB hF
      refine lv_istore (lv' := [(5, .int q1.1), (0, .ref (a 89)), (1, .int x1), (2, .long x2), (4, .int x4)]) hx hb dX4_takeNumber_16 hl (by decide) rfl (fun ls hl => ?_)
      refine lv_iload hx hb dX4_takeNumber_18 (lv_at hl 4 rfl) ?_
      refine lv_bipush (v := 9) hx hb dX4_takeNumber_20 (by decide) ?_
      refine lv_icmp_ne (tgt := 38) hx hb dX4_takeNumber_22 (by decide) (fun hc => ?_) (fun hc => ?_)
      · replace h := iq hc h
        exact b_X4_takeNumber_38_89_50 hC ih h _ _ _ hP hD hS (lv_sub hl [1, 2, 3, 4, 0] rfl)
      · replace h := ip hc h
        refine lv_iload hx hb dX4_takeNumber_25 (lv_at hl 0 rfl) ?_
        refine lv_iconst (v := 1) hx hb dX4_takeNumber_27 (by decide) ?_
        refine lv_icmp_le (tgt := 38) hx hb dX4_takeNumber_28 (by decide) (fun hc => ?_) (fun hc => ?_)
        · replace h := ip hc h
          exact b_X4_takeNumber_38_89_50 hC ih h _ _ _ hP hD hS (lv_sub hl [1, 2, 3, 4, 0] rfl)
        · replace h := iq hc h
          refine lv_aload_n hx hb dX4_takeNumber_31 rfl (lv_at hl 1 rfl) ?_
          refine lv_bipush (v := 12) hx hb dX4_takeNumber_32 (by decide) ?_
          refine lv_iload_n hx hb dX4_takeNumber_34 rfl (lv_at hl 2 rfl) ?_
          obtain ⟨q3, hc, h⟩ := ib h
          have hF := va_frees hD hS hA
          refine va_callv (va_runV (As := [.int 12, .int x1]) (rest := []) ⟨hx, hb, hml, hown, hts⟩ (s_X4_fail_89_50 hc) (cwV 2 hts (gV mw_11_15 mw_11_16 mw_11_17 mw_0_8 mw_49_2) rfl rfl rfl (by decide +kernel) ⟨(Nat.le_of_ble_eq_true rfl), (Nat.le_of_ble_eq_true rfl)⟩) (vV (ci := 4) (q0 := 89) hK hP hD hN rfl gA_89) rfl rfl hl.1 rfl (lv_room (Nat.le_of_ble_eq_true rfl)) dX4_takeNumber_35 ⟨(Nat.le_of_ble_eq_true rfl), (Nat.le_of_ble_eq_true rfl)⟩) hS (fun q _ h => hF q h) hF (fun u t H locs ht hvm hw hB _ _ hS => ?_)
          replace hP : va_P (dC, dI) vwCl (wA a k q3) H := by rw [← ht]; exact hB.1
          replace hD := hD0 (q3)
          clear hB hF
          exact b_X4_takeNumber_38_89_50 hC ih h _ _ _ hP hD hS (lv_sub hl [1, 2, 3, 4, 0] rfl)

set_option maxRecDepth 100000 in
set_option maxHeartbeats 4000000 in
theorem b_X4_takeNumber_e_89_50 {p : Program} {l : Launch} {e : Env} {s : State} {m : MethodId} {args : Array Value} {below : List Frame} {meth : Method} {c : Code} {dC : Nat → ClassId} {dI : Nat → Nat → Nat} {a : Nat → Nat} {k : Nat → ClassId} {A : Nat → Prop} {q : Int64 × ST} (hC : CxA p s m args meth c dC dI k A cX4_takeNumber RX4 (some .long) 6)   {p0 : Int32} {σ : ST} (h : f_X4_takeNumber 89 50 p0 σ = some q) : GoA p l e ({ frames := 2, cells := 0, slots := 0, locals := 44 } : Room) s m args below meth c (MQ below (qAl dC dI a k A q) args s 0 0 A) dC dI a k A 6 0 σ (lv_args 0 [.ref (a 89), .int p0]) [] := by
  have hC0 := hC
  obtain ⟨hx, hb, hr, hml, hown, hts, hlocks, hA, hN, hK⟩ := hC0
  intro H locs ls hP hD hS hl
  have hD0 : ∀ σ1 : ST, va_D A (wA a k σ1) := fun σ1 => wA_D hD
  replace hl : lv_has ls 6 [(0, .ref (a 89)), (1, .int p0)] := hl
  unfold f_X4_takeNumber at h
  refine lv_lconst (v := 0) hx hb dX4_takeNumber_0 (by decide) ?_
  refine lv_lstore_n (lv' := [(2, .long 0), (0, .ref (a 89)), (1, .int p0)]) hx hb dX4_takeNumber_1 rfl hl (by decide) rfl (fun ls hl => ?_)
  refine lv_iconst (v := 0) hx hb dX4_takeNumber_2 (by decide) ?_
  refine lv_istore (lv' := [(4, .int 0), (2, .long 0), (0, .ref (a 89)), (1, .int p0)]) hx hb dX4_takeNumber_3 hl (by decide) rfl (fun ls hl => ?_)
  exact b_X4_takeNumber_5_89_50 hC FU _ _ _ _ h _ _ _ hP hD hS (lv_sub hl [2, 3, 1, 0] rfl)

theorem s_X4_takeNumber_89_50 {l : Launch} {dC : Nat → ClassId} {dI : Nat → Nat → Nat} {a : Nat → Nat} {k : Nat → ClassId} {sz : Nat} {p0 : Int32} {σ : ST} {q : Int64 × ST} (h : f_X4_takeNumber 89 50 p0 σ = some q) : Met l yX4_takeNumber (.code yX4_takeNumber cX4_takeNumber 6 (some .long) :: pw) ({ frames := 2, cells := 0, slots := 0, locals := 44 } : Room) (va_Pc [.ref (a 89), .int p0] (vPre dC dI (wA a k σ) (tA k) sz)) (qAl dC dI a k (va_A (wA a k σ) sz) q) 0 0 (va_A (wA a k σ) sz) := metA (fun A => qAl dC dI a k A q) (plainFor_of_name (by decide)) (Nat.le_of_ble_eq_true rfl) (fun _ _ _ _ _ _ _ _ hC => b_X4_takeNumber_e_89_50 hC h)

set_option maxRecDepth 100000 in
set_option maxHeartbeats 4000000 in
theorem b_X4_takeNumber_70_92_62 {p : Program} {l : Launch} {e : Env} {s : State} {m : MethodId} {args : Array Value} {below : List Frame} {meth : Method} {c : Code} {dC : Nat → ClassId} {dI : Nat → Nat → Nat} {a : Nat → Nat} {k : Nat → ClassId} {A : Nat → Prop} {q : Int64 × ST} (hC : CxA p s m args meth c dC dI k A cX4_takeNumber RX4 (some .long) 6)   {x2 : Int64} {σ : ST} (h : f_X4_takeNumber_70 92 62 x2 σ = some q) : GoA p l e ({ frames := 2, cells := 0, slots := 0, locals := 44 } : Room) s m args below meth c (MQ below (qAl dC dI a k A q) args s 0 0 A) dC dI a k A 6 70 σ [(0, .ref (a 92)), (2, .long x2)] [] := by
  have hC0 := hC
  obtain ⟨hx, hb, hr, hml, hown, hts, hlocks, hA, hN, hK⟩ := hC0
  intro H locs ls hP hD hS hl
  have hD0 : ∀ σ1 : ST, va_D A (wA a k σ1) := fun σ1 => wA_D hD
  unfold f_X4_takeNumber_70 at h
  refine lv_aload_n hx hb dX4_takeNumber_70 rfl (lv_at hl 0 rfl) ?_
  refine va_get (D := (dC, dI)) (ci := 4) (C := RX4) (T := TX4) (N := 12) hx hb hts inlX4 hown hK hP 92 gA_92 rfl 7 (by decide) (hts (.fieldLink RX4 21 "ShapeReader$Reading" "failure" "I") mw_10_23) (fun _ h9 => h9) rfl dX4_takeNumber_71 ?_
  refine lv_if_eq (tgt := 81) hx hb dX4_takeNumber_74 (by decide) (fun hc => ?_) (fun hc => ?_)
  · replace h := ip hc h
    refine lv_lload_n hx hb dX4_takeNumber_81 rfl (lv_at hl 1 rfl) ?_
    refine lv_iconst (v := 1) hx hb dX4_takeNumber_82 (by decide) ?_
    refine lv_lushr (v := ((x2.toUInt64 >>> ((1 : Int32).toInt64.toUInt64 &&& Int64.toUInt64 63)).toInt64)) hx hb dX4_takeNumber_83 rfl ?_
    refine lv_lload_n hx hb dX4_takeNumber_84 rfl (lv_at hl 1 rfl) ?_
    refine lv_lconst (v := 1) hx hb dX4_takeNumber_85 (by decide) ?_
    refine lv_land hx hb dX4_takeNumber_86 ?_
    refine lv_lneg hx hb dX4_takeNumber_87 ?_
    refine lv_lxor hx hb dX4_takeNumber_88 ?_
    obtain rfl := Option.some.inj h
    exact W.lret hx hb hr (fun t ht hW => ⟨⟨_, (), rfl, rfl, ⟨by rw [ht]; exact hP, va_K.moved hW.alike hK, hD⟩⟩, hS.F ht⟩) hS.2.2 dX4_takeNumber_89
  · replace h := iq hc h
    refine lv_lconst (v := 0) hx hb dX4_takeNumber_77 (by decide) ?_
    refine lv_goto (tgt := 89) hx hb dX4_takeNumber_78 (by decide) ?_
    obtain rfl := Option.some.inj h
    exact W.lret hx hb hr (fun t ht hW => ⟨⟨_, (), rfl, rfl, ⟨by rw [ht]; exact hP, va_K.moved hW.alike hK, hD⟩⟩, hS.F ht⟩) hS.2.2 dX4_takeNumber_89

set_option maxRecDepth 100000 in
set_option maxHeartbeats 4000000 in
theorem b_X4_takeNumber_38_92_62 {p : Program} {l : Launch} {e : Env} {s : State} {m : MethodId} {args : Array Value} {below : List Frame} {meth : Method} {c : Code} {dC : Nat → ClassId} {dI : Nat → Nat → Nat} {a : Nat → Nat} {k : Nat → ClassId} {A : Nat → Prop} {q : Int64 × ST} (hC : CxA p s m args meth c dC dI k A cX4_takeNumber RX4 (some .long) 6)  {k5 : Int32 → Int64 → Int32 → ST → Option (Int64 × ST)} (hk5 : ∀ (x1 : Int32) (x2 : Int64) (x4 : Int32) (σ : ST), k5 x1 x2 x4 σ = some q → GoA p l e ({ frames := 2, cells := 0, slots := 0, locals := 44 } : Room) s m args below meth c (MQ below (qAl dC dI a k A q) args s 0 0 A) dC dI a k A 6 5 σ [(0, .ref (a 92)), (1, .int x1), (2, .long x2), (4, .int x4)] []) {x1 : Int32} {x2 : Int64} {x4 : Int32} {x5 : Int32} {σ : ST} (h : f_X4_takeNumber_38 k5 92 62 x1 x2 x4 x5 σ = some q) : GoA p l e ({ frames := 2, cells := 0, slots := 0, locals := 44 } : Room) s m args below meth c (MQ below (qAl dC dI a k A q) args s 0 0 A) dC dI a k A 6 38 σ [(0, .ref (a 92)), (1, .int x1), (2, .long x2), (4, .int x4), (5, .int x5)] [] := by
  have hC0 := hC
  obtain ⟨hx, hb, hr, hml, hown, hts, hlocks, hA, hN, hK⟩ := hC0
  intro H locs ls hP hD hS hl
  have hD0 : ∀ σ1 : ST, va_D A (wA a k σ1) := fun σ1 => wA_D hD
  unfold f_X4_takeNumber_38 at h
  refine lv_lload_n hx hb dX4_takeNumber_38 rfl (lv_at hl 2 rfl) ?_
  refine lv_iload hx hb dX4_takeNumber_39 (lv_at hl 4 rfl) ?_
  refine lv_bipush (v := 127) hx hb dX4_takeNumber_41 (by decide) ?_
  refine lv_iand hx hb dX4_takeNumber_43 ?_
  refine lv_i2l (v := (x5 &&& 127).toInt64) hx hb dX4_takeNumber_44 rfl ?_
  refine lv_bipush (v := 7) hx hb dX4_takeNumber_45 (by decide) ?_
  refine lv_iload hx hb dX4_takeNumber_47 (lv_at hl 3 rfl) ?_
  refine lv_imul hx hb dX4_takeNumber_49 ?_
  refine lv_lshl (v := (((x5 &&& 127).toInt64) <<< ((7 * x4).toInt64 &&& 63))) hx hb dX4_takeNumber_50 rfl ?_
  refine lv_lor hx hb dX4_takeNumber_51 ?_
  refine lv_lstore_n (lv' := [(2, .long (x2 ||| (((x5 &&& 127).toInt64) <<< ((7 * x4).toInt64 &&& 63)))), (0, .ref (a 92)), (1, .int x1), (4, .int x4), (5, .int x5)]) hx hb dX4_takeNumber_52 rfl hl (by decide) rfl (fun ls hl => ?_)
  refine lv_iload hx hb dX4_takeNumber_53 (lv_at hl 4 rfl) ?_
  refine lv_sipush (v := 128) hx hb dX4_takeNumber_55 (by decide) ?_
  refine lv_icmp_ge (tgt := 64) hx hb dX4_takeNumber_58 (by decide) (fun hc => ?_) (fun hc => ?_)
  · replace h := ip hc h
    refine lv_iinc (v := (x4 + 1)) (lv' := [(4, .int (x4 + 1)), (2, .long (x2 ||| (((x5 &&& 127).toInt64) <<< ((7 * x4).toInt64 &&& 63)))), (0, .ref (a 92)), (1, .int x1), (5, .int x5)]) hx hb dX4_takeNumber_64 hl (k := 3) rfl rfl (by decide) rfl (fun ls hl => ?_)
    refine lv_goto (tgt := 5) hx hb dX4_takeNumber_67 (by decide) ?_
    exact hk5 _ _ _ _ h _ _ _ hP hD hS (lv_sub hl [2, 3, 1, 0] rfl)
  · replace h := iq hc h
    refine lv_goto (tgt := 70) hx hb dX4_takeNumber_61 (by decide) ?_
    exact b_X4_takeNumber_70_92_62 hC h _ _ _ hP hD hS (lv_sub hl [1, 0] rfl)

set_option maxRecDepth 100000 in
set_option maxHeartbeats 4000000 in
theorem b_X4_takeNumber_5_92_62 {p : Program} {l : Launch} {e : Env} {s : State} {m : MethodId} {args : Array Value} {below : List Frame} {meth : Method} {c : Code} {dC : Nat → ClassId} {dI : Nat → Nat → Nat} {a : Nat → Nat} {k : Nat → ClassId} {A : Nat → Prop} {q : Int64 × ST} (hC : CxA p s m args meth c dC dI k A cX4_takeNumber RX4 (some .long) 6)   : ∀ (n : Nat) (x1 : Int32) (x2 : Int64) (x4 : Int32) (σ : ST), f_X4_takeNumber_5 92 62 n x1 x2 x4 σ = some q → GoA p l e ({ frames := 2, cells := 0, slots := 0, locals := 44 } : Room) s m args below meth c (MQ below (qAl dC dI a k A q) args s 0 0 A) dC dI a k A 6 5 σ [(0, .ref (a 92)), (1, .int x1), (2, .long x2), (4, .int x4)] [] := by
  intro n
  induction n with
  | zero =>
    intro x1 x2 x4 σ h
    rw [f_X4_takeNumber_5] at h
    cases h
  | succ n ih =>
    intro x1 x2 x4 σ h
    have hC0 := hC
    obtain ⟨hx, hb, hr, hml, hown, hts, hlocks, hA, hN, hK⟩ := hC0
    intro H locs ls hP hD hS hl
    have hD0 : ∀ σ1 : ST, va_D A (wA a k σ1) := fun σ1 => wA_D hD
    rw [f_X4_takeNumber_5] at h
    refine lv_iload hx hb dX4_takeNumber_5 (lv_at hl 3 rfl) ?_
    refine lv_bipush (v := 10) hx hb dX4_takeNumber_7 (by decide) ?_
    refine lv_icmp_ge (tgt := 70) hx hb dX4_takeNumber_9 (by decide) (fun hc => ?_) (fun hc => ?_)
    · replace h := ip hc h
      exact b_X4_takeNumber_70_92_62 hC h _ _ _ hP hD hS (lv_sub hl [0, 2] rfl)
    · replace h := iq hc h
      refine lv_aload_n hx hb dX4_takeNumber_12 rfl (lv_at hl 0 rfl) ?_
      obtain ⟨q1, hc, h⟩ := ib h
      have hF := va_frees hD hS hA
      refine va_calli (va_runV (As := []) (rest := []) ⟨hx, hb, hml, hown, hts⟩ (s_X4_takeByte_92_62 hc) (cwV 0 hts (gV mw_13_28 mw_13_29 mw_14_0 mw_0_8 mw_49_16) rfl rfl rfl (by decide +kernel) ⟨(Nat.le_of_ble_eq_true rfl), (Nat.le_of_ble_eq_true rfl)⟩) (vV (ci := 4) (q0 := 92) hK hP hD hN rfl gA_92) rfl rfl hl.1 rfl (lv_room (Nat.le_of_ble_eq_true rfl)) dX4_takeNumber_13 ⟨(Nat.le_of_ble_eq_true rfl), (Nat.le_of_ble_eq_true rfl)⟩) hS (fun q _ h => hF q h) hF (fun r2 u t H locs ht hvm hw hB _ _ hS => ?_)
      obtain rfl : r2 = q1.1 := hw
      replace hP : va_P (dC, dI) vwCl (wA a k q1.2) H := by rw [← ht]; exact hB.1
      replace hD := hD0 (q1.2)
      clear hB hF
      refine lv_istore (lv' := [(5, .int q1.1), (0, .ref (a 92)), (1, .int x1), (2, .long x2), (4, .int x4)]) hx hb dX4_takeNumber_16 hl (by decide) rfl (fun ls hl => ?_)
      refine lv_iload hx hb dX4_takeNumber_18 (lv_at hl 4 rfl) ?_
      refine lv_bipush (v := 9) hx hb dX4_takeNumber_20 (by decide) ?_
      refine lv_icmp_ne (tgt := 38) hx hb dX4_takeNumber_22 (by decide) (fun hc => ?_) (fun hc => ?_)
      · replace h := iq hc h
        exact b_X4_takeNumber_38_92_62 hC ih h _ _ _ hP hD hS (lv_sub hl [1, 2, 3, 4, 0] rfl)
      · replace h := ip hc h
        refine lv_iload hx hb dX4_takeNumber_25 (lv_at hl 0 rfl) ?_
        refine lv_iconst (v := 1) hx hb dX4_takeNumber_27 (by decide) ?_
        refine lv_icmp_le (tgt := 38) hx hb dX4_takeNumber_28 (by decide) (fun hc => ?_) (fun hc => ?_)
        · replace h := ip hc h
          exact b_X4_takeNumber_38_92_62 hC ih h _ _ _ hP hD hS (lv_sub hl [1, 2, 3, 4, 0] rfl)
        · replace h := iq hc h
          refine lv_aload_n hx hb dX4_takeNumber_31 rfl (lv_at hl 1 rfl) ?_
          refine lv_bipush (v := 12) hx hb dX4_takeNumber_32 (by decide) ?_
          refine lv_iload_n hx hb dX4_takeNumber_34 rfl (lv_at hl 2 rfl) ?_
          obtain ⟨q3, hc, h⟩ := ib h
          have hF := va_frees hD hS hA
          refine va_callv (va_runV (As := [.int 12, .int x1]) (rest := []) ⟨hx, hb, hml, hown, hts⟩ (s_X4_fail_92_62 hc) (cwV 2 hts (gV mw_11_15 mw_11_16 mw_11_17 mw_0_8 mw_49_2) rfl rfl rfl (by decide +kernel) ⟨(Nat.le_of_ble_eq_true rfl), (Nat.le_of_ble_eq_true rfl)⟩) (vV (ci := 4) (q0 := 92) hK hP hD hN rfl gA_92) rfl rfl hl.1 rfl (lv_room (Nat.le_of_ble_eq_true rfl)) dX4_takeNumber_35 ⟨(Nat.le_of_ble_eq_true rfl), (Nat.le_of_ble_eq_true rfl)⟩) hS (fun q _ h => hF q h) hF (fun u t H locs ht hvm hw hB _ _ hS => ?_)
          replace hP : va_P (dC, dI) vwCl (wA a k q3) H := by rw [← ht]; exact hB.1
          replace hD := hD0 (q3)
          clear hB hF
          exact b_X4_takeNumber_38_92_62 hC ih h _ _ _ hP hD hS (lv_sub hl [1, 2, 3, 4, 0] rfl)

set_option maxRecDepth 100000 in
set_option maxHeartbeats 4000000 in
theorem b_X4_takeNumber_e_92_62 {p : Program} {l : Launch} {e : Env} {s : State} {m : MethodId} {args : Array Value} {below : List Frame} {meth : Method} {c : Code} {dC : Nat → ClassId} {dI : Nat → Nat → Nat} {a : Nat → Nat} {k : Nat → ClassId} {A : Nat → Prop} {q : Int64 × ST} (hC : CxA p s m args meth c dC dI k A cX4_takeNumber RX4 (some .long) 6)   {p0 : Int32} {σ : ST} (h : f_X4_takeNumber 92 62 p0 σ = some q) : GoA p l e ({ frames := 2, cells := 0, slots := 0, locals := 44 } : Room) s m args below meth c (MQ below (qAl dC dI a k A q) args s 0 0 A) dC dI a k A 6 0 σ (lv_args 0 [.ref (a 92), .int p0]) [] := by
  have hC0 := hC
  obtain ⟨hx, hb, hr, hml, hown, hts, hlocks, hA, hN, hK⟩ := hC0
  intro H locs ls hP hD hS hl
  have hD0 : ∀ σ1 : ST, va_D A (wA a k σ1) := fun σ1 => wA_D hD
  replace hl : lv_has ls 6 [(0, .ref (a 92)), (1, .int p0)] := hl
  unfold f_X4_takeNumber at h
  refine lv_lconst (v := 0) hx hb dX4_takeNumber_0 (by decide) ?_
  refine lv_lstore_n (lv' := [(2, .long 0), (0, .ref (a 92)), (1, .int p0)]) hx hb dX4_takeNumber_1 rfl hl (by decide) rfl (fun ls hl => ?_)
  refine lv_iconst (v := 0) hx hb dX4_takeNumber_2 (by decide) ?_
  refine lv_istore (lv' := [(4, .int 0), (2, .long 0), (0, .ref (a 92)), (1, .int p0)]) hx hb dX4_takeNumber_3 hl (by decide) rfl (fun ls hl => ?_)
  exact b_X4_takeNumber_5_92_62 hC FU _ _ _ _ h _ _ _ hP hD hS (lv_sub hl [2, 3, 1, 0] rfl)

theorem s_X4_takeNumber_92_62 {l : Launch} {dC : Nat → ClassId} {dI : Nat → Nat → Nat} {a : Nat → Nat} {k : Nat → ClassId} {sz : Nat} {p0 : Int32} {σ : ST} {q : Int64 × ST} (h : f_X4_takeNumber 92 62 p0 σ = some q) : Met l yX4_takeNumber (.code yX4_takeNumber cX4_takeNumber 6 (some .long) :: pw) ({ frames := 2, cells := 0, slots := 0, locals := 44 } : Room) (va_Pc [.ref (a 92), .int p0] (vPre dC dI (wA a k σ) (tA k) sz)) (qAl dC dI a k (va_A (wA a k σ) sz) q) 0 0 (va_A (wA a k σ) sz) := metA (fun A => qAl dC dI a k A q) (plainFor_of_name (by decide)) (Nat.le_of_ble_eq_true rfl) (fun _ _ _ _ _ _ _ _ hC => b_X4_takeNumber_e_92_62 hC h)

set_option maxRecDepth 100000 in
set_option maxHeartbeats 4000000 in
theorem b_X4_takeNumber_70_92_74 {p : Program} {l : Launch} {e : Env} {s : State} {m : MethodId} {args : Array Value} {below : List Frame} {meth : Method} {c : Code} {dC : Nat → ClassId} {dI : Nat → Nat → Nat} {a : Nat → Nat} {k : Nat → ClassId} {A : Nat → Prop} {q : Int64 × ST} (hC : CxA p s m args meth c dC dI k A cX4_takeNumber RX4 (some .long) 6)   {x2 : Int64} {σ : ST} (h : f_X4_takeNumber_70 92 74 x2 σ = some q) : GoA p l e ({ frames := 2, cells := 0, slots := 0, locals := 44 } : Room) s m args below meth c (MQ below (qAl dC dI a k A q) args s 0 0 A) dC dI a k A 6 70 σ [(0, .ref (a 92)), (2, .long x2)] [] := by
  have hC0 := hC
  obtain ⟨hx, hb, hr, hml, hown, hts, hlocks, hA, hN, hK⟩ := hC0
  intro H locs ls hP hD hS hl
  have hD0 : ∀ σ1 : ST, va_D A (wA a k σ1) := fun σ1 => wA_D hD
  unfold f_X4_takeNumber_70 at h
  refine lv_aload_n hx hb dX4_takeNumber_70 rfl (lv_at hl 0 rfl) ?_
  refine va_get (D := (dC, dI)) (ci := 4) (C := RX4) (T := TX4) (N := 12) hx hb hts inlX4 hown hK hP 92 gA_92 rfl 7 (by decide) (hts (.fieldLink RX4 21 "ShapeReader$Reading" "failure" "I") mw_10_23) (fun _ h9 => h9) rfl dX4_takeNumber_71 ?_
  refine lv_if_eq (tgt := 81) hx hb dX4_takeNumber_74 (by decide) (fun hc => ?_) (fun hc => ?_)
  · replace h := ip hc h
    refine lv_lload_n hx hb dX4_takeNumber_81 rfl (lv_at hl 1 rfl) ?_
    refine lv_iconst (v := 1) hx hb dX4_takeNumber_82 (by decide) ?_
    refine lv_lushr (v := ((x2.toUInt64 >>> ((1 : Int32).toInt64.toUInt64 &&& Int64.toUInt64 63)).toInt64)) hx hb dX4_takeNumber_83 rfl ?_
    refine lv_lload_n hx hb dX4_takeNumber_84 rfl (lv_at hl 1 rfl) ?_
    refine lv_lconst (v := 1) hx hb dX4_takeNumber_85 (by decide) ?_
    refine lv_land hx hb dX4_takeNumber_86 ?_
    refine lv_lneg hx hb dX4_takeNumber_87 ?_
    refine lv_lxor hx hb dX4_takeNumber_88 ?_
    obtain rfl := Option.some.inj h
    exact W.lret hx hb hr (fun t ht hW => ⟨⟨_, (), rfl, rfl, ⟨by rw [ht]; exact hP, va_K.moved hW.alike hK, hD⟩⟩, hS.F ht⟩) hS.2.2 dX4_takeNumber_89
  · replace h := iq hc h
    refine lv_lconst (v := 0) hx hb dX4_takeNumber_77 (by decide) ?_
    refine lv_goto (tgt := 89) hx hb dX4_takeNumber_78 (by decide) ?_
    obtain rfl := Option.some.inj h
    exact W.lret hx hb hr (fun t ht hW => ⟨⟨_, (), rfl, rfl, ⟨by rw [ht]; exact hP, va_K.moved hW.alike hK, hD⟩⟩, hS.F ht⟩) hS.2.2 dX4_takeNumber_89

set_option maxRecDepth 100000 in
set_option maxHeartbeats 4000000 in
theorem b_X4_takeNumber_38_92_74 {p : Program} {l : Launch} {e : Env} {s : State} {m : MethodId} {args : Array Value} {below : List Frame} {meth : Method} {c : Code} {dC : Nat → ClassId} {dI : Nat → Nat → Nat} {a : Nat → Nat} {k : Nat → ClassId} {A : Nat → Prop} {q : Int64 × ST} (hC : CxA p s m args meth c dC dI k A cX4_takeNumber RX4 (some .long) 6)  {k5 : Int32 → Int64 → Int32 → ST → Option (Int64 × ST)} (hk5 : ∀ (x1 : Int32) (x2 : Int64) (x4 : Int32) (σ : ST), k5 x1 x2 x4 σ = some q → GoA p l e ({ frames := 2, cells := 0, slots := 0, locals := 44 } : Room) s m args below meth c (MQ below (qAl dC dI a k A q) args s 0 0 A) dC dI a k A 6 5 σ [(0, .ref (a 92)), (1, .int x1), (2, .long x2), (4, .int x4)] []) {x1 : Int32} {x2 : Int64} {x4 : Int32} {x5 : Int32} {σ : ST} (h : f_X4_takeNumber_38 k5 92 74 x1 x2 x4 x5 σ = some q) : GoA p l e ({ frames := 2, cells := 0, slots := 0, locals := 44 } : Room) s m args below meth c (MQ below (qAl dC dI a k A q) args s 0 0 A) dC dI a k A 6 38 σ [(0, .ref (a 92)), (1, .int x1), (2, .long x2), (4, .int x4), (5, .int x5)] [] := by
  have hC0 := hC
  obtain ⟨hx, hb, hr, hml, hown, hts, hlocks, hA, hN, hK⟩ := hC0
  intro H locs ls hP hD hS hl
  have hD0 : ∀ σ1 : ST, va_D A (wA a k σ1) := fun σ1 => wA_D hD
  unfold f_X4_takeNumber_38 at h
  refine lv_lload_n hx hb dX4_takeNumber_38 rfl (lv_at hl 2 rfl) ?_
  refine lv_iload hx hb dX4_takeNumber_39 (lv_at hl 4 rfl) ?_
  refine lv_bipush (v := 127) hx hb dX4_takeNumber_41 (by decide) ?_
  refine lv_iand hx hb dX4_takeNumber_43 ?_
  refine lv_i2l (v := (x5 &&& 127).toInt64) hx hb dX4_takeNumber_44 rfl ?_
  refine lv_bipush (v := 7) hx hb dX4_takeNumber_45 (by decide) ?_
  refine lv_iload hx hb dX4_takeNumber_47 (lv_at hl 3 rfl) ?_
  refine lv_imul hx hb dX4_takeNumber_49 ?_
  refine lv_lshl (v := (((x5 &&& 127).toInt64) <<< ((7 * x4).toInt64 &&& 63))) hx hb dX4_takeNumber_50 rfl ?_
  refine lv_lor hx hb dX4_takeNumber_51 ?_
  refine lv_lstore_n (lv' := [(2, .long (x2 ||| (((x5 &&& 127).toInt64) <<< ((7 * x4).toInt64 &&& 63)))), (0, .ref (a 92)), (1, .int x1), (4, .int x4), (5, .int x5)]) hx hb dX4_takeNumber_52 rfl hl (by decide) rfl (fun ls hl => ?_)
  refine lv_iload hx hb dX4_takeNumber_53 (lv_at hl 4 rfl) ?_
  refine lv_sipush (v := 128) hx hb dX4_takeNumber_55 (by decide) ?_
  refine lv_icmp_ge (tgt := 64) hx hb dX4_takeNumber_58 (by decide) (fun hc => ?_) (fun hc => ?_)
  · replace h := ip hc h
    refine lv_iinc (v := (x4 + 1)) (lv' := [(4, .int (x4 + 1)), (2, .long (x2 ||| (((x5 &&& 127).toInt64) <<< ((7 * x4).toInt64 &&& 63)))), (0, .ref (a 92)), (1, .int x1), (5, .int x5)]) hx hb dX4_takeNumber_64 hl (k := 3) rfl rfl (by decide) rfl (fun ls hl => ?_)
    refine lv_goto (tgt := 5) hx hb dX4_takeNumber_67 (by decide) ?_
    exact hk5 _ _ _ _ h _ _ _ hP hD hS (lv_sub hl [2, 3, 1, 0] rfl)
  · replace h := iq hc h
    refine lv_goto (tgt := 70) hx hb dX4_takeNumber_61 (by decide) ?_
    exact b_X4_takeNumber_70_92_74 hC h _ _ _ hP hD hS (lv_sub hl [1, 0] rfl)

set_option maxRecDepth 100000 in
set_option maxHeartbeats 4000000 in
theorem b_X4_takeNumber_5_92_74 {p : Program} {l : Launch} {e : Env} {s : State} {m : MethodId} {args : Array Value} {below : List Frame} {meth : Method} {c : Code} {dC : Nat → ClassId} {dI : Nat → Nat → Nat} {a : Nat → Nat} {k : Nat → ClassId} {A : Nat → Prop} {q : Int64 × ST} (hC : CxA p s m args meth c dC dI k A cX4_takeNumber RX4 (some .long) 6)   : ∀ (n : Nat) (x1 : Int32) (x2 : Int64) (x4 : Int32) (σ : ST), f_X4_takeNumber_5 92 74 n x1 x2 x4 σ = some q → GoA p l e ({ frames := 2, cells := 0, slots := 0, locals := 44 } : Room) s m args below meth c (MQ below (qAl dC dI a k A q) args s 0 0 A) dC dI a k A 6 5 σ [(0, .ref (a 92)), (1, .int x1), (2, .long x2), (4, .int x4)] [] := by
  intro n
  induction n with
  | zero =>
    intro x1 x2 x4 σ h
    rw [f_X4_takeNumber_5] at h
    cases h
  | succ n ih =>
    intro x1 x2 x4 σ h
    have hC0 := hC
    obtain ⟨hx, hb, hr, hml, hown, hts, hlocks, hA, hN, hK⟩ := hC0
    intro H locs ls hP hD hS hl
    have hD0 : ∀ σ1 : ST, va_D A (wA a k σ1) := fun σ1 => wA_D hD
    rw [f_X4_takeNumber_5] at h
    refine lv_iload hx hb dX4_takeNumber_5 (lv_at hl 3 rfl) ?_
    refine lv_bipush (v := 10) hx hb dX4_takeNumber_7 (by decide) ?_
    refine lv_icmp_ge (tgt := 70) hx hb dX4_takeNumber_9 (by decide) (fun hc => ?_) (fun hc => ?_)
    · replace h := ip hc h
      exact b_X4_takeNumber_70_92_74 hC h _ _ _ hP hD hS (lv_sub hl [0, 2] rfl)
    · replace h := iq hc h
      refine lv_aload_n hx hb dX4_takeNumber_12 rfl (lv_at hl 0 rfl) ?_
      obtain ⟨q1, hc, h⟩ := ib h
      have hF := va_frees hD hS hA
      refine va_calli (va_runV (As := []) (rest := []) ⟨hx, hb, hml, hown, hts⟩ (s_X4_takeByte_92_74 hc) (cwV 0 hts (gV mw_13_28 mw_13_29 mw_14_0 mw_0_8 mw_49_16) rfl rfl rfl (by decide +kernel) ⟨(Nat.le_of_ble_eq_true rfl), (Nat.le_of_ble_eq_true rfl)⟩) (vV (ci := 4) (q0 := 92) hK hP hD hN rfl gA_92) rfl rfl hl.1 rfl (lv_room (Nat.le_of_ble_eq_true rfl)) dX4_takeNumber_13 ⟨(Nat.le_of_ble_eq_true rfl), (Nat.le_of_ble_eq_true rfl)⟩) hS (fun q _ h => hF q h) hF (fun r2 u t H locs ht hvm hw hB _ _ hS => ?_)
      obtain rfl : r2 = q1.1 := hw
      replace hP : va_P (dC, dI) vwCl (wA a k q1.2) H := by rw [← ht]; exact hB.1
      replace hD := hD0 (q1.2)
      clear hB hF
      refine lv_istore (lv' := [(5, .int q1.1), (0, .ref (a 92)), (1, .int x1), (2, .long x2), (4, .int x4)]) hx hb dX4_takeNumber_16 hl (by decide) rfl (fun ls hl => ?_)
      refine lv_iload hx hb dX4_takeNumber_18 (lv_at hl 4 rfl) ?_
      refine lv_bipush (v := 9) hx hb dX4_takeNumber_20 (by decide) ?_
      refine lv_icmp_ne (tgt := 38) hx hb dX4_takeNumber_22 (by decide) (fun hc => ?_) (fun hc => ?_)
      · replace h := iq hc h
        exact b_X4_takeNumber_38_92_74 hC ih h _ _ _ hP hD hS (lv_sub hl [1, 2, 3, 4, 0] rfl)
      · replace h := ip hc h
        refine lv_iload hx hb dX4_takeNumber_25 (lv_at hl 0 rfl) ?_
        refine lv_iconst (v := 1) hx hb dX4_takeNumber_27 (by decide) ?_
        refine lv_icmp_le (tgt := 38) hx hb dX4_takeNumber_28 (by decide) (fun hc => ?_) (fun hc => ?_)
        · replace h := ip hc h
          exact b_X4_takeNumber_38_92_74 hC ih h _ _ _ hP hD hS (lv_sub hl [1, 2, 3, 4, 0] rfl)
        · replace h := iq hc h
          refine lv_aload_n hx hb dX4_takeNumber_31 rfl (lv_at hl 1 rfl) ?_
          refine lv_bipush (v := 12) hx hb dX4_takeNumber_32 (by decide) ?_
          refine lv_iload_n hx hb dX4_takeNumber_34 rfl (lv_at hl 2 rfl) ?_
          obtain ⟨q3, hc, h⟩ := ib h
          have hF := va_frees hD hS hA
          refine va_callv (va_runV (As := [.int 12, .int x1]) (rest := []) ⟨hx, hb, hml, hown, hts⟩ (s_X4_fail_92_74 hc) (cwV 2 hts (gV mw_11_15 mw_11_16 mw_11_17 mw_0_8 mw_49_2) rfl rfl rfl (by decide +kernel) ⟨(Nat.le_of_ble_eq_true rfl), (Nat.le_of_ble_eq_true rfl)⟩) (vV (ci := 4) (q0 := 92) hK hP hD hN rfl gA_92) rfl rfl hl.1 rfl (lv_room (Nat.le_of_ble_eq_true rfl)) dX4_takeNumber_35 ⟨(Nat.le_of_ble_eq_true rfl), (Nat.le_of_ble_eq_true rfl)⟩) hS (fun q _ h => hF q h) hF (fun u t H locs ht hvm hw hB _ _ hS => ?_)
          replace hP : va_P (dC, dI) vwCl (wA a k q3) H := by rw [← ht]; exact hB.1
          replace hD := hD0 (q3)
          clear hB hF
          exact b_X4_takeNumber_38_92_74 hC ih h _ _ _ hP hD hS (lv_sub hl [1, 2, 3, 4, 0] rfl)

set_option maxRecDepth 100000 in
set_option maxHeartbeats 4000000 in
theorem b_X4_takeNumber_e_92_74 {p : Program} {l : Launch} {e : Env} {s : State} {m : MethodId} {args : Array Value} {below : List Frame} {meth : Method} {c : Code} {dC : Nat → ClassId} {dI : Nat → Nat → Nat} {a : Nat → Nat} {k : Nat → ClassId} {A : Nat → Prop} {q : Int64 × ST} (hC : CxA p s m args meth c dC dI k A cX4_takeNumber RX4 (some .long) 6)   {p0 : Int32} {σ : ST} (h : f_X4_takeNumber 92 74 p0 σ = some q) : GoA p l e ({ frames := 2, cells := 0, slots := 0, locals := 44 } : Room) s m args below meth c (MQ below (qAl dC dI a k A q) args s 0 0 A) dC dI a k A 6 0 σ (lv_args 0 [.ref (a 92), .int p0]) [] := by
  have hC0 := hC
  obtain ⟨hx, hb, hr, hml, hown, hts, hlocks, hA, hN, hK⟩ := hC0
  intro H locs ls hP hD hS hl
  have hD0 : ∀ σ1 : ST, va_D A (wA a k σ1) := fun σ1 => wA_D hD
  replace hl : lv_has ls 6 [(0, .ref (a 92)), (1, .int p0)] := hl
  unfold f_X4_takeNumber at h
  refine lv_lconst (v := 0) hx hb dX4_takeNumber_0 (by decide) ?_
  refine lv_lstore_n (lv' := [(2, .long 0), (0, .ref (a 92)), (1, .int p0)]) hx hb dX4_takeNumber_1 rfl hl (by decide) rfl (fun ls hl => ?_)
  refine lv_iconst (v := 0) hx hb dX4_takeNumber_2 (by decide) ?_
  refine lv_istore (lv' := [(4, .int 0), (2, .long 0), (0, .ref (a 92)), (1, .int p0)]) hx hb dX4_takeNumber_3 hl (by decide) rfl (fun ls hl => ?_)
  exact b_X4_takeNumber_5_92_74 hC FU _ _ _ _ h _ _ _ hP hD hS (lv_sub hl [2, 3, 1, 0] rfl)

theorem s_X4_takeNumber_92_74 {l : Launch} {dC : Nat → ClassId} {dI : Nat → Nat → Nat} {a : Nat → Nat} {k : Nat → ClassId} {sz : Nat} {p0 : Int32} {σ : ST} {q : Int64 × ST} (h : f_X4_takeNumber 92 74 p0 σ = some q) : Met l yX4_takeNumber (.code yX4_takeNumber cX4_takeNumber 6 (some .long) :: pw) ({ frames := 2, cells := 0, slots := 0, locals := 44 } : Room) (va_Pc [.ref (a 92), .int p0] (vPre dC dI (wA a k σ) (tA k) sz)) (qAl dC dI a k (va_A (wA a k σ) sz) q) 0 0 (va_A (wA a k σ) sz) := metA (fun A => qAl dC dI a k A q) (plainFor_of_name (by decide)) (Nat.le_of_ble_eq_true rfl) (fun _ _ _ _ _ _ _ _ hC => b_X4_takeNumber_e_92_74 hC h)

def f_X4_takeCount_26 (b : Nat) (t : Nat) (x3 : Int64) (σ : ST) : Option (Int32 × ST) := if (σ.1 b 7) = 0 then (some ((x3.toInt32), σ)) else (some (0, σ))
def f_X4_takeCount_19 (b : Nat) (t : Nat) (x1 : Int32) (x3 : Int64) (σ : ST) : Option (Int32 × ST) := (f_X4_fail b t 12 x1 σ).bind fun q1 => f_X4_takeCount_26 b t x3 q1
def f_X4_takeCount (b : Nat) (t : Nat) (p0 : Int32) (p1 : Int32) (σ : ST) : Option (Int32 × ST) := (f_X4_takeNumber b t p0 σ).bind fun q1 => if (lg_cmp q1.1 0) < 0 then (f_X4_takeCount_19 b t p0 q1.1 q1.2) else (if (lg_cmp q1.1 (p1.toInt64)) ≤ 0 then (f_X4_takeCount_26 b t q1.1 q1.2) else (f_X4_takeCount_19 b t p0 q1.1 q1.2))

set_option maxRecDepth 100000 in
set_option maxHeartbeats 4000000 in
theorem b_X4_takeCount_26_89_50 {p : Program} {l : Launch} {e : Env} {s : State} {m : MethodId} {args : Array Value} {below : List Frame} {meth : Method} {c : Code} {dC : Nat → ClassId} {dI : Nat → Nat → Nat} {a : Nat → Nat} {k : Nat → ClassId} {A : Nat → Prop} {q : Int32 × ST} (hC : CxA p s m args meth c dC dI k A cX4_takeCount RX4 (some .int) 5)   {x3 : Int64} {σ : ST} (h : f_X4_takeCount_26 89 50 x3 σ = some q) : GoA p l e ({ frames := 3, cells := 0, slots := 0, locals := 69 } : Room) s m args below meth c (MQ below (qAi dC dI a k A q) args s 0 0 A) dC dI a k A 5 26 σ [(0, .ref (a 89)), (3, .long x3)] [] := by
  have hC0 := hC
  obtain ⟨hx, hb, hr, hml, hown, hts, hlocks, hA, hN, hK⟩ := hC0
  intro H locs ls hP hD hS hl
  have hD0 : ∀ σ1 : ST, va_D A (wA a k σ1) := fun σ1 => wA_D hD
  unfold f_X4_takeCount_26 at h
  refine lv_aload_n hx hb dX4_takeCount_26 rfl (lv_at hl 0 rfl) ?_
  refine va_get (D := (dC, dI)) (ci := 4) (C := RX4) (T := TX4) (N := 12) hx hb hts inlX4 hown hK hP 89 gA_89 rfl 7 (by decide) (hts (.fieldLink RX4 21 "ShapeReader$Reading" "failure" "I") mw_10_23) (fun _ h9 => h9) rfl dX4_takeCount_27 ?_
  refine lv_if_eq (tgt := 37) hx hb dX4_takeCount_30 (by decide) (fun hc => ?_) (fun hc => ?_)
  · replace h := ip hc h
    refine lv_lload_n hx hb dX4_takeCount_37 rfl (lv_at hl 1 rfl) ?_
    refine lv_l2i (v := x3.toInt32) hx hb dX4_takeCount_38 rfl ?_
    obtain rfl := Option.some.inj h
    exact W.iret hx hb hr (fun t ht hW => ⟨⟨_, (), rfl, rfl, ⟨by rw [ht]; exact hP, va_K.moved hW.alike hK, hD⟩⟩, hS.F ht⟩) hS.2.2 dX4_takeCount_39
  · replace h := iq hc h
    refine lv_iconst (v := 0) hx hb dX4_takeCount_33 (by decide) ?_
    refine lv_goto (tgt := 39) hx hb dX4_takeCount_34 (by decide) ?_
    obtain rfl := Option.some.inj h
    exact W.iret hx hb hr (fun t ht hW => ⟨⟨_, (), rfl, rfl, ⟨by rw [ht]; exact hP, va_K.moved hW.alike hK, hD⟩⟩, hS.F ht⟩) hS.2.2 dX4_takeCount_39

set_option maxRecDepth 100000 in
set_option maxHeartbeats 4000000 in
theorem b_X4_takeCount_19_89_50 {p : Program} {l : Launch} {e : Env} {s : State} {m : MethodId} {args : Array Value} {below : List Frame} {meth : Method} {c : Code} {dC : Nat → ClassId} {dI : Nat → Nat → Nat} {a : Nat → Nat} {k : Nat → ClassId} {A : Nat → Prop} {q : Int32 × ST} (hC : CxA p s m args meth c dC dI k A cX4_takeCount RX4 (some .int) 5)   {x1 : Int32} {x3 : Int64} {σ : ST} (h : f_X4_takeCount_19 89 50 x1 x3 σ = some q) : GoA p l e ({ frames := 3, cells := 0, slots := 0, locals := 69 } : Room) s m args below meth c (MQ below (qAi dC dI a k A q) args s 0 0 A) dC dI a k A 5 19 σ [(0, .ref (a 89)), (1, .int x1), (3, .long x3)] [] := by
  have hC0 := hC
  obtain ⟨hx, hb, hr, hml, hown, hts, hlocks, hA, hN, hK⟩ := hC0
  intro H locs ls hP hD hS hl
  have hD0 : ∀ σ1 : ST, va_D A (wA a k σ1) := fun σ1 => wA_D hD
  unfold f_X4_takeCount_19 at h
  refine lv_aload_n hx hb dX4_takeCount_19 rfl (lv_at hl 0 rfl) ?_
  refine lv_bipush (v := 12) hx hb dX4_takeCount_20 (by decide) ?_
  refine lv_iload_n hx hb dX4_takeCount_22 rfl (lv_at hl 1 rfl) ?_
  obtain ⟨q1, hc, h⟩ := ib h
  have hF := va_frees hD hS hA
  refine va_callv (va_runV (As := [.int 12, .int x1]) (rest := []) ⟨hx, hb, hml, hown, hts⟩ (s_X4_fail_89_50 hc) (cwV 2 hts (gV mw_11_15 mw_11_16 mw_11_17 mw_0_8 mw_49_2) rfl rfl rfl (by decide +kernel) ⟨(Nat.le_of_ble_eq_true rfl), (Nat.le_of_ble_eq_true rfl)⟩) (vV (ci := 4) (q0 := 89) hK hP hD hN rfl gA_89) rfl rfl hl.1 rfl (lv_room (Nat.le_of_ble_eq_true rfl)) dX4_takeCount_23 ⟨(Nat.le_of_ble_eq_true rfl), (Nat.le_of_ble_eq_true rfl)⟩) hS (fun q _ h => hF q h) hF (fun u t H locs ht hvm hw hB _ _ hS => ?_)
  replace hP : va_P (dC, dI) vwCl (wA a k q1) H := by rw [← ht]; exact hB.1
  replace hD := hD0 (q1)
  clear hB hF
  exact b_X4_takeCount_26_89_50 hC h _ _ _ hP hD hS (lv_sub hl [0, 2] rfl)

set_option maxRecDepth 100000 in
set_option maxHeartbeats 4000000 in
theorem b_X4_takeCount_e_89_50 {p : Program} {l : Launch} {e : Env} {s : State} {m : MethodId} {args : Array Value} {below : List Frame} {meth : Method} {c : Code} {dC : Nat → ClassId} {dI : Nat → Nat → Nat} {a : Nat → Nat} {k : Nat → ClassId} {A : Nat → Prop} {q : Int32 × ST} (hC : CxA p s m args meth c dC dI k A cX4_takeCount RX4 (some .int) 5)   {p0 : Int32} {p1 : Int32} {σ : ST} (h : f_X4_takeCount 89 50 p0 p1 σ = some q) : GoA p l e ({ frames := 3, cells := 0, slots := 0, locals := 69 } : Room) s m args below meth c (MQ below (qAi dC dI a k A q) args s 0 0 A) dC dI a k A 5 0 σ (lv_args 0 [.ref (a 89), .int p0, .int p1]) [] := by
  have hC0 := hC
  obtain ⟨hx, hb, hr, hml, hown, hts, hlocks, hA, hN, hK⟩ := hC0
  intro H locs ls hP hD hS hl
  have hD0 : ∀ σ1 : ST, va_D A (wA a k σ1) := fun σ1 => wA_D hD
  replace hl : lv_has ls 5 [(0, .ref (a 89)), (1, .int p0), (2, .int p1)] := hl
  unfold f_X4_takeCount at h
  refine lv_aload_n hx hb dX4_takeCount_0 rfl (lv_at hl 0 rfl) ?_
  refine lv_iload_n hx hb dX4_takeCount_1 rfl (lv_at hl 1 rfl) ?_
  obtain ⟨q1, hc, h⟩ := ib h
  have hF := va_frees hD hS hA
  refine va_calll (va_runV (As := [.int p0]) (rest := []) ⟨hx, hb, hml, hown, hts⟩ (s_X4_takeNumber_89_50 hc) (cwV 1 hts (gV mw_14_1 mw_14_2 mw_14_3 mw_0_8 mw_49_17) rfl rfl rfl (by decide +kernel) ⟨(Nat.le_of_ble_eq_true rfl), (Nat.le_of_ble_eq_true rfl)⟩) (vV (ci := 4) (q0 := 89) hK hP hD hN rfl gA_89) rfl rfl hl.1 rfl (lv_room (Nat.le_of_ble_eq_true rfl)) dX4_takeCount_2 ⟨(Nat.le_of_ble_eq_true rfl), (Nat.le_of_ble_eq_true rfl)⟩) hS (fun q _ h => hF q h) hF (fun r2 u t H locs ht hvm hw hB _ _ hS => ?_)
  obtain rfl : r2 = q1.1 := hw
  replace hP : va_P (dC, dI) vwCl (wA a k q1.2) H := by rw [← ht]; exact hB.1
  replace hD := hD0 (q1.2)
  clear hB hF
  refine lv_lstore_n (lv' := [(3, .long q1.1), (0, .ref (a 89)), (1, .int p0), (2, .int p1)]) hx hb dX4_takeCount_5 rfl hl (by decide) rfl (fun ls hl => ?_)
  refine lv_lload_n hx hb dX4_takeCount_6 rfl (lv_at hl 0 rfl) ?_
  refine lv_lconst (v := 0) hx hb dX4_takeCount_7 (by decide) ?_
  refine W.lcmp hx hb dX4_takeCount_8 ?_
  refine lv_if_lt (tgt := 19) hx hb dX4_takeCount_9 (by decide) (fun hc => ?_) (fun hc => ?_)
  · replace h := ip hc h
    exact b_X4_takeCount_19_89_50 hC h _ _ _ hP hD hS (lv_sub hl [1, 2, 0] rfl)
  · replace h := iq hc h
    refine lv_lload_n hx hb dX4_takeCount_12 rfl (lv_at hl 0 rfl) ?_
    refine lv_iload_n hx hb dX4_takeCount_13 rfl (lv_at hl 3 rfl) ?_
    refine lv_i2l (v := p1.toInt64) hx hb dX4_takeCount_14 rfl ?_
    refine W.lcmp hx hb dX4_takeCount_15 ?_
    refine lv_if_le (tgt := 26) hx hb dX4_takeCount_16 (by decide) (fun hc => ?_) (fun hc => ?_)
    · replace h := ip hc h
      exact b_X4_takeCount_26_89_50 hC h _ _ _ hP hD hS (lv_sub hl [1, 0] rfl)
    · replace h := iq hc h
      exact b_X4_takeCount_19_89_50 hC h _ _ _ hP hD hS (lv_sub hl [1, 2, 0] rfl)

theorem s_X4_takeCount_89_50 {l : Launch} {dC : Nat → ClassId} {dI : Nat → Nat → Nat} {a : Nat → Nat} {k : Nat → ClassId} {sz : Nat} {p0 : Int32} {p1 : Int32} {σ : ST} {q : Int32 × ST} (h : f_X4_takeCount 89 50 p0 p1 σ = some q) : Met l yX4_takeCount (.code yX4_takeCount cX4_takeCount 5 (some .int) :: pw) ({ frames := 3, cells := 0, slots := 0, locals := 69 } : Room) (va_Pc [.ref (a 89), .int p0, .int p1] (vPre dC dI (wA a k σ) (tA k) sz)) (qAi dC dI a k (va_A (wA a k σ) sz) q) 0 0 (va_A (wA a k σ) sz) := metA (fun A => qAi dC dI a k A q) (plainFor_of_name (by decide)) (Nat.le_of_ble_eq_true rfl) (fun _ _ _ _ _ _ _ _ hC => b_X4_takeCount_e_89_50 hC h)

set_option maxRecDepth 100000 in
set_option maxHeartbeats 4000000 in
theorem b_X4_takeCount_26_92_62 {p : Program} {l : Launch} {e : Env} {s : State} {m : MethodId} {args : Array Value} {below : List Frame} {meth : Method} {c : Code} {dC : Nat → ClassId} {dI : Nat → Nat → Nat} {a : Nat → Nat} {k : Nat → ClassId} {A : Nat → Prop} {q : Int32 × ST} (hC : CxA p s m args meth c dC dI k A cX4_takeCount RX4 (some .int) 5)   {x3 : Int64} {σ : ST} (h : f_X4_takeCount_26 92 62 x3 σ = some q) : GoA p l e ({ frames := 3, cells := 0, slots := 0, locals := 69 } : Room) s m args below meth c (MQ below (qAi dC dI a k A q) args s 0 0 A) dC dI a k A 5 26 σ [(0, .ref (a 92)), (3, .long x3)] [] := by
  have hC0 := hC
  obtain ⟨hx, hb, hr, hml, hown, hts, hlocks, hA, hN, hK⟩ := hC0
  intro H locs ls hP hD hS hl
  have hD0 : ∀ σ1 : ST, va_D A (wA a k σ1) := fun σ1 => wA_D hD
  unfold f_X4_takeCount_26 at h
  refine lv_aload_n hx hb dX4_takeCount_26 rfl (lv_at hl 0 rfl) ?_
  refine va_get (D := (dC, dI)) (ci := 4) (C := RX4) (T := TX4) (N := 12) hx hb hts inlX4 hown hK hP 92 gA_92 rfl 7 (by decide) (hts (.fieldLink RX4 21 "ShapeReader$Reading" "failure" "I") mw_10_23) (fun _ h9 => h9) rfl dX4_takeCount_27 ?_
  refine lv_if_eq (tgt := 37) hx hb dX4_takeCount_30 (by decide) (fun hc => ?_) (fun hc => ?_)
  · replace h := ip hc h
    refine lv_lload_n hx hb dX4_takeCount_37 rfl (lv_at hl 1 rfl) ?_
    refine lv_l2i (v := x3.toInt32) hx hb dX4_takeCount_38 rfl ?_
    obtain rfl := Option.some.inj h
    exact W.iret hx hb hr (fun t ht hW => ⟨⟨_, (), rfl, rfl, ⟨by rw [ht]; exact hP, va_K.moved hW.alike hK, hD⟩⟩, hS.F ht⟩) hS.2.2 dX4_takeCount_39
  · replace h := iq hc h
    refine lv_iconst (v := 0) hx hb dX4_takeCount_33 (by decide) ?_
    refine lv_goto (tgt := 39) hx hb dX4_takeCount_34 (by decide) ?_
    obtain rfl := Option.some.inj h
    exact W.iret hx hb hr (fun t ht hW => ⟨⟨_, (), rfl, rfl, ⟨by rw [ht]; exact hP, va_K.moved hW.alike hK, hD⟩⟩, hS.F ht⟩) hS.2.2 dX4_takeCount_39

set_option maxRecDepth 100000 in
set_option maxHeartbeats 4000000 in
theorem b_X4_takeCount_19_92_62 {p : Program} {l : Launch} {e : Env} {s : State} {m : MethodId} {args : Array Value} {below : List Frame} {meth : Method} {c : Code} {dC : Nat → ClassId} {dI : Nat → Nat → Nat} {a : Nat → Nat} {k : Nat → ClassId} {A : Nat → Prop} {q : Int32 × ST} (hC : CxA p s m args meth c dC dI k A cX4_takeCount RX4 (some .int) 5)   {x1 : Int32} {x3 : Int64} {σ : ST} (h : f_X4_takeCount_19 92 62 x1 x3 σ = some q) : GoA p l e ({ frames := 3, cells := 0, slots := 0, locals := 69 } : Room) s m args below meth c (MQ below (qAi dC dI a k A q) args s 0 0 A) dC dI a k A 5 19 σ [(0, .ref (a 92)), (1, .int x1), (3, .long x3)] [] := by
  have hC0 := hC
  obtain ⟨hx, hb, hr, hml, hown, hts, hlocks, hA, hN, hK⟩ := hC0
  intro H locs ls hP hD hS hl
  have hD0 : ∀ σ1 : ST, va_D A (wA a k σ1) := fun σ1 => wA_D hD
  unfold f_X4_takeCount_19 at h
  refine lv_aload_n hx hb dX4_takeCount_19 rfl (lv_at hl 0 rfl) ?_
  refine lv_bipush (v := 12) hx hb dX4_takeCount_20 (by decide) ?_
  refine lv_iload_n hx hb dX4_takeCount_22 rfl (lv_at hl 1 rfl) ?_
  obtain ⟨q1, hc, h⟩ := ib h
  have hF := va_frees hD hS hA
  refine va_callv (va_runV (As := [.int 12, .int x1]) (rest := []) ⟨hx, hb, hml, hown, hts⟩ (s_X4_fail_92_62 hc) (cwV 2 hts (gV mw_11_15 mw_11_16 mw_11_17 mw_0_8 mw_49_2) rfl rfl rfl (by decide +kernel) ⟨(Nat.le_of_ble_eq_true rfl), (Nat.le_of_ble_eq_true rfl)⟩) (vV (ci := 4) (q0 := 92) hK hP hD hN rfl gA_92) rfl rfl hl.1 rfl (lv_room (Nat.le_of_ble_eq_true rfl)) dX4_takeCount_23 ⟨(Nat.le_of_ble_eq_true rfl), (Nat.le_of_ble_eq_true rfl)⟩) hS (fun q _ h => hF q h) hF (fun u t H locs ht hvm hw hB _ _ hS => ?_)
  replace hP : va_P (dC, dI) vwCl (wA a k q1) H := by rw [← ht]; exact hB.1
  replace hD := hD0 (q1)
  clear hB hF
  exact b_X4_takeCount_26_92_62 hC h _ _ _ hP hD hS (lv_sub hl [0, 2] rfl)

set_option maxRecDepth 100000 in
set_option maxHeartbeats 4000000 in
theorem b_X4_takeCount_e_92_62 {p : Program} {l : Launch} {e : Env} {s : State} {m : MethodId} {args : Array Value} {below : List Frame} {meth : Method} {c : Code} {dC : Nat → ClassId} {dI : Nat → Nat → Nat} {a : Nat → Nat} {k : Nat → ClassId} {A : Nat → Prop} {q : Int32 × ST} (hC : CxA p s m args meth c dC dI k A cX4_takeCount RX4 (some .int) 5)   {p0 : Int32} {p1 : Int32} {σ : ST} (h : f_X4_takeCount 92 62 p0 p1 σ = some q) : GoA p l e ({ frames := 3, cells := 0, slots := 0, locals := 69 } : Room) s m args below meth c (MQ below (qAi dC dI a k A q) args s 0 0 A) dC dI a k A 5 0 σ (lv_args 0 [.ref (a 92), .int p0, .int p1]) [] := by
  have hC0 := hC
  obtain ⟨hx, hb, hr, hml, hown, hts, hlocks, hA, hN, hK⟩ := hC0
  intro H locs ls hP hD hS hl
  have hD0 : ∀ σ1 : ST, va_D A (wA a k σ1) := fun σ1 => wA_D hD
  replace hl : lv_has ls 5 [(0, .ref (a 92)), (1, .int p0), (2, .int p1)] := hl
  unfold f_X4_takeCount at h
  refine lv_aload_n hx hb dX4_takeCount_0 rfl (lv_at hl 0 rfl) ?_
  refine lv_iload_n hx hb dX4_takeCount_1 rfl (lv_at hl 1 rfl) ?_
  obtain ⟨q1, hc, h⟩ := ib h
  have hF := va_frees hD hS hA
  refine va_calll (va_runV (As := [.int p0]) (rest := []) ⟨hx, hb, hml, hown, hts⟩ (s_X4_takeNumber_92_62 hc) (cwV 1 hts (gV mw_14_1 mw_14_2 mw_14_3 mw_0_8 mw_49_17) rfl rfl rfl (by decide +kernel) ⟨(Nat.le_of_ble_eq_true rfl), (Nat.le_of_ble_eq_true rfl)⟩) (vV (ci := 4) (q0 := 92) hK hP hD hN rfl gA_92) rfl rfl hl.1 rfl (lv_room (Nat.le_of_ble_eq_true rfl)) dX4_takeCount_2 ⟨(Nat.le_of_ble_eq_true rfl), (Nat.le_of_ble_eq_true rfl)⟩) hS (fun q _ h => hF q h) hF (fun r2 u t H locs ht hvm hw hB _ _ hS => ?_)
  obtain rfl : r2 = q1.1 := hw
  replace hP : va_P (dC, dI) vwCl (wA a k q1.2) H := by rw [← ht]; exact hB.1
  replace hD := hD0 (q1.2)
  clear hB hF
  refine lv_lstore_n (lv' := [(3, .long q1.1), (0, .ref (a 92)), (1, .int p0), (2, .int p1)]) hx hb dX4_takeCount_5 rfl hl (by decide) rfl (fun ls hl => ?_)
  refine lv_lload_n hx hb dX4_takeCount_6 rfl (lv_at hl 0 rfl) ?_
  refine lv_lconst (v := 0) hx hb dX4_takeCount_7 (by decide) ?_
  refine W.lcmp hx hb dX4_takeCount_8 ?_
  refine lv_if_lt (tgt := 19) hx hb dX4_takeCount_9 (by decide) (fun hc => ?_) (fun hc => ?_)
  · replace h := ip hc h
    exact b_X4_takeCount_19_92_62 hC h _ _ _ hP hD hS (lv_sub hl [1, 2, 0] rfl)
  · replace h := iq hc h
    refine lv_lload_n hx hb dX4_takeCount_12 rfl (lv_at hl 0 rfl) ?_
    refine lv_iload_n hx hb dX4_takeCount_13 rfl (lv_at hl 3 rfl) ?_
    refine lv_i2l (v := p1.toInt64) hx hb dX4_takeCount_14 rfl ?_
    refine W.lcmp hx hb dX4_takeCount_15 ?_
    refine lv_if_le (tgt := 26) hx hb dX4_takeCount_16 (by decide) (fun hc => ?_) (fun hc => ?_)
    · replace h := ip hc h
      exact b_X4_takeCount_26_92_62 hC h _ _ _ hP hD hS (lv_sub hl [1, 0] rfl)
    · replace h := iq hc h
      exact b_X4_takeCount_19_92_62 hC h _ _ _ hP hD hS (lv_sub hl [1, 2, 0] rfl)

theorem s_X4_takeCount_92_62 {l : Launch} {dC : Nat → ClassId} {dI : Nat → Nat → Nat} {a : Nat → Nat} {k : Nat → ClassId} {sz : Nat} {p0 : Int32} {p1 : Int32} {σ : ST} {q : Int32 × ST} (h : f_X4_takeCount 92 62 p0 p1 σ = some q) : Met l yX4_takeCount (.code yX4_takeCount cX4_takeCount 5 (some .int) :: pw) ({ frames := 3, cells := 0, slots := 0, locals := 69 } : Room) (va_Pc [.ref (a 92), .int p0, .int p1] (vPre dC dI (wA a k σ) (tA k) sz)) (qAi dC dI a k (va_A (wA a k σ) sz) q) 0 0 (va_A (wA a k σ) sz) := metA (fun A => qAi dC dI a k A q) (plainFor_of_name (by decide)) (Nat.le_of_ble_eq_true rfl) (fun _ _ _ _ _ _ _ _ hC => b_X4_takeCount_e_92_62 hC h)

set_option maxRecDepth 100000 in
set_option maxHeartbeats 4000000 in
theorem b_X4_takeCount_26_92_74 {p : Program} {l : Launch} {e : Env} {s : State} {m : MethodId} {args : Array Value} {below : List Frame} {meth : Method} {c : Code} {dC : Nat → ClassId} {dI : Nat → Nat → Nat} {a : Nat → Nat} {k : Nat → ClassId} {A : Nat → Prop} {q : Int32 × ST} (hC : CxA p s m args meth c dC dI k A cX4_takeCount RX4 (some .int) 5)   {x3 : Int64} {σ : ST} (h : f_X4_takeCount_26 92 74 x3 σ = some q) : GoA p l e ({ frames := 3, cells := 0, slots := 0, locals := 69 } : Room) s m args below meth c (MQ below (qAi dC dI a k A q) args s 0 0 A) dC dI a k A 5 26 σ [(0, .ref (a 92)), (3, .long x3)] [] := by
  have hC0 := hC
  obtain ⟨hx, hb, hr, hml, hown, hts, hlocks, hA, hN, hK⟩ := hC0
  intro H locs ls hP hD hS hl
  have hD0 : ∀ σ1 : ST, va_D A (wA a k σ1) := fun σ1 => wA_D hD
  unfold f_X4_takeCount_26 at h
  refine lv_aload_n hx hb dX4_takeCount_26 rfl (lv_at hl 0 rfl) ?_
  refine va_get (D := (dC, dI)) (ci := 4) (C := RX4) (T := TX4) (N := 12) hx hb hts inlX4 hown hK hP 92 gA_92 rfl 7 (by decide) (hts (.fieldLink RX4 21 "ShapeReader$Reading" "failure" "I") mw_10_23) (fun _ h9 => h9) rfl dX4_takeCount_27 ?_
  refine lv_if_eq (tgt := 37) hx hb dX4_takeCount_30 (by decide) (fun hc => ?_) (fun hc => ?_)
  · replace h := ip hc h
    refine lv_lload_n hx hb dX4_takeCount_37 rfl (lv_at hl 1 rfl) ?_
    refine lv_l2i (v := x3.toInt32) hx hb dX4_takeCount_38 rfl ?_
    obtain rfl := Option.some.inj h
    exact W.iret hx hb hr (fun t ht hW => ⟨⟨_, (), rfl, rfl, ⟨by rw [ht]; exact hP, va_K.moved hW.alike hK, hD⟩⟩, hS.F ht⟩) hS.2.2 dX4_takeCount_39
  · replace h := iq hc h
    refine lv_iconst (v := 0) hx hb dX4_takeCount_33 (by decide) ?_
    refine lv_goto (tgt := 39) hx hb dX4_takeCount_34 (by decide) ?_
    obtain rfl := Option.some.inj h
    exact W.iret hx hb hr (fun t ht hW => ⟨⟨_, (), rfl, rfl, ⟨by rw [ht]; exact hP, va_K.moved hW.alike hK, hD⟩⟩, hS.F ht⟩) hS.2.2 dX4_takeCount_39

set_option maxRecDepth 100000 in
set_option maxHeartbeats 4000000 in
theorem b_X4_takeCount_19_92_74 {p : Program} {l : Launch} {e : Env} {s : State} {m : MethodId} {args : Array Value} {below : List Frame} {meth : Method} {c : Code} {dC : Nat → ClassId} {dI : Nat → Nat → Nat} {a : Nat → Nat} {k : Nat → ClassId} {A : Nat → Prop} {q : Int32 × ST} (hC : CxA p s m args meth c dC dI k A cX4_takeCount RX4 (some .int) 5)   {x1 : Int32} {x3 : Int64} {σ : ST} (h : f_X4_takeCount_19 92 74 x1 x3 σ = some q) : GoA p l e ({ frames := 3, cells := 0, slots := 0, locals := 69 } : Room) s m args below meth c (MQ below (qAi dC dI a k A q) args s 0 0 A) dC dI a k A 5 19 σ [(0, .ref (a 92)), (1, .int x1), (3, .long x3)] [] := by
  have hC0 := hC
  obtain ⟨hx, hb, hr, hml, hown, hts, hlocks, hA, hN, hK⟩ := hC0
  intro H locs ls hP hD hS hl
  have hD0 : ∀ σ1 : ST, va_D A (wA a k σ1) := fun σ1 => wA_D hD
  unfold f_X4_takeCount_19 at h
  refine lv_aload_n hx hb dX4_takeCount_19 rfl (lv_at hl 0 rfl) ?_
  refine lv_bipush (v := 12) hx hb dX4_takeCount_20 (by decide) ?_
  refine lv_iload_n hx hb dX4_takeCount_22 rfl (lv_at hl 1 rfl) ?_
  obtain ⟨q1, hc, h⟩ := ib h
  have hF := va_frees hD hS hA
  refine va_callv (va_runV (As := [.int 12, .int x1]) (rest := []) ⟨hx, hb, hml, hown, hts⟩ (s_X4_fail_92_74 hc) (cwV 2 hts (gV mw_11_15 mw_11_16 mw_11_17 mw_0_8 mw_49_2) rfl rfl rfl (by decide +kernel) ⟨(Nat.le_of_ble_eq_true rfl), (Nat.le_of_ble_eq_true rfl)⟩) (vV (ci := 4) (q0 := 92) hK hP hD hN rfl gA_92) rfl rfl hl.1 rfl (lv_room (Nat.le_of_ble_eq_true rfl)) dX4_takeCount_23 ⟨(Nat.le_of_ble_eq_true rfl), (Nat.le_of_ble_eq_true rfl)⟩) hS (fun q _ h => hF q h) hF (fun u t H locs ht hvm hw hB _ _ hS => ?_)
  replace hP : va_P (dC, dI) vwCl (wA a k q1) H := by rw [← ht]; exact hB.1
  replace hD := hD0 (q1)
  clear hB hF
  exact b_X4_takeCount_26_92_74 hC h _ _ _ hP hD hS (lv_sub hl [0, 2] rfl)

set_option maxRecDepth 100000 in
set_option maxHeartbeats 4000000 in
theorem b_X4_takeCount_e_92_74 {p : Program} {l : Launch} {e : Env} {s : State} {m : MethodId} {args : Array Value} {below : List Frame} {meth : Method} {c : Code} {dC : Nat → ClassId} {dI : Nat → Nat → Nat} {a : Nat → Nat} {k : Nat → ClassId} {A : Nat → Prop} {q : Int32 × ST} (hC : CxA p s m args meth c dC dI k A cX4_takeCount RX4 (some .int) 5)   {p0 : Int32} {p1 : Int32} {σ : ST} (h : f_X4_takeCount 92 74 p0 p1 σ = some q) : GoA p l e ({ frames := 3, cells := 0, slots := 0, locals := 69 } : Room) s m args below meth c (MQ below (qAi dC dI a k A q) args s 0 0 A) dC dI a k A 5 0 σ (lv_args 0 [.ref (a 92), .int p0, .int p1]) [] := by
  have hC0 := hC
  obtain ⟨hx, hb, hr, hml, hown, hts, hlocks, hA, hN, hK⟩ := hC0
  intro H locs ls hP hD hS hl
  have hD0 : ∀ σ1 : ST, va_D A (wA a k σ1) := fun σ1 => wA_D hD
  replace hl : lv_has ls 5 [(0, .ref (a 92)), (1, .int p0), (2, .int p1)] := hl
  unfold f_X4_takeCount at h
  refine lv_aload_n hx hb dX4_takeCount_0 rfl (lv_at hl 0 rfl) ?_
  refine lv_iload_n hx hb dX4_takeCount_1 rfl (lv_at hl 1 rfl) ?_
  obtain ⟨q1, hc, h⟩ := ib h
  have hF := va_frees hD hS hA
  refine va_calll (va_runV (As := [.int p0]) (rest := []) ⟨hx, hb, hml, hown, hts⟩ (s_X4_takeNumber_92_74 hc) (cwV 1 hts (gV mw_14_1 mw_14_2 mw_14_3 mw_0_8 mw_49_17) rfl rfl rfl (by decide +kernel) ⟨(Nat.le_of_ble_eq_true rfl), (Nat.le_of_ble_eq_true rfl)⟩) (vV (ci := 4) (q0 := 92) hK hP hD hN rfl gA_92) rfl rfl hl.1 rfl (lv_room (Nat.le_of_ble_eq_true rfl)) dX4_takeCount_2 ⟨(Nat.le_of_ble_eq_true rfl), (Nat.le_of_ble_eq_true rfl)⟩) hS (fun q _ h => hF q h) hF (fun r2 u t H locs ht hvm hw hB _ _ hS => ?_)
  obtain rfl : r2 = q1.1 := hw
  replace hP : va_P (dC, dI) vwCl (wA a k q1.2) H := by rw [← ht]; exact hB.1
  replace hD := hD0 (q1.2)
  clear hB hF
  refine lv_lstore_n (lv' := [(3, .long q1.1), (0, .ref (a 92)), (1, .int p0), (2, .int p1)]) hx hb dX4_takeCount_5 rfl hl (by decide) rfl (fun ls hl => ?_)
  refine lv_lload_n hx hb dX4_takeCount_6 rfl (lv_at hl 0 rfl) ?_
  refine lv_lconst (v := 0) hx hb dX4_takeCount_7 (by decide) ?_
  refine W.lcmp hx hb dX4_takeCount_8 ?_
  refine lv_if_lt (tgt := 19) hx hb dX4_takeCount_9 (by decide) (fun hc => ?_) (fun hc => ?_)
  · replace h := ip hc h
    exact b_X4_takeCount_19_92_74 hC h _ _ _ hP hD hS (lv_sub hl [1, 2, 0] rfl)
  · replace h := iq hc h
    refine lv_lload_n hx hb dX4_takeCount_12 rfl (lv_at hl 0 rfl) ?_
    refine lv_iload_n hx hb dX4_takeCount_13 rfl (lv_at hl 3 rfl) ?_
    refine lv_i2l (v := p1.toInt64) hx hb dX4_takeCount_14 rfl ?_
    refine W.lcmp hx hb dX4_takeCount_15 ?_
    refine lv_if_le (tgt := 26) hx hb dX4_takeCount_16 (by decide) (fun hc => ?_) (fun hc => ?_)
    · replace h := ip hc h
      exact b_X4_takeCount_26_92_74 hC h _ _ _ hP hD hS (lv_sub hl [1, 0] rfl)
    · replace h := iq hc h
      exact b_X4_takeCount_19_92_74 hC h _ _ _ hP hD hS (lv_sub hl [1, 2, 0] rfl)

theorem s_X4_takeCount_92_74 {l : Launch} {dC : Nat → ClassId} {dI : Nat → Nat → Nat} {a : Nat → Nat} {k : Nat → ClassId} {sz : Nat} {p0 : Int32} {p1 : Int32} {σ : ST} {q : Int32 × ST} (h : f_X4_takeCount 92 74 p0 p1 σ = some q) : Met l yX4_takeCount (.code yX4_takeCount cX4_takeCount 5 (some .int) :: pw) ({ frames := 3, cells := 0, slots := 0, locals := 69 } : Room) (va_Pc [.ref (a 92), .int p0, .int p1] (vPre dC dI (wA a k σ) (tA k) sz)) (qAi dC dI a k (va_A (wA a k σ) sz) q) 0 0 (va_A (wA a k σ) sz) := metA (fun A => qAi dC dI a k A q) (plainFor_of_name (by decide)) (Nat.le_of_ble_eq_true rfl) (fun _ _ _ _ _ _ _ _ hC => b_X4_takeCount_e_92_74 hC h)

def f_X7_isRow (b : Nat) (p0 : Int32) (σ : ST) : Option (Int32 × ST) := if p0 < 0 then (some (0, σ)) else (if (σ.1 b 1) ≤ p0 then (some (0, σ)) else (if (σ.1 b 0) ≤ p0 then (some (0, σ)) else (some (1, σ))))

set_option maxRecDepth 100000 in
set_option maxHeartbeats 4000000 in
theorem b_X7_isRow_e_50 {p : Program} {l : Launch} {e : Env} {s : State} {m : MethodId} {args : Array Value} {below : List Frame} {meth : Method} {c : Code} {dC : Nat → ClassId} {dI : Nat → Nat → Nat} {a : Nat → Nat} {k : Nat → ClassId} {A : Nat → Prop} {q : Int32 × ST} (hC : CxA p s m args meth c dC dI k A cX7_isRow RX7 (some .boolean) 2)   {p0 : Int32} {σ : ST} (h : f_X7_isRow 50 p0 σ = some q) : GoA p l e ({ frames := 0, cells := 0, slots := 0, locals := 0 } : Room) s m args below meth c (MQ below (qAi dC dI a k A q) args s 0 0 A) dC dI a k A 2 0 σ (lv_args 0 [.ref (a 50), .int p0]) [] := by
  have hC0 := hC
  obtain ⟨hx, hb, hr, hml, hown, hts, hlocks, hA, hN, hK⟩ := hC0
  intro H locs ls hP hD hS hl
  have hD0 : ∀ σ1 : ST, va_D A (wA a k σ1) := fun σ1 => wA_D hD
  replace hl : lv_has ls 2 [(0, .ref (a 50)), (1, .int p0)] := hl
  unfold f_X7_isRow at h
  refine lv_iload_n hx hb dX7_isRow_0 rfl (lv_at hl 1 rfl) ?_
  refine lv_if_lt (tgt := 24) hx hb dX7_isRow_1 (by decide) (fun hc => ?_) (fun hc => ?_)
  · replace h := ip hc h
    refine lv_iconst (v := 0) hx hb dX7_isRow_24 (by decide) ?_
    obtain rfl := Option.some.inj h
    exact W.zret hx hb hr rfl (fun t ht hW => ⟨⟨_, (), rfl, rfl, ⟨by rw [ht]; exact hP, va_K.moved hW.alike hK, hD⟩⟩, hS.F ht⟩) hS.2.2 dX7_isRow_25
  · replace h := iq hc h
    refine lv_iload_n hx hb dX7_isRow_4 rfl (lv_at hl 1 rfl) ?_
    refine lv_aload_n hx hb dX7_isRow_5 rfl (lv_at hl 0 rfl) ?_
    refine va_get (D := (dC, dI)) (ci := 7) (C := RX7) (T := TX7) (N := 13) hx hb hts inlX7 hown hK hP 50 gA_50 rfl 1 (by decide) (hts (.fieldLink RX7 9 "ShapeReader$Tree" "size" "I") mw_18_1) (fun _ h9 => h9) rfl dX7_isRow_6 ?_
    refine lv_icmp_ge (tgt := 24) hx hb dX7_isRow_9 (by decide) (fun hc => ?_) (fun hc => ?_)
    · replace h := ip hc h
      refine lv_iconst (v := 0) hx hb dX7_isRow_24 (by decide) ?_
      obtain rfl := Option.some.inj h
      exact W.zret hx hb hr rfl (fun t ht hW => ⟨⟨_, (), rfl, rfl, ⟨by rw [ht]; exact hP, va_K.moved hW.alike hK, hD⟩⟩, hS.F ht⟩) hS.2.2 dX7_isRow_25
    · replace h := iq hc h
      refine lv_iload_n hx hb dX7_isRow_12 rfl (lv_at hl 1 rfl) ?_
      refine lv_aload_n hx hb dX7_isRow_13 rfl (lv_at hl 0 rfl) ?_
      refine va_get (D := (dC, dI)) (ci := 7) (C := RX7) (T := TX7) (N := 13) hx hb hts inlX7 hown hK hP 50 gA_50 rfl 0 (by decide) (hts (.fieldLink RX7 15 "ShapeReader$Tree" "rows" "I") mw_18_2) (fun _ h9 => h9) rfl dX7_isRow_14 ?_
      refine lv_icmp_ge (tgt := 24) hx hb dX7_isRow_17 (by decide) (fun hc => ?_) (fun hc => ?_)
      · replace h := ip hc h
        refine lv_iconst (v := 0) hx hb dX7_isRow_24 (by decide) ?_
        obtain rfl := Option.some.inj h
        exact W.zret hx hb hr rfl (fun t ht hW => ⟨⟨_, (), rfl, rfl, ⟨by rw [ht]; exact hP, va_K.moved hW.alike hK, hD⟩⟩, hS.F ht⟩) hS.2.2 dX7_isRow_25
      · replace h := iq hc h
        refine lv_iconst (v := 1) hx hb dX7_isRow_20 (by decide) ?_
        refine lv_goto (tgt := 25) hx hb dX7_isRow_21 (by decide) ?_
        obtain rfl := Option.some.inj h
        exact W.zret hx hb hr rfl (fun t ht hW => ⟨⟨_, (), rfl, rfl, ⟨by rw [ht]; exact hP, va_K.moved hW.alike hK, hD⟩⟩, hS.F ht⟩) hS.2.2 dX7_isRow_25

theorem s_X7_isRow_50 {l : Launch} {dC : Nat → ClassId} {dI : Nat → Nat → Nat} {a : Nat → Nat} {k : Nat → ClassId} {sz : Nat} {p0 : Int32} {σ : ST} {q : Int32 × ST} (h : f_X7_isRow 50 p0 σ = some q) : Met l yX7_isRow (.code yX7_isRow cX7_isRow 2 (some .boolean) :: pw) ({ frames := 0, cells := 0, slots := 0, locals := 0 } : Room) (va_Pc [.ref (a 50), .int p0] (vPre dC dI (wA a k σ) (tA k) sz)) (qAi dC dI a k (va_A (wA a k σ) sz) q) 0 0 (va_A (wA a k σ) sz) := metA (fun A => qAi dC dI a k A q) (plainFor_of_name (by decide)) (Nat.le_of_ble_eq_true rfl) (fun _ _ _ _ _ _ _ _ hC => b_X7_isRow_e_50 hC h)

set_option maxRecDepth 100000 in
set_option maxHeartbeats 4000000 in
theorem b_X7_isRow_e_62 {p : Program} {l : Launch} {e : Env} {s : State} {m : MethodId} {args : Array Value} {below : List Frame} {meth : Method} {c : Code} {dC : Nat → ClassId} {dI : Nat → Nat → Nat} {a : Nat → Nat} {k : Nat → ClassId} {A : Nat → Prop} {q : Int32 × ST} (hC : CxA p s m args meth c dC dI k A cX7_isRow RX7 (some .boolean) 2)   {p0 : Int32} {σ : ST} (h : f_X7_isRow 62 p0 σ = some q) : GoA p l e ({ frames := 0, cells := 0, slots := 0, locals := 0 } : Room) s m args below meth c (MQ below (qAi dC dI a k A q) args s 0 0 A) dC dI a k A 2 0 σ (lv_args 0 [.ref (a 62), .int p0]) [] := by
  have hC0 := hC
  obtain ⟨hx, hb, hr, hml, hown, hts, hlocks, hA, hN, hK⟩ := hC0
  intro H locs ls hP hD hS hl
  have hD0 : ∀ σ1 : ST, va_D A (wA a k σ1) := fun σ1 => wA_D hD
  replace hl : lv_has ls 2 [(0, .ref (a 62)), (1, .int p0)] := hl
  unfold f_X7_isRow at h
  refine lv_iload_n hx hb dX7_isRow_0 rfl (lv_at hl 1 rfl) ?_
  refine lv_if_lt (tgt := 24) hx hb dX7_isRow_1 (by decide) (fun hc => ?_) (fun hc => ?_)
  · replace h := ip hc h
    refine lv_iconst (v := 0) hx hb dX7_isRow_24 (by decide) ?_
    obtain rfl := Option.some.inj h
    exact W.zret hx hb hr rfl (fun t ht hW => ⟨⟨_, (), rfl, rfl, ⟨by rw [ht]; exact hP, va_K.moved hW.alike hK, hD⟩⟩, hS.F ht⟩) hS.2.2 dX7_isRow_25
  · replace h := iq hc h
    refine lv_iload_n hx hb dX7_isRow_4 rfl (lv_at hl 1 rfl) ?_
    refine lv_aload_n hx hb dX7_isRow_5 rfl (lv_at hl 0 rfl) ?_
    refine va_get (D := (dC, dI)) (ci := 7) (C := RX7) (T := TX7) (N := 13) hx hb hts inlX7 hown hK hP 62 gA_62 rfl 1 (by decide) (hts (.fieldLink RX7 9 "ShapeReader$Tree" "size" "I") mw_18_1) (fun _ h9 => h9) rfl dX7_isRow_6 ?_
    refine lv_icmp_ge (tgt := 24) hx hb dX7_isRow_9 (by decide) (fun hc => ?_) (fun hc => ?_)
    · replace h := ip hc h
      refine lv_iconst (v := 0) hx hb dX7_isRow_24 (by decide) ?_
      obtain rfl := Option.some.inj h
      exact W.zret hx hb hr rfl (fun t ht hW => ⟨⟨_, (), rfl, rfl, ⟨by rw [ht]; exact hP, va_K.moved hW.alike hK, hD⟩⟩, hS.F ht⟩) hS.2.2 dX7_isRow_25
    · replace h := iq hc h
      refine lv_iload_n hx hb dX7_isRow_12 rfl (lv_at hl 1 rfl) ?_
      refine lv_aload_n hx hb dX7_isRow_13 rfl (lv_at hl 0 rfl) ?_
      refine va_get (D := (dC, dI)) (ci := 7) (C := RX7) (T := TX7) (N := 13) hx hb hts inlX7 hown hK hP 62 gA_62 rfl 0 (by decide) (hts (.fieldLink RX7 15 "ShapeReader$Tree" "rows" "I") mw_18_2) (fun _ h9 => h9) rfl dX7_isRow_14 ?_
      refine lv_icmp_ge (tgt := 24) hx hb dX7_isRow_17 (by decide) (fun hc => ?_) (fun hc => ?_)
      · replace h := ip hc h
        refine lv_iconst (v := 0) hx hb dX7_isRow_24 (by decide) ?_
        obtain rfl := Option.some.inj h
        exact W.zret hx hb hr rfl (fun t ht hW => ⟨⟨_, (), rfl, rfl, ⟨by rw [ht]; exact hP, va_K.moved hW.alike hK, hD⟩⟩, hS.F ht⟩) hS.2.2 dX7_isRow_25
      · replace h := iq hc h
        refine lv_iconst (v := 1) hx hb dX7_isRow_20 (by decide) ?_
        refine lv_goto (tgt := 25) hx hb dX7_isRow_21 (by decide) ?_
        obtain rfl := Option.some.inj h
        exact W.zret hx hb hr rfl (fun t ht hW => ⟨⟨_, (), rfl, rfl, ⟨by rw [ht]; exact hP, va_K.moved hW.alike hK, hD⟩⟩, hS.F ht⟩) hS.2.2 dX7_isRow_25

theorem s_X7_isRow_62 {l : Launch} {dC : Nat → ClassId} {dI : Nat → Nat → Nat} {a : Nat → Nat} {k : Nat → ClassId} {sz : Nat} {p0 : Int32} {σ : ST} {q : Int32 × ST} (h : f_X7_isRow 62 p0 σ = some q) : Met l yX7_isRow (.code yX7_isRow cX7_isRow 2 (some .boolean) :: pw) ({ frames := 0, cells := 0, slots := 0, locals := 0 } : Room) (va_Pc [.ref (a 62), .int p0] (vPre dC dI (wA a k σ) (tA k) sz)) (qAi dC dI a k (va_A (wA a k σ) sz) q) 0 0 (va_A (wA a k σ) sz) := metA (fun A => qAi dC dI a k A q) (plainFor_of_name (by decide)) (Nat.le_of_ble_eq_true rfl) (fun _ _ _ _ _ _ _ _ hC => b_X7_isRow_e_62 hC h)

set_option maxRecDepth 100000 in
set_option maxHeartbeats 4000000 in
theorem b_X7_isRow_e_74 {p : Program} {l : Launch} {e : Env} {s : State} {m : MethodId} {args : Array Value} {below : List Frame} {meth : Method} {c : Code} {dC : Nat → ClassId} {dI : Nat → Nat → Nat} {a : Nat → Nat} {k : Nat → ClassId} {A : Nat → Prop} {q : Int32 × ST} (hC : CxA p s m args meth c dC dI k A cX7_isRow RX7 (some .boolean) 2)   {p0 : Int32} {σ : ST} (h : f_X7_isRow 74 p0 σ = some q) : GoA p l e ({ frames := 0, cells := 0, slots := 0, locals := 0 } : Room) s m args below meth c (MQ below (qAi dC dI a k A q) args s 0 0 A) dC dI a k A 2 0 σ (lv_args 0 [.ref (a 74), .int p0]) [] := by
  have hC0 := hC
  obtain ⟨hx, hb, hr, hml, hown, hts, hlocks, hA, hN, hK⟩ := hC0
  intro H locs ls hP hD hS hl
  have hD0 : ∀ σ1 : ST, va_D A (wA a k σ1) := fun σ1 => wA_D hD
  replace hl : lv_has ls 2 [(0, .ref (a 74)), (1, .int p0)] := hl
  unfold f_X7_isRow at h
  refine lv_iload_n hx hb dX7_isRow_0 rfl (lv_at hl 1 rfl) ?_
  refine lv_if_lt (tgt := 24) hx hb dX7_isRow_1 (by decide) (fun hc => ?_) (fun hc => ?_)
  · replace h := ip hc h
    refine lv_iconst (v := 0) hx hb dX7_isRow_24 (by decide) ?_
    obtain rfl := Option.some.inj h
    exact W.zret hx hb hr rfl (fun t ht hW => ⟨⟨_, (), rfl, rfl, ⟨by rw [ht]; exact hP, va_K.moved hW.alike hK, hD⟩⟩, hS.F ht⟩) hS.2.2 dX7_isRow_25
  · replace h := iq hc h
    refine lv_iload_n hx hb dX7_isRow_4 rfl (lv_at hl 1 rfl) ?_
    refine lv_aload_n hx hb dX7_isRow_5 rfl (lv_at hl 0 rfl) ?_
    refine va_get (D := (dC, dI)) (ci := 7) (C := RX7) (T := TX7) (N := 13) hx hb hts inlX7 hown hK hP 74 gA_74 rfl 1 (by decide) (hts (.fieldLink RX7 9 "ShapeReader$Tree" "size" "I") mw_18_1) (fun _ h9 => h9) rfl dX7_isRow_6 ?_
    refine lv_icmp_ge (tgt := 24) hx hb dX7_isRow_9 (by decide) (fun hc => ?_) (fun hc => ?_)
    · replace h := ip hc h
      refine lv_iconst (v := 0) hx hb dX7_isRow_24 (by decide) ?_
      obtain rfl := Option.some.inj h
      exact W.zret hx hb hr rfl (fun t ht hW => ⟨⟨_, (), rfl, rfl, ⟨by rw [ht]; exact hP, va_K.moved hW.alike hK, hD⟩⟩, hS.F ht⟩) hS.2.2 dX7_isRow_25
    · replace h := iq hc h
      refine lv_iload_n hx hb dX7_isRow_12 rfl (lv_at hl 1 rfl) ?_
      refine lv_aload_n hx hb dX7_isRow_13 rfl (lv_at hl 0 rfl) ?_
      refine va_get (D := (dC, dI)) (ci := 7) (C := RX7) (T := TX7) (N := 13) hx hb hts inlX7 hown hK hP 74 gA_74 rfl 0 (by decide) (hts (.fieldLink RX7 15 "ShapeReader$Tree" "rows" "I") mw_18_2) (fun _ h9 => h9) rfl dX7_isRow_14 ?_
      refine lv_icmp_ge (tgt := 24) hx hb dX7_isRow_17 (by decide) (fun hc => ?_) (fun hc => ?_)
      · replace h := ip hc h
        refine lv_iconst (v := 0) hx hb dX7_isRow_24 (by decide) ?_
        obtain rfl := Option.some.inj h
        exact W.zret hx hb hr rfl (fun t ht hW => ⟨⟨_, (), rfl, rfl, ⟨by rw [ht]; exact hP, va_K.moved hW.alike hK, hD⟩⟩, hS.F ht⟩) hS.2.2 dX7_isRow_25
      · replace h := iq hc h
        refine lv_iconst (v := 1) hx hb dX7_isRow_20 (by decide) ?_
        refine lv_goto (tgt := 25) hx hb dX7_isRow_21 (by decide) ?_
        obtain rfl := Option.some.inj h
        exact W.zret hx hb hr rfl (fun t ht hW => ⟨⟨_, (), rfl, rfl, ⟨by rw [ht]; exact hP, va_K.moved hW.alike hK, hD⟩⟩, hS.F ht⟩) hS.2.2 dX7_isRow_25

theorem s_X7_isRow_74 {l : Launch} {dC : Nat → ClassId} {dI : Nat → Nat → Nat} {a : Nat → Nat} {k : Nat → ClassId} {sz : Nat} {p0 : Int32} {σ : ST} {q : Int32 × ST} (h : f_X7_isRow 74 p0 σ = some q) : Met l yX7_isRow (.code yX7_isRow cX7_isRow 2 (some .boolean) :: pw) ({ frames := 0, cells := 0, slots := 0, locals := 0 } : Room) (va_Pc [.ref (a 74), .int p0] (vPre dC dI (wA a k σ) (tA k) sz)) (qAi dC dI a k (va_A (wA a k σ) sz) q) 0 0 (va_A (wA a k σ) sz) := metA (fun A => qAi dC dI a k A q) (plainFor_of_name (by decide)) (Nat.le_of_ble_eq_true rfl) (fun _ _ _ _ _ _ _ _ hC => b_X7_isRow_e_74 hC h)
