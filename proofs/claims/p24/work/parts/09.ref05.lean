theorem dX11_branches_0 : decode cX11_branches 0 = .ok (.iconst 1, 1) := by decide +kernel
theorem dX11_branches_1 : decode cX11_branches 1 = .ok (.istore_n 3, 1) := by decide +kernel
theorem dX11_branches_2 : decode cX11_branches 2 = .ok (.iload_n 3, 1) := by decide +kernel
theorem dX11_branches_3 : decode cX11_branches 3 = .ok (.ifCond .eq 86, 3) := by decide +kernel
theorem dX11_branches_6 : decode cX11_branches 6 = .ok (.aload_n 0, 1) := by decide +kernel
theorem dX11_branches_7 : decode cX11_branches 7 = .ok (.iload_n 2, 1) := by decide +kernel
theorem dX11_branches_8 : decode cX11_branches 8 = .ok (.iconst 1, 1) := by decide +kernel
theorem dX11_branches_9 : decode cX11_branches 9 = .ok (.iadd, 1) := by decide +kernel
theorem dX11_branches_10 : decode cX11_branches 10 = .ok (.iload_n 1, 1) := by decide +kernel
theorem dX11_branches_11 : decode cX11_branches 11 = .ok (.invokevirtual 321, 3) := by decide +kernel
theorem dX11_branches_14 : decode cX11_branches 14 = .ok (.istore 4, 2) := by decide +kernel
theorem dX11_branches_16 : decode cX11_branches 16 = .ok (.iload 4, 2) := by decide +kernel
theorem dX11_branches_18 : decode cX11_branches 18 = .ok (.ifCond .ge 5, 3) := by decide +kernel
theorem dX11_branches_21 : decode cX11_branches 21 = .ok (.iconst 0, 1) := by decide +kernel
theorem dX11_branches_22 : decode cX11_branches 22 = .ok (.ireturn, 1) := by decide +kernel
theorem dX11_branches_23 : decode cX11_branches 23 = .ok (.aload_n 0, 1) := by decide +kernel
theorem dX11_branches_24 : decode cX11_branches 24 = .ok (.getfield 23, 3) := by decide +kernel
theorem dX11_branches_27 : decode cX11_branches 27 = .ok (.iconst 4, 1) := by decide +kernel
theorem dX11_branches_28 : decode cX11_branches 28 = .ok (.iload_n 1, 1) := by decide +kernel
theorem dX11_branches_29 : decode cX11_branches 29 = .ok (.imul, 1) := by decide +kernel
theorem dX11_branches_30 : decode cX11_branches 30 = .ok (.aload_n 0, 1) := by decide +kernel
theorem dX11_branches_31 : decode cX11_branches 31 = .ok (.getfield 20, 3) := by decide +kernel
theorem dX11_branches_34 : decode cX11_branches 34 = .ok (.iload_n 1, 1) := by decide +kernel
theorem dX11_branches_35 : decode cX11_branches 35 = .ok (.iaload, 1) := by decide +kernel
theorem dX11_branches_36 : decode cX11_branches 36 = .ok (.iadd, 1) := by decide +kernel
theorem dX11_branches_37 : decode cX11_branches 37 = .ok (.iload 4, 2) := by decide +kernel
theorem dX11_branches_39 : decode cX11_branches 39 = .ok (.iastore, 1) := by decide +kernel
theorem dX11_branches_40 : decode cX11_branches 40 = .ok (.aload_n 0, 1) := by decide +kernel
theorem dX11_branches_41 : decode cX11_branches 41 = .ok (.getfield 20, 3) := by decide +kernel
theorem dX11_branches_44 : decode cX11_branches 44 = .ok (.iload_n 1, 1) := by decide +kernel
theorem dX11_branches_45 : decode cX11_branches 45 = .ok (.dup2, 1) := by decide +kernel
theorem dX11_branches_46 : decode cX11_branches 46 = .ok (.iaload, 1) := by decide +kernel
theorem dX11_branches_47 : decode cX11_branches 47 = .ok (.iconst 1, 1) := by decide +kernel
theorem dX11_branches_48 : decode cX11_branches 48 = .ok (.iadd, 1) := by decide +kernel
theorem dX11_branches_49 : decode cX11_branches 49 = .ok (.iastore, 1) := by decide +kernel
theorem dX11_branches_50 : decode cX11_branches 50 = .ok (.aload_n 0, 1) := by decide +kernel
theorem dX11_branches_51 : decode cX11_branches 51 = .ok (.getfield 20, 3) := by decide +kernel
theorem dX11_branches_54 : decode cX11_branches 54 = .ok (.iload_n 1, 1) := by decide +kernel
theorem dX11_branches_55 : decode cX11_branches 55 = .ok (.iaload, 1) := by decide +kernel
theorem dX11_branches_56 : decode cX11_branches 56 = .ok (.iconst 1, 1) := by decide +kernel
theorem dX11_branches_57 : decode cX11_branches 57 = .ok (.if_icmp .ne 16, 3) := by decide +kernel
theorem dX11_branches_60 : decode cX11_branches 60 = .ok (.aload_n 0, 1) := by decide +kernel
theorem dX11_branches_61 : decode cX11_branches 61 = .ok (.invokevirtual 303, 3) := by decide +kernel
theorem dX11_branches_64 : decode cX11_branches 64 = .ok (.ifCond .ne 9, 3) := by decide +kernel
theorem dX11_branches_67 : decode cX11_branches 67 = .ok (.aload_n 0, 1) := by decide +kernel
theorem dX11_branches_68 : decode cX11_branches 68 = .ok (.iconst 1, 1) := by decide +kernel
theorem dX11_branches_69 : decode cX11_branches 69 = .ok (.invokevirtual 272, 3) := by decide +kernel
theorem dX11_branches_72 : decode cX11_branches 72 = .ok (.ireturn, 1) := by decide +kernel
theorem dX11_branches_73 : decode cX11_branches 73 = .ok (.aload_n 0, 1) := by decide +kernel
theorem dX11_branches_74 : decode cX11_branches 74 = .ok (.invokevirtual 303, 3) := by decide +kernel
theorem dX11_branches_77 : decode cX11_branches 77 = .ok (.istore_n 3, 1) := by decide +kernel
theorem dX11_branches_78 : decode cX11_branches 78 = .ok (.iload_n 3, 1) := by decide +kernel
theorem dX11_branches_79 : decode cX11_branches 79 = .ok (.ifCond .eq 7, 3) := by decide +kernel
theorem dX11_branches_82 : decode cX11_branches 82 = .ok (.aload_n 0, 1) := by decide +kernel
theorem dX11_branches_83 : decode cX11_branches 83 = .ok (.invokevirtual 275, 3) := by decide +kernel
theorem dX11_branches_86 : decode cX11_branches 86 = .ok (.goto (-84), 3) := by decide +kernel
theorem dX11_branches_89 : decode cX11_branches 89 = .ok (.iconst 1, 1) := by decide +kernel
theorem dX11_branches_90 : decode cX11_branches 90 = .ok (.ireturn, 1) := by decide +kernel
theorem dX11_byteAt__0 : decode cX11_byteAt_ 0 = .ok (.aload_n 0, 1) := by decide +kernel
theorem dX11_byteAt__1 : decode cX11_byteAt_ 1 = .ok (.aload_n 0, 1) := by decide +kernel
theorem dX11_byteAt__2 : decode cX11_byteAt_ 2 = .ok (.iload_n 1, 1) := by decide +kernel
theorem dX11_byteAt__3 : decode cX11_byteAt_ 3 = .ok (.iload_n 2, 1) := by decide +kernel
theorem dX11_byteAt__4 : decode cX11_byteAt_ 4 = .ok (.invokevirtual 489, 3) := by decide +kernel
theorem dX11_byteAt__7 : decode cX11_byteAt_ 7 = .ok (.ifCond .eq 7, 3) := by decide +kernel
theorem dX11_byteAt__10 : decode cX11_byteAt_ 10 = .ok (.iconst 0, 1) := by decide +kernel
theorem dX11_byteAt__11 : decode cX11_byteAt_ 11 = .ok (.goto 4, 3) := by decide +kernel
theorem dX11_byteAt__14 : decode cX11_byteAt_ 14 = .ok (.iconst 1, 1) := by decide +kernel
theorem dX11_byteAt__15 : decode cX11_byteAt_ 15 = .ok (.putfield 178, 3) := by decide +kernel
theorem dX11_byteAt__18 : decode cX11_byteAt_ 18 = .ok (.aload_n 0, 1) := by decide +kernel
theorem dX11_byteAt__19 : decode cX11_byteAt_ 19 = .ok (.getfield 178, 3) := by decide +kernel
theorem dX11_byteAt__22 : decode cX11_byteAt_ 22 = .ok (.ifCond .le 7, 3) := by decide +kernel
theorem dX11_byteAt__25 : decode cX11_byteAt_ 25 = .ok (.iconst 0, 1) := by decide +kernel
theorem dX11_byteAt__26 : decode cX11_byteAt_ 26 = .ok (.goto 19, 3) := by decide +kernel
theorem dX11_byteAt__29 : decode cX11_byteAt_ 29 = .ok (.aload_n 0, 1) := by decide +kernel
theorem dX11_byteAt__30 : decode cX11_byteAt_ 30 = .ok (.getfield 112, 3) := by decide +kernel
theorem dX11_byteAt__33 : decode cX11_byteAt_ 33 = .ok (.sipush 400, 3) := by decide +kernel
theorem dX11_byteAt__36 : decode cX11_byteAt_ 36 = .ok (.iload_n 1, 1) := by decide +kernel
theorem dX11_byteAt__37 : decode cX11_byteAt_ 37 = .ok (.imul, 1) := by decide +kernel
theorem dX11_byteAt__38 : decode cX11_byteAt_ 38 = .ok (.iload_n 2, 1) := by decide +kernel
theorem dX11_byteAt__39 : decode cX11_byteAt_ 39 = .ok (.iadd, 1) := by decide +kernel
theorem dX11_byteAt__40 : decode cX11_byteAt_ 40 = .ok (.baload, 1) := by decide +kernel
theorem dX11_byteAt__41 : decode cX11_byteAt_ 41 = .ok (.sipush 255, 3) := by decide +kernel
theorem dX11_byteAt__44 : decode cX11_byteAt_ 44 = .ok (.iand, 1) := by decide +kernel
theorem dX11_byteAt__45 : decode cX11_byteAt_ 45 = .ok (.ireturn, 1) := by decide +kernel
theorem dX11_isByte_0 : decode cX11_isByte 0 = .ok (.aload_n 0, 1) := by decide +kernel
theorem dX11_isByte_1 : decode cX11_isByte 1 = .ok (.iload_n 1, 1) := by decide +kernel
theorem dX11_isByte_2 : decode cX11_isByte 2 = .ok (.invokevirtual 486, 3) := by decide +kernel
theorem dX11_isByte_5 : decode cX11_isByte 5 = .ok (.ifCond .eq 25, 3) := by decide +kernel
theorem dX11_isByte_8 : decode cX11_isByte 8 = .ok (.iload_n 2, 1) := by decide +kernel
theorem dX11_isByte_9 : decode cX11_isByte 9 = .ok (.i2l, 1) := by decide +kernel
theorem dX11_isByte_10 : decode cX11_isByte 10 = .ok (.lconst 0, 1) := by decide +kernel
theorem dX11_isByte_11 : decode cX11_isByte 11 = .ok (.aload_n 0, 1) := by decide +kernel
theorem dX11_isByte_12 : decode cX11_isByte 12 = .ok (.getfield 109, 3) := by decide +kernel
theorem dX11_isByte_15 : decode cX11_isByte 15 = .ok (.iload_n 1, 1) := by decide +kernel
theorem dX11_isByte_16 : decode cX11_isByte 16 = .ok (.iaload, 1) := by decide +kernel
theorem dX11_isByte_17 : decode cX11_isByte 17 = .ok (.iconst 1, 1) := by decide +kernel
theorem dX11_isByte_18 : decode cX11_isByte 18 = .ok (.isub, 1) := by decide +kernel
theorem dX11_isByte_19 : decode cX11_isByte 19 = .ok (.i2l, 1) := by decide +kernel
theorem dX11_isByte_20 : decode cX11_isByte 20 = .ok (.invokestatic 196, 3) := by decide +kernel
theorem dX11_isByte_23 : decode cX11_isByte 23 = .ok (.ifCond .eq 7, 3) := by decide +kernel
theorem dX11_isByte_26 : decode cX11_isByte 26 = .ok (.iconst 1, 1) := by decide +kernel
theorem dX11_isByte_27 : decode cX11_isByte 27 = .ok (.goto 4, 3) := by decide +kernel
theorem dX11_isByte_30 : decode cX11_isByte 30 = .ok (.iconst 0, 1) := by decide +kernel
theorem dX11_isByte_31 : decode cX11_isByte 31 = .ok (.ireturn, 1) := by decide +kernel
theorem dX11_tells_0 : decode cX11_tells 0 = .ok (.aload_n 0, 1) := by decide +kernel
theorem dX11_tells_1 : decode cX11_tells 1 = .ok (.getfield 392, 3) := by decide +kernel
theorem dX11_tells_4 : decode cX11_tells 4 = .ok (.istore_n 3, 1) := by decide +kernel
theorem dX11_tells_5 : decode cX11_tells 5 = .ok (.aload_n 0, 1) := by decide +kernel
theorem dX11_tells_6 : decode cX11_tells 6 = .ok (.dup, 1) := by decide +kernel
theorem dX11_tells_7 : decode cX11_tells 7 = .ok (.getfield 392, 3) := by decide +kernel
theorem dX11_tells_10 : decode cX11_tells 10 = .ok (.iconst 1, 1) := by decide +kernel
theorem dX11_tells_11 : decode cX11_tells 11 = .ok (.iadd, 1) := by decide +kernel
theorem dX11_tells_12 : decode cX11_tells 12 = .ok (.putfield 392, 3) := by decide +kernel
theorem dX11_tells_15 : decode cX11_tells 15 = .ok (.aload_n 0, 1) := by decide +kernel
theorem dX11_tells_16 : decode cX11_tells 16 = .ok (.getfield 136, 3) := by decide +kernel
theorem dX11_tells_19 : decode cX11_tells 19 = .ok (.iload_n 3, 1) := by decide +kernel
theorem dX11_tells_20 : decode cX11_tells 20 = .ok (.aload_n 0, 1) := by decide +kernel
theorem dX11_tells_21 : decode cX11_tells 21 = .ok (.getfield 70, 3) := by decide +kernel
theorem dX11_tells_24 : decode cX11_tells 24 = .ok (.iload_n 1, 1) := by decide +kernel
theorem dX11_tells_25 : decode cX11_tells 25 = .ok (.iaload, 1) := by decide +kernel
theorem dX11_tells_26 : decode cX11_tells 26 = .ok (.iastore, 1) := by decide +kernel
theorem dX11_tells_27 : decode cX11_tells 27 = .ok (.aload_n 0, 1) := by decide +kernel
theorem dX11_tells_28 : decode cX11_tells 28 = .ok (.getfield 139, 3) := by decide +kernel
theorem dX11_tells_31 : decode cX11_tells 31 = .ok (.iload_n 3, 1) := by decide +kernel
theorem dX11_tells_32 : decode cX11_tells 32 = .ok (.iload_n 2, 1) := by decide +kernel
theorem dX11_tells_33 : decode cX11_tells 33 = .ok (.iastore, 1) := by decide +kernel
theorem dX11_tells_34 : decode cX11_tells 34 = .ok (.aload_n 0, 1) := by decide +kernel
theorem dX11_tells_35 : decode cX11_tells 35 = .ok (.getfield 142, 3) := by decide +kernel
theorem dX11_tells_38 : decode cX11_tells 38 = .ok (.iload_n 3, 1) := by decide +kernel
theorem dX11_tells_39 : decode cX11_tells 39 = .ok (.iload_n 2, 1) := by decide +kernel
theorem dX11_tells_40 : decode cX11_tells 40 = .ok (.ifCond .ge 7, 3) := by decide +kernel
theorem dX11_tells_43 : decode cX11_tells 43 = .ok (.iconst 0, 1) := by decide +kernel
theorem dX11_tells_44 : decode cX11_tells 44 = .ok (.goto 9, 3) := by decide +kernel
theorem dX11_tells_47 : decode cX11_tells 47 = .ok (.aload_n 0, 1) := by decide +kernel
theorem dX11_tells_48 : decode cX11_tells 48 = .ok (.getfield 85, 3) := by decide +kernel
theorem dX11_tells_51 : decode cX11_tells 51 = .ok (.iload_n 1, 1) := by decide +kernel
theorem dX11_tells_52 : decode cX11_tells 52 = .ok (.iaload, 1) := by decide +kernel
theorem dX11_tells_53 : decode cX11_tells 53 = .ok (.iastore, 1) := by decide +kernel
theorem dX11_tells_54 : decode cX11_tells 54 = .ok (.aload_n 0, 1) := by decide +kernel
theorem dX11_tells_55 : decode cX11_tells 55 = .ok (.getfield 145, 3) := by decide +kernel
theorem dX11_tells_58 : decode cX11_tells 58 = .ok (.iload_n 3, 1) := by decide +kernel
theorem dX11_tells_59 : decode cX11_tells 59 = .ok (.aload_n 0, 1) := by decide +kernel
theorem dX11_tells_60 : decode cX11_tells 60 = .ok (.getfield 79, 3) := by decide +kernel
theorem dX11_tells_63 : decode cX11_tells 63 = .ok (.iload_n 1, 1) := by decide +kernel
theorem dX11_tells_64 : decode cX11_tells 64 = .ok (.iaload, 1) := by decide +kernel
theorem dX11_tells_65 : decode cX11_tells 65 = .ok (.iastore, 1) := by decide +kernel
theorem dX11_tells_66 : decode cX11_tells 66 = .ok (.aload_n 0, 1) := by decide +kernel
theorem dX11_tells_67 : decode cX11_tells 67 = .ok (.getfield 148, 3) := by decide +kernel
theorem dX11_tells_70 : decode cX11_tells 70 = .ok (.iload_n 3, 1) := by decide +kernel
theorem dX11_tells_71 : decode cX11_tells 71 = .ok (.aload_n 0, 1) := by decide +kernel
theorem dX11_tells_72 : decode cX11_tells 72 = .ok (.getfield 91, 3) := by decide +kernel
theorem dX11_tells_75 : decode cX11_tells 75 = .ok (.iload_n 1, 1) := by decide +kernel
theorem dX11_tells_76 : decode cX11_tells 76 = .ok (.baload, 1) := by decide +kernel
theorem dX11_tells_77 : decode cX11_tells 77 = .ok (.bastore, 1) := by decide +kernel
theorem dX11_tells_78 : decode cX11_tells 78 = .ok (.aload_n 0, 1) := by decide +kernel
theorem dX11_tells_79 : decode cX11_tells 79 = .ok (.getfield 151, 3) := by decide +kernel
theorem dX11_tells_82 : decode cX11_tells 82 = .ok (.iload_n 3, 1) := by decide +kernel
theorem dX11_tells_83 : decode cX11_tells 83 = .ok (.aload_n 0, 1) := by decide +kernel
theorem dX11_tells_84 : decode cX11_tells 84 = .ok (.getfield 73, 3) := by decide +kernel
theorem dX11_tells_87 : decode cX11_tells 87 = .ok (.iload_n 1, 1) := by decide +kernel
theorem dX11_tells_88 : decode cX11_tells 88 = .ok (.laload, 1) := by decide +kernel
theorem dX11_tells_89 : decode cX11_tells 89 = .ok (.lastore, 1) := by decide +kernel
theorem dX11_tells_90 : decode cX11_tells 90 = .ok (.aload_n 0, 1) := by decide +kernel
theorem dX11_tells_91 : decode cX11_tells 91 = .ok (.getfield 154, 3) := by decide +kernel
theorem dX11_tells_94 : decode cX11_tells 94 = .ok (.iload_n 3, 1) := by decide +kernel
theorem dX11_tells_95 : decode cX11_tells 95 = .ok (.aload_n 0, 1) := by decide +kernel
theorem dX11_tells_96 : decode cX11_tells 96 = .ok (.getfield 76, 3) := by decide +kernel
theorem dX11_tells_99 : decode cX11_tells 99 = .ok (.iload_n 1, 1) := by decide +kernel
theorem dX11_tells_100 : decode cX11_tells 100 = .ok (.laload, 1) := by decide +kernel
theorem dX11_tells_101 : decode cX11_tells 101 = .ok (.lastore, 1) := by decide +kernel
theorem dX11_tells_102 : decode cX11_tells 102 = .ok (.aload_n 0, 1) := by decide +kernel
theorem dX11_tells_103 : decode cX11_tells 103 = .ok (.getfield 94, 3) := by decide +kernel
theorem dX11_tells_106 : decode cX11_tells 106 = .ok (.iload_n 1, 1) := by decide +kernel
theorem dX11_tells_107 : decode cX11_tells 107 = .ok (.iaload, 1) := by decide +kernel
theorem dX11_tells_108 : decode cX11_tells 108 = .ok (.istore 4, 2) := by decide +kernel
theorem dX11_tells_110 : decode cX11_tells 110 = .ok (.iload 4, 2) := by decide +kernel
theorem dX11_tells_112 : decode cX11_tells 112 = .ok (.ifCond .lt 22, 3) := by decide +kernel
theorem dX11_tells_115 : decode cX11_tells 115 = .ok (.aload_n 0, 1) := by decide +kernel
theorem dX11_tells_116 : decode cX11_tells 116 = .ok (.iload 4, 2) := by decide +kernel
theorem dX11_tells_118 : decode cX11_tells 118 = .ok (.iload_n 3, 1) := by decide +kernel
theorem dX11_tells_119 : decode cX11_tells 119 = .ok (.invokevirtual 609, 3) := by decide +kernel
theorem dX11_tells_122 : decode cX11_tells 122 = .ok (.aload_n 0, 1) := by decide +kernel
theorem dX11_tells_123 : decode cX11_tells 123 = .ok (.getfield 100, 3) := by decide +kernel
theorem dX11_tells_126 : decode cX11_tells 126 = .ok (.iload 4, 2) := by decide +kernel
theorem dX11_tells_128 : decode cX11_tells 128 = .ok (.iaload, 1) := by decide +kernel
theorem dX11_tells_129 : decode cX11_tells 129 = .ok (.istore 4, 2) := by decide +kernel
theorem dX11_tells_131 : decode cX11_tells 131 = .ok (.goto (-21), 3) := by decide +kernel
theorem dX11_tells_134 : decode cX11_tells 134 = .ok (.return_, 1) := by decide +kernel
theorem dX11_type_0 : decode cX11_type 0 = .ok (.aload_n 0, 1) := by decide +kernel
theorem dX11_type_1 : decode cX11_type 1 = .ok (.invokevirtual 312, 3) := by decide +kernel
theorem dX11_type_4 : decode cX11_type 4 = .ok (.ifCond .eq 8, 3) := by decide +kernel
theorem dX11_type_7 : decode cX11_type 7 = .ok (.bipush 7, 2) := by decide +kernel
theorem dX11_type_9 : decode cX11_type 9 = .ok (.goto 7, 3) := by decide +kernel
theorem dX11_type_12 : decode cX11_type 12 = .ok (.aload_n 0, 1) := by decide +kernel
theorem dX11_type_13 : decode cX11_type 13 = .ok (.invokevirtual 286, 3) := by decide +kernel
theorem dX11_type_16 : decode cX11_type 16 = .ok (.istore_n 3, 1) := by decide +kernel
theorem dX11_type_17 : decode cX11_type 17 = .ok (.iload_n 3, 1) := by decide +kernel
theorem dX11_type_18 : decode cX11_type 18 = .ok (.ifCond .ge 7, 3) := by decide +kernel
theorem dX11_type_21 : decode cX11_type 21 = .ok (.iconst 1, 1) := by decide +kernel
theorem dX11_type_22 : decode cX11_type 22 = .ok (.goto 27, 3) := by decide +kernel
theorem dX11_type_25 : decode cX11_type 25 = .ok (.iload_n 1, 1) := by decide +kernel
theorem dX11_type_26 : decode cX11_type 26 = .ok (.iconst 4, 1) := by decide +kernel
theorem dX11_type_27 : decode cX11_type 27 = .ok (.if_icmp .ge 17, 3) := by decide +kernel
theorem dX11_type_30 : decode cX11_type 30 = .ok (.iload_n 2, 1) := by decide +kernel
theorem dX11_type_31 : decode cX11_type 31 = .ok (.ifCond .lt 17, 3) := by decide +kernel
theorem dX11_type_34 : decode cX11_type 34 = .ok (.aload_n 0, 1) := by decide +kernel
theorem dX11_type_35 : decode cX11_type 35 = .ok (.getfield 20, 3) := by decide +kernel
theorem dX11_type_38 : decode cX11_type 38 = .ok (.iload_n 2, 1) := by decide +kernel
theorem dX11_type_39 : decode cX11_type 39 = .ok (.iaload, 1) := by decide +kernel
theorem dX11_type_40 : decode cX11_type 40 = .ok (.iconst 4, 1) := by decide +kernel
theorem dX11_type_41 : decode cX11_type 41 = .ok (.if_icmp .ne 7, 3) := by decide +kernel
theorem dX11_type_44 : decode cX11_type 44 = .ok (.iconst 4, 1) := by decide +kernel
theorem dX11_type_45 : decode cX11_type 45 = .ok (.goto 4, 3) := by decide +kernel
theorem dX11_type_48 : decode cX11_type 48 = .ok (.iconst 0, 1) := by decide +kernel
theorem dX11_type_49 : decode cX11_type 49 = .ok (.istore 4, 2) := by decide +kernel
theorem dX11_type_51 : decode cX11_type 51 = .ok (.iload 4, 2) := by decide +kernel
theorem dX11_type_53 : decode cX11_type 53 = .ok (.ifCond .ne 25, 3) := by decide +kernel
theorem dX11_type_56 : decode cX11_type 56 = .ok (.iload_n 2, 1) := by decide +kernel
theorem dX11_type_57 : decode cX11_type 57 = .ok (.ifCond .lt 21, 3) := by decide +kernel
theorem dX11_type_60 : decode cX11_type 60 = .ok (.iload_n 3, 1) := by decide +kernel
theorem dX11_type_61 : decode cX11_type 61 = .ok (.bipush 8, 2) := by decide +kernel
theorem dX11_type_63 : decode cX11_type 63 = .ok (.if_icmp .eq 12, 3) := by decide +kernel
theorem dX11_type_66 : decode cX11_type 66 = .ok (.aload_n 0, 1) := by decide +kernel
theorem dX11_type_67 : decode cX11_type 67 = .ok (.iload_n 2, 1) := by decide +kernel
theorem dX11_type_68 : decode cX11_type 68 = .ok (.iload_n 3, 1) := by decide +kernel
theorem dX11_type_69 : decode cX11_type 69 = .ok (.invokevirtual 315, 3) := by decide +kernel
theorem dX11_type_72 : decode cX11_type 72 = .ok (.ifCond .eq 6, 3) := by decide +kernel
theorem dX11_type_75 : decode cX11_type 75 = .ok (.iconst 5, 1) := by decide +kernel
theorem dX11_type_76 : decode cX11_type 76 = .ok (.istore 4, 2) := by decide +kernel
theorem dX11_type_78 : decode cX11_type 78 = .ok (.iload 4, 2) := by decide +kernel
theorem dX11_type_80 : decode cX11_type 80 = .ok (.ifCond .le 13, 3) := by decide +kernel
theorem dX11_type_83 : decode cX11_type 83 = .ok (.aload_n 0, 1) := by decide +kernel
theorem dX11_type_84 : decode cX11_type 84 = .ok (.iload 4, 2) := by decide +kernel
theorem dX11_type_86 : decode cX11_type 86 = .ok (.invokevirtual 272, 3) := by decide +kernel
theorem dX11_type_89 : decode cX11_type 89 = .ok (.istore 5, 2) := by decide +kernel
theorem dX11_type_91 : decode cX11_type 91 = .ok (.iconst (-1), 1) := by decide +kernel
theorem dX11_type_92 : decode cX11_type 92 = .ok (.ireturn, 1) := by decide +kernel
theorem dX11_type_93 : decode cX11_type 93 = .ok (.aload_n 0, 1) := by decide +kernel
theorem dX11_type_94 : decode cX11_type 94 = .ok (.getfield 318, 3) := by decide +kernel
theorem dX11_type_97 : decode cX11_type 97 = .ok (.istore 5, 2) := by decide +kernel
theorem dX11_type_99 : decode cX11_type 99 = .ok (.aload_n 0, 1) := by decide +kernel
theorem dX11_type_100 : decode cX11_type 100 = .ok (.dup, 1) := by decide +kernel
theorem dX11_type_101 : decode cX11_type 101 = .ok (.getfield 318, 3) := by decide +kernel
theorem dX11_type_104 : decode cX11_type 104 = .ok (.iconst 1, 1) := by decide +kernel
theorem dX11_type_105 : decode cX11_type 105 = .ok (.iadd, 1) := by decide +kernel
theorem dX11_type_106 : decode cX11_type 106 = .ok (.putfield 318, 3) := by decide +kernel
theorem dX11_type_109 : decode cX11_type 109 = .ok (.aload_n 0, 1) := by decide +kernel
theorem dX11_type_110 : decode cX11_type 110 = .ok (.getfield 13, 3) := by decide +kernel
theorem dX11_type_113 : decode cX11_type 113 = .ok (.iload 5, 2) := by decide +kernel
theorem dX11_type_115 : decode cX11_type 115 = .ok (.iload_n 3, 1) := by decide +kernel
theorem dX11_type_116 : decode cX11_type 116 = .ok (.iastore, 1) := by decide +kernel
theorem dX11_type_117 : decode cX11_type 117 = .ok (.aload_n 0, 1) := by decide +kernel
theorem dX11_type_118 : decode cX11_type 118 = .ok (.getfield 20, 3) := by decide +kernel
theorem dX11_type_121 : decode cX11_type 121 = .ok (.iload 5, 2) := by decide +kernel
theorem dX11_type_123 : decode cX11_type 123 = .ok (.iconst 0, 1) := by decide +kernel
theorem dX11_type_124 : decode cX11_type 124 = .ok (.iastore, 1) := by decide +kernel
theorem dX11_type_125 : decode cX11_type 125 = .ok (.aload_n 0, 1) := by decide +kernel
theorem dX11_type_126 : decode cX11_type 126 = .ok (.getfield 26, 3) := by decide +kernel
theorem dX11_type_129 : decode cX11_type 129 = .ok (.iload 5, 2) := by decide +kernel
theorem dX11_type_131 : decode cX11_type 131 = .ok (.aload_n 0, 1) := by decide +kernel
theorem dX11_type_132 : decode cX11_type 132 = .ok (.getfield 204, 3) := by decide +kernel
theorem dX11_type_135 : decode cX11_type 135 = .ok (.lastore, 1) := by decide +kernel
theorem dX11_type_136 : decode cX11_type 136 = .ok (.aload_n 0, 1) := by decide +kernel
theorem dX11_type_137 : decode cX11_type 137 = .ok (.getfield 30, 3) := by decide +kernel
theorem dX11_type_140 : decode cX11_type 140 = .ok (.iload 5, 2) := by decide +kernel
theorem dX11_type_142 : decode cX11_type 142 = .ok (.aload_n 0, 1) := by decide +kernel
theorem dX11_type_143 : decode cX11_type 143 = .ok (.getfield 250, 3) := by decide +kernel
theorem dX11_type_146 : decode cX11_type 146 = .ok (.iastore, 1) := by decide +kernel
theorem dX11_type_147 : decode cX11_type 147 = .ok (.aload_n 0, 1) := by decide +kernel
theorem dX11_type_148 : decode cX11_type 148 = .ok (.getfield 17, 3) := by decide +kernel
theorem dX11_type_151 : decode cX11_type 151 = .ok (.iload 5, 2) := by decide +kernel
theorem dX11_type_153 : decode cX11_type 153 = .ok (.iconst (-1), 1) := by decide +kernel
theorem dX11_type_154 : decode cX11_type 154 = .ok (.iastore, 1) := by decide +kernel
theorem dX11_type_155 : decode cX11_type 155 = .ok (.aload_n 0, 1) := by decide +kernel
theorem dX11_type_156 : decode cX11_type 156 = .ok (.invokevirtual 275, 3) := by decide +kernel
theorem dX11_type_159 : decode cX11_type 159 = .ok (.iload_n 3, 1) := by decide +kernel
theorem dX11_type_160 : decode cX11_type 160 = .ok (.bipush 6, 2) := by decide +kernel
theorem dX11_type_162 : decode cX11_type 162 = .ok (.if_icmp .ne 35, 3) := by decide +kernel
theorem dX11_type_165 : decode cX11_type 165 = .ok (.aload_n 0, 1) := by decide +kernel
theorem dX11_type_166 : decode cX11_type 166 = .ok (.getfield 17, 3) := by decide +kernel
theorem dX11_type_169 : decode cX11_type 169 = .ok (.iload 5, 2) := by decide +kernel
theorem dX11_type_171 : decode cX11_type 171 = .ok (.aload_n 0, 1) := by decide +kernel
theorem dX11_type_172 : decode cX11_type 172 = .ok (.iload_n 1, 1) := by decide +kernel
theorem dX11_type_173 : decode cX11_type 173 = .ok (.iconst 1, 1) := by decide +kernel
theorem dX11_type_174 : decode cX11_type 174 = .ok (.iadd, 1) := by decide +kernel
theorem dX11_type_175 : decode cX11_type 175 = .ok (.iconst (-1), 1) := by decide +kernel
theorem dX11_type_176 : decode cX11_type 176 = .ok (.invokevirtual 321, 3) := by decide +kernel
theorem dX11_type_179 : decode cX11_type 179 = .ok (.iastore, 1) := by decide +kernel
theorem dX11_type_180 : decode cX11_type 180 = .ok (.aload_n 0, 1) := by decide +kernel
theorem dX11_type_181 : decode cX11_type 181 = .ok (.getfield 17, 3) := by decide +kernel
theorem dX11_type_184 : decode cX11_type 184 = .ok (.iload 5, 2) := by decide +kernel
theorem dX11_type_186 : decode cX11_type 186 = .ok (.iaload, 1) := by decide +kernel
theorem dX11_type_187 : decode cX11_type 187 = .ok (.ifCond .ge 7, 3) := by decide +kernel
theorem dX11_type_190 : decode cX11_type 190 = .ok (.iconst (-1), 1) := by decide +kernel
theorem dX11_type_191 : decode cX11_type 191 = .ok (.goto 5, 3) := by decide +kernel
theorem dX11_type_194 : decode cX11_type 194 = .ok (.iload 5, 2) := by decide +kernel
theorem dX11_type_196 : decode cX11_type 196 = .ok (.ireturn, 1) := by decide +kernel
theorem dX11_type_197 : decode cX11_type 197 = .ok (.iload_n 3, 1) := by decide +kernel
theorem dX11_type_198 : decode cX11_type 198 = .ok (.bipush 8, 2) := by decide +kernel
theorem dX11_type_200 : decode cX11_type 200 = .ok (.if_icmp .ne 13, 3) := by decide +kernel
theorem dX11_type_203 : decode cX11_type 203 = .ok (.aload_n 0, 1) := by decide +kernel
theorem dX11_type_204 : decode cX11_type 204 = .ok (.iload 5, 2) := by decide +kernel
theorem dX11_type_206 : decode cX11_type 206 = .ok (.iload_n 1, 1) := by decide +kernel
theorem dX11_type_207 : decode cX11_type 207 = .ok (.invokevirtual 325, 3) := by decide +kernel
theorem dX11_type_210 : decode cX11_type 210 = .ok (.ifCond .eq 8, 3) := by decide +kernel
theorem dX11_type_213 : decode cX11_type 213 = .ok (.iload 5, 2) := by decide +kernel
theorem dX11_type_215 : decode cX11_type 215 = .ok (.goto 4, 3) := by decide +kernel
theorem dX11_type_218 : decode cX11_type 218 = .ok (.iconst (-1), 1) := by decide +kernel
theorem dX11_type_219 : decode cX11_type 219 = .ok (.ireturn, 1) := by decide +kernel
theorem dX11_uses_0 : decode cX11_uses 0 = .ok (.iconst (-1), 1) := by decide +kernel
theorem dX11_uses_1 : decode cX11_uses 1 = .ok (.istore_n 2, 1) := by decide +kernel
theorem dX11_uses_2 : decode cX11_uses 2 = .ok (.iconst 0, 1) := by decide +kernel
theorem dX11_uses_3 : decode cX11_uses 3 = .ok (.istore_n 3, 1) := by decide +kernel
theorem dX11_uses_4 : decode cX11_uses 4 = .ok (.iload_n 3, 1) := by decide +kernel
theorem dX11_uses_5 : decode cX11_uses 5 = .ok (.aload_n 0, 1) := by decide +kernel
theorem dX11_uses_6 : decode cX11_uses 6 = .ok (.getfield 398, 3) := by decide +kernel
theorem dX11_uses_9 : decode cX11_uses 9 = .ok (.if_icmp .ge 25, 3) := by decide +kernel
theorem dX11_uses_12 : decode cX11_uses 12 = .ok (.aload_n 0, 1) := by decide +kernel
theorem dX11_uses_13 : decode cX11_uses 13 = .ok (.getfield 175, 3) := by decide +kernel
theorem dX11_uses_16 : decode cX11_uses 16 = .ok (.iload_n 3, 1) := by decide +kernel
theorem dX11_uses_17 : decode cX11_uses 17 = .ok (.iaload, 1) := by decide +kernel
theorem dX11_uses_18 : decode cX11_uses 18 = .ok (.iload_n 1, 1) := by decide +kernel
theorem dX11_uses_19 : decode cX11_uses 19 = .ok (.if_icmp .ne 7, 3) := by decide +kernel
theorem dX11_uses_22 : decode cX11_uses 22 = .ok (.iload_n 3, 1) := by decide +kernel
theorem dX11_uses_23 : decode cX11_uses 23 = .ok (.goto 4, 3) := by decide +kernel
theorem dX11_uses_26 : decode cX11_uses 26 = .ok (.iload_n 2, 1) := by decide +kernel
theorem dX11_uses_27 : decode cX11_uses 27 = .ok (.istore_n 2, 1) := by decide +kernel
theorem dX11_uses_28 : decode cX11_uses 28 = .ok (.iinc 3 1, 3) := by decide +kernel
theorem dX11_uses_31 : decode cX11_uses 31 = .ok (.goto (-27), 3) := by decide +kernel
theorem dX11_uses_34 : decode cX11_uses 34 = .ok (.aload_n 0, 1) := by decide +kernel
theorem dX11_uses_35 : decode cX11_uses 35 = .ok (.dup, 1) := by decide +kernel
theorem dX11_uses_36 : decode cX11_uses 36 = .ok (.getfield 401, 3) := by decide +kernel
theorem dX11_uses_39 : decode cX11_uses 39 = .ok (.iload_n 2, 1) := by decide +kernel
theorem dX11_uses_40 : decode cX11_uses 40 = .ok (.ifCond .lt 7, 3) := by decide +kernel
theorem dX11_uses_43 : decode cX11_uses 43 = .ok (.iconst 1, 1) := by decide +kernel
theorem dX11_uses_44 : decode cX11_uses 44 = .ok (.goto 4, 3) := by decide +kernel
theorem dX11_uses_47 : decode cX11_uses 47 = .ok (.iconst 0, 1) := by decide +kernel
theorem dX11_uses_48 : decode cX11_uses 48 = .ok (.iadd, 1) := by decide +kernel
theorem dX11_uses_49 : decode cX11_uses 49 = .ok (.putfield 401, 3) := by decide +kernel
theorem dX11_uses_52 : decode cX11_uses 52 = .ok (.aload_n 0, 1) := by decide +kernel
theorem dX11_uses_53 : decode cX11_uses 53 = .ok (.dup, 1) := by decide +kernel
theorem dX11_uses_54 : decode cX11_uses 54 = .ok (.getfield 404, 3) := by decide +kernel
theorem dX11_uses_57 : decode cX11_uses 57 = .ok (.iload_n 2, 1) := by decide +kernel
theorem dX11_uses_58 : decode cX11_uses 58 = .ok (.ifCond .ge 7, 3) := by decide +kernel
theorem dX11_uses_61 : decode cX11_uses 61 = .ok (.iconst 1, 1) := by decide +kernel
theorem dX11_uses_62 : decode cX11_uses 62 = .ok (.goto 4, 3) := by decide +kernel
theorem dX11_uses_65 : decode cX11_uses 65 = .ok (.iconst 0, 1) := by decide +kernel
theorem dX11_uses_66 : decode cX11_uses 66 = .ok (.iadd, 1) := by decide +kernel
theorem dX11_uses_67 : decode cX11_uses 67 = .ok (.putfield 404, 3) := by decide +kernel
theorem dX11_uses_70 : decode cX11_uses 70 = .ok (.iload_n 2, 1) := by decide +kernel
theorem dX11_uses_71 : decode cX11_uses 71 = .ok (.ifCond .ge 32, 3) := by decide +kernel
theorem dX11_uses_74 : decode cX11_uses 74 = .ok (.aload_n 0, 1) := by decide +kernel
theorem dX11_uses_75 : decode cX11_uses 75 = .ok (.aload_n 0, 1) := by decide +kernel
theorem dX11_uses_76 : decode cX11_uses 76 = .ok (.getfield 398, 3) := by decide +kernel
theorem dX11_uses_79 : decode cX11_uses 79 = .ok (.iconst 4, 1) := by decide +kernel
theorem dX11_uses_80 : decode cX11_uses 80 = .ok (.if_icmp .ge 12, 3) := by decide +kernel
theorem dX11_uses_83 : decode cX11_uses 83 = .ok (.aload_n 0, 1) := by decide +kernel
theorem dX11_uses_84 : decode cX11_uses 84 = .ok (.getfield 398, 3) := by decide +kernel
theorem dX11_uses_87 : decode cX11_uses 87 = .ok (.iconst 1, 1) := by decide +kernel
theorem dX11_uses_88 : decode cX11_uses 88 = .ok (.iadd, 1) := by decide +kernel
theorem dX11_uses_89 : decode cX11_uses 89 = .ok (.goto 4, 3) := by decide +kernel
theorem dX11_uses_92 : decode cX11_uses 92 = .ok (.iconst 4, 1) := by decide +kernel
theorem dX11_uses_93 : decode cX11_uses 93 = .ok (.putfield 398, 3) := by decide +kernel
theorem dX11_uses_96 : decode cX11_uses 96 = .ok (.aload_n 0, 1) := by decide +kernel
theorem dX11_uses_97 : decode cX11_uses 97 = .ok (.getfield 398, 3) := by decide +kernel
theorem dX11_uses_100 : decode cX11_uses 100 = .ok (.iconst 1, 1) := by decide +kernel
theorem dX11_uses_101 : decode cX11_uses 101 = .ok (.isub, 1) := by decide +kernel
theorem dX11_uses_102 : decode cX11_uses 102 = .ok (.istore_n 2, 1) := by decide +kernel
theorem dX11_uses_103 : decode cX11_uses 103 = .ok (.iload_n 2, 1) := by decide +kernel
theorem dX11_uses_104 : decode cX11_uses 104 = .ok (.istore_n 3, 1) := by decide +kernel
theorem dX11_uses_105 : decode cX11_uses 105 = .ok (.iload_n 3, 1) := by decide +kernel
theorem dX11_uses_106 : decode cX11_uses 106 = .ok (.ifCond .le 23, 3) := by decide +kernel
theorem dX11_uses_109 : decode cX11_uses 109 = .ok (.aload_n 0, 1) := by decide +kernel
theorem dX11_uses_110 : decode cX11_uses 110 = .ok (.getfield 175, 3) := by decide +kernel
theorem dX11_uses_113 : decode cX11_uses 113 = .ok (.iload_n 3, 1) := by decide +kernel
theorem dX11_uses_114 : decode cX11_uses 114 = .ok (.aload_n 0, 1) := by decide +kernel
theorem dX11_uses_115 : decode cX11_uses 115 = .ok (.getfield 175, 3) := by decide +kernel
theorem dX11_uses_118 : decode cX11_uses 118 = .ok (.iload_n 3, 1) := by decide +kernel
theorem dX11_uses_119 : decode cX11_uses 119 = .ok (.iconst 1, 1) := by decide +kernel
theorem dX11_uses_120 : decode cX11_uses 120 = .ok (.isub, 1) := by decide +kernel
theorem dX11_uses_121 : decode cX11_uses 121 = .ok (.iaload, 1) := by decide +kernel
theorem dX11_uses_122 : decode cX11_uses 122 = .ok (.iastore, 1) := by decide +kernel
theorem dX11_uses_123 : decode cX11_uses 123 = .ok (.iinc 3 (-1), 3) := by decide +kernel
theorem dX11_uses_126 : decode cX11_uses 126 = .ok (.goto (-21), 3) := by decide +kernel
theorem dX11_uses_129 : decode cX11_uses 129 = .ok (.aload_n 0, 1) := by decide +kernel
theorem dX11_uses_130 : decode cX11_uses 130 = .ok (.getfield 175, 3) := by decide +kernel
theorem dX11_uses_133 : decode cX11_uses 133 = .ok (.iconst 0, 1) := by decide +kernel
theorem dX11_uses_134 : decode cX11_uses 134 = .ok (.iload_n 1, 1) := by decide +kernel
theorem dX11_uses_135 : decode cX11_uses 135 = .ok (.iastore, 1) := by decide +kernel
theorem dX11_uses_136 : decode cX11_uses 136 = .ok (.return_, 1) := by decide +kernel
theorem dX11_writesByte_0 : decode cX11_writesByte 0 = .ok (.aload_n 0, 1) := by decide +kernel
theorem dX11_writesByte_1 : decode cX11_writesByte 1 = .ok (.getfield 448, 3) := by decide +kernel
theorem dX11_writesByte_4 : decode cX11_writesByte 4 = .ok (.sipush 400, 3) := by decide +kernel
theorem dX11_writesByte_7 : decode cX11_writesByte 7 = .ok (.if_icmp .ne 11, 3) := by decide +kernel
theorem dX11_writesByte_10 : decode cX11_writesByte 10 = .ok (.aload_n 0, 1) := by decide +kernel
theorem dX11_writesByte_11 : decode cX11_writesByte 11 = .ok (.iconst 1, 1) := by decide +kernel
theorem dX11_writesByte_12 : decode cX11_writesByte 12 = .ok (.putfield 451, 3) := by decide +kernel
theorem dX11_writesByte_15 : decode cX11_writesByte 15 = .ok (.goto 25, 3) := by decide +kernel
theorem dX11_writesByte_18 : decode cX11_writesByte 18 = .ok (.aload_n 0, 1) := by decide +kernel
theorem dX11_writesByte_19 : decode cX11_writesByte 19 = .ok (.getfield 103, 3) := by decide +kernel
theorem dX11_writesByte_22 : decode cX11_writesByte 22 = .ok (.aload_n 0, 1) := by decide +kernel
theorem dX11_writesByte_23 : decode cX11_writesByte 23 = .ok (.getfield 448, 3) := by decide +kernel
theorem dX11_writesByte_26 : decode cX11_writesByte 26 = .ok (.lload_n 1, 1) := by decide +kernel
theorem dX11_writesByte_27 : decode cX11_writesByte 27 = .ok (.l2i, 1) := by decide +kernel
theorem dX11_writesByte_28 : decode cX11_writesByte 28 = .ok (.i2b, 1) := by decide +kernel
theorem dX11_writesByte_29 : decode cX11_writesByte 29 = .ok (.bastore, 1) := by decide +kernel
theorem dX11_writesByte_30 : decode cX11_writesByte 30 = .ok (.aload_n 0, 1) := by decide +kernel
theorem dX11_writesByte_31 : decode cX11_writesByte 31 = .ok (.dup, 1) := by decide +kernel
theorem dX11_writesByte_32 : decode cX11_writesByte 32 = .ok (.getfield 448, 3) := by decide +kernel
theorem dX11_writesByte_35 : decode cX11_writesByte 35 = .ok (.iconst 1, 1) := by decide +kernel
theorem dX11_writesByte_36 : decode cX11_writesByte 36 = .ok (.iadd, 1) := by decide +kernel
theorem dX11_writesByte_37 : decode cX11_writesByte 37 = .ok (.putfield 448, 3) := by decide +kernel
theorem dX11_writesByte_40 : decode cX11_writesByte 40 = .ok (.return_, 1) := by decide +kernel
theorem dX11_writesNumber_0 : decode cX11_writesNumber 0 = .ok (.lload_n 1, 1) := by decide +kernel
theorem dX11_writesNumber_1 : decode cX11_writesNumber 1 = .ok (.iconst 1, 1) := by decide +kernel
theorem dX11_writesNumber_2 : decode cX11_writesNumber 2 = .ok (.lshl, 1) := by decide +kernel
theorem dX11_writesNumber_3 : decode cX11_writesNumber 3 = .ok (.lload_n 1, 1) := by decide +kernel
theorem dX11_writesNumber_4 : decode cX11_writesNumber 4 = .ok (.bipush 63, 2) := by decide +kernel
theorem dX11_writesNumber_6 : decode cX11_writesNumber 6 = .ok (.lshr, 1) := by decide +kernel
theorem dX11_writesNumber_7 : decode cX11_writesNumber 7 = .ok (.lxor, 1) := by decide +kernel
theorem dX11_writesNumber_8 : decode cX11_writesNumber 8 = .ok (.lstore_n 3, 1) := by decide +kernel
theorem dX11_writesNumber_9 : decode cX11_writesNumber 9 = .ok (.lload_n 3, 1) := by decide +kernel
theorem dX11_writesNumber_10 : decode cX11_writesNumber 10 = .ok (.ldc2_w 454, 3) := by decide +kernel
theorem dX11_writesNumber_13 : decode cX11_writesNumber 13 = .ok (.land, 1) := by decide +kernel
theorem dX11_writesNumber_14 : decode cX11_writesNumber 14 = .ok (.lconst 0, 1) := by decide +kernel
theorem dX11_writesNumber_15 : decode cX11_writesNumber 15 = .ok (.lcmp, 1) := by decide +kernel
theorem dX11_writesNumber_16 : decode cX11_writesNumber 16 = .ok (.ifCond .eq 24, 3) := by decide +kernel
theorem dX11_writesNumber_19 : decode cX11_writesNumber 19 = .ok (.aload_n 0, 1) := by decide +kernel
theorem dX11_writesNumber_20 : decode cX11_writesNumber 20 = .ok (.lload_n 3, 1) := by decide +kernel
theorem dX11_writesNumber_21 : decode cX11_writesNumber 21 = .ok (.ldc2_w 456, 3) := by decide +kernel
theorem dX11_writesNumber_24 : decode cX11_writesNumber 24 = .ok (.land, 1) := by decide +kernel
theorem dX11_writesNumber_25 : decode cX11_writesNumber 25 = .ok (.ldc2_w 458, 3) := by decide +kernel
theorem dX11_writesNumber_28 : decode cX11_writesNumber 28 = .ok (.lor, 1) := by decide +kernel
theorem dX11_writesNumber_29 : decode cX11_writesNumber 29 = .ok (.invokevirtual 460, 3) := by decide +kernel
theorem dX11_writesNumber_32 : decode cX11_writesNumber 32 = .ok (.lload_n 3, 1) := by decide +kernel
theorem dX11_writesNumber_33 : decode cX11_writesNumber 33 = .ok (.bipush 7, 2) := by decide +kernel
theorem dX11_writesNumber_35 : decode cX11_writesNumber 35 = .ok (.lushr, 1) := by decide +kernel
theorem dX11_writesNumber_36 : decode cX11_writesNumber 36 = .ok (.lstore_n 3, 1) := by decide +kernel
theorem dX11_writesNumber_37 : decode cX11_writesNumber 37 = .ok (.goto (-28), 3) := by decide +kernel
theorem dX11_writesNumber_40 : decode cX11_writesNumber 40 = .ok (.aload_n 0, 1) := by decide +kernel
theorem dX11_writesNumber_41 : decode cX11_writesNumber 41 = .ok (.lload_n 3, 1) := by decide +kernel
theorem dX11_writesNumber_42 : decode cX11_writesNumber 42 = .ok (.invokevirtual 460, 3) := by decide +kernel
theorem dX11_writesNumber_45 : decode cX11_writesNumber 45 = .ok (.return_, 1) := by decide +kernel
theorem dX11_wrongHere_0 : decode cX11_wrongHere 0 = .ok (.aload_n 0, 1) := by decide +kernel
theorem dX11_wrongHere_1 : decode cX11_wrongHere 1 = .ok (.iload_n 1, 1) := by decide +kernel
theorem dX11_wrongHere_2 : decode cX11_wrongHere 2 = .ok (.aload_n 0, 1) := by decide +kernel
theorem dX11_wrongHere_3 : decode cX11_wrongHere 3 = .ok (.getfield 250, 3) := by decide +kernel
theorem dX11_wrongHere_6 : decode cX11_wrongHere 6 = .ok (.invokevirtual 268, 3) := by decide +kernel
theorem dX11_wrongHere_9 : decode cX11_wrongHere 9 = .ok (.ireturn, 1) := by decide +kernel
def f_X11_wrong_21 (y0 : Int32) (σ : ST) : Option (Int32 × ST) := some (0, (stI σ 0 12 y0))
def f_X11_wrong (p0 : Int32) (p1 : Int32) (σ : ST) : Option (Int32 × ST) := if (σ.1 0 12) = 0 then (f_X11_wrong_21  ((8 * p1) + p0) σ) else (f_X11_wrong_21  (σ.1 0 12) σ)

set_option maxRecDepth 100000 in
set_option maxHeartbeats 4000000 in
theorem b_X11_wrong_21 {p : Program} {l : Launch} {e : Env} {s : State} {m : MethodId} {args : Array Value} {below : List Frame} {meth : Method} {c : Code} {dC : Nat → ClassId} {dI : Nat → Nat → Nat} {a : Nat → Nat} {k : Nat → ClassId} {A : Nat → Prop} {q : Int32 × ST} (hC : CxB p s m args meth c dC dI k A cX11_wrong RX11 (some .boolean) 3)   {y0 : Int32} {σ : ST} (h : f_X11_wrong_21  y0 σ = some q) : GoB p l e ({ frames := 0, cells := 0, slots := 0, locals := 0 } : Room) s m args below meth c (MQ below (qBi dC dI a k A q) args s 0 0 A) dC dI a k A 3 21 σ [] [.int y0, .ref (a 0)] := by
  have hC0 := hC
  obtain ⟨hx, hb, hr, hml, hown, hts, hlocks, hA, hN, hK⟩ := hC0
  intro H locs ls hP hD hS hl
  have hD0 : ∀ σ1 : ST, va_D A (wB a k σ1) := fun σ1 => wB_D hD
  unfold f_X11_wrong_21 at h
  refine va_put (D := (dC, dI)) (ci := 11) (ty := .int) (C := RX11) (T := TX11) (N := 95) hx hb hts inlX11 tyX11 tyX11_ok nmX11 hown hK hP hD hS 0 gB_0 rfl 12 (by decide) (hts (.fieldLink RX11 265 "ShapeReaderModel" "fault" "I") mw_30_5) (fun _ h9 => h9) rfl (by decide +kernel) rfl rfl (Nat.le_of_ble_eq_true rfl) dX11_wrong_21 (fun H locs hP hD hS => ?_)
  replace hP := uB_0_12 hP
  replace hD := hD0 ((stI σ 0 12 y0))
  refine lv_iconst (v := 0) hx hb dX11_wrong_24 (by decide) ?_
  obtain rfl := Option.some.inj h
  exact W.zret hx hb hr rfl (fun t ht hW => ⟨⟨_, (), rfl, rfl, ⟨by rw [ht]; exact hP, va_K.moved hW.alike hK, hD⟩⟩, hS.F ht⟩) hS.2.2 dX11_wrong_25

set_option maxRecDepth 100000 in
set_option maxHeartbeats 4000000 in
theorem b_X11_wrong_e {p : Program} {l : Launch} {e : Env} {s : State} {m : MethodId} {args : Array Value} {below : List Frame} {meth : Method} {c : Code} {dC : Nat → ClassId} {dI : Nat → Nat → Nat} {a : Nat → Nat} {k : Nat → ClassId} {A : Nat → Prop} {q : Int32 × ST} (hC : CxB p s m args meth c dC dI k A cX11_wrong RX11 (some .boolean) 3)   {p0 : Int32} {p1 : Int32} {σ : ST} (h : f_X11_wrong  p0 p1 σ = some q) : GoB p l e ({ frames := 0, cells := 0, slots := 0, locals := 0 } : Room) s m args below meth c (MQ below (qBi dC dI a k A q) args s 0 0 A) dC dI a k A 3 0 σ (lv_args 0 [.ref (a 0), .int p0, .int p1]) [] := by
  have hC0 := hC
  obtain ⟨hx, hb, hr, hml, hown, hts, hlocks, hA, hN, hK⟩ := hC0
  intro H locs ls hP hD hS hl
  have hD0 : ∀ σ1 : ST, va_D A (wB a k σ1) := fun σ1 => wB_D hD
  replace hl : lv_has ls 3 [(0, .ref (a 0)), (1, .int p0), (2, .int p1)] := hl
  unfold f_X11_wrong at h
  refine lv_aload_n hx hb dX11_wrong_0 rfl (lv_at hl 0 rfl) ?_
  refine lv_aload_n hx hb dX11_wrong_1 rfl (lv_at hl 0 rfl) ?_
  refine va_get (D := (dC, dI)) (ci := 11) (C := RX11) (T := TX11) (N := 95) hx hb hts inlX11 hown hK hP 0 gB_0 rfl 12 (by decide) (hts (.fieldLink RX11 265 "ShapeReaderModel" "fault" "I") mw_30_5) (fun _ h9 => h9) rfl dX11_wrong_2 ?_
  refine lv_if_ne (tgt := 17) hx hb dX11_wrong_5 (by decide) (fun hc => ?_) (fun hc => ?_)
  · replace h := iq hc h
    refine lv_aload_n hx hb dX11_wrong_17 rfl (lv_at hl 0 rfl) ?_
    refine va_get (D := (dC, dI)) (ci := 11) (C := RX11) (T := TX11) (N := 95) hx hb hts inlX11 hown hK hP 0 gB_0 rfl 12 (by decide) (hts (.fieldLink RX11 265 "ShapeReaderModel" "fault" "I") mw_30_5) (fun _ h9 => h9) rfl dX11_wrong_18 ?_
    exact b_X11_wrong_21 hC h _ _ _ hP hD hS (lv_sub hl [] rfl)
  · replace h := ip hc h
    refine lv_bipush (v := 8) hx hb dX11_wrong_8 (by decide) ?_
    refine lv_iload_n hx hb dX11_wrong_10 rfl (lv_at hl 2 rfl) ?_
    refine lv_imul hx hb dX11_wrong_11 ?_
    refine lv_iload_n hx hb dX11_wrong_12 rfl (lv_at hl 1 rfl) ?_
    refine lv_iadd hx hb dX11_wrong_13 ?_
    refine lv_goto (tgt := 21) hx hb dX11_wrong_14 (by decide) ?_
    exact b_X11_wrong_21 hC h _ _ _ hP hD hS (lv_sub hl [] rfl)

theorem s_X11_wrong {l : Launch} {dC : Nat → ClassId} {dI : Nat → Nat → Nat} {a : Nat → Nat} {k : Nat → ClassId} {sz : Nat} {p0 : Int32} {p1 : Int32} {σ : ST} {q : Int32 × ST} (h : f_X11_wrong  p0 p1 σ = some q) : Met l yX11_wrong (.code yX11_wrong cX11_wrong 3 (some .boolean) :: pw) ({ frames := 0, cells := 0, slots := 0, locals := 0 } : Room) (va_Pc [.ref (a 0), .int p0, .int p1] (vPre dC dI (wB a k σ) (tB k) sz)) (qBi dC dI a k (va_A (wB a k σ) sz) q) 0 0 (va_A (wB a k σ) sz) := metB (fun A => qBi dC dI a k A q) (plainFor_of_name (by decide)) (Nat.le_of_ble_eq_true rfl) (fun _ _ _ _ _ _ _ _ hC => b_X11_wrong_e hC h)

def f_X11_wrongHere (p0 : Int32) (σ : ST) : Option (Int32 × ST) := (f_X11_wrong  p0 (σ.1 0 4) σ).bind fun q1 => if q1.1 = 0 ∨ q1.1 = 1 then some (q1.1, q1.2) else none

set_option maxRecDepth 100000 in
set_option maxHeartbeats 4000000 in
theorem b_X11_wrongHere_e {p : Program} {l : Launch} {e : Env} {s : State} {m : MethodId} {args : Array Value} {below : List Frame} {meth : Method} {c : Code} {dC : Nat → ClassId} {dI : Nat → Nat → Nat} {a : Nat → Nat} {k : Nat → ClassId} {A : Nat → Prop} {q : Int32 × ST} (hC : CxB p s m args meth c dC dI k A cX11_wrongHere RX11 (some .boolean) 2)   {p0 : Int32} {σ : ST} (h : f_X11_wrongHere  p0 σ = some q) : GoB p l e ({ frames := 1, cells := 0, slots := 0, locals := 22 } : Room) s m args below meth c (MQ below (qBi dC dI a k A q) args s 0 0 A) dC dI a k A 2 0 σ (lv_args 0 [.ref (a 0), .int p0]) [] := by
  have hC0 := hC
  obtain ⟨hx, hb, hr, hml, hown, hts, hlocks, hA, hN, hK⟩ := hC0
  intro H locs ls hP hD hS hl
  have hD0 : ∀ σ1 : ST, va_D A (wB a k σ1) := fun σ1 => wB_D hD
  replace hl : lv_has ls 2 [(0, .ref (a 0)), (1, .int p0)] := hl
  unfold f_X11_wrongHere at h
  refine lv_aload_n hx hb dX11_wrongHere_0 rfl (lv_at hl 0 rfl) ?_
  refine lv_iload_n hx hb dX11_wrongHere_1 rfl (lv_at hl 1 rfl) ?_
  refine lv_aload_n hx hb dX11_wrongHere_2 rfl (lv_at hl 0 rfl) ?_
  refine va_get (D := (dC, dI)) (ci := 11) (C := RX11) (T := TX11) (N := 95) hx hb hts inlX11 hown hK hP 0 gB_0 rfl 4 (by decide) (hts (.fieldLink RX11 250 "ShapeReaderModel" "at" "I") mw_29_25) (fun _ h9 => h9) rfl dX11_wrongHere_3 ?_
  obtain ⟨q1, hc, h⟩ := ib h
  have hF := va_frees hD hS hA
  refine va_calli (va_runV (As := [.int p0, .int (σ.1 0 4)]) (rest := []) ⟨hx, hb, hml, hown, hts⟩ (s_X11_wrong hc) (cwV 2 hts (gV mw_30_6 mw_30_7 mw_30_8 mw_0_15 mw_54_9) rfl rfl rfl (by decide +kernel) ⟨(Nat.le_of_ble_eq_true rfl), (Nat.le_of_ble_eq_true rfl)⟩) (vV (ci := 11) (q0 := 0) hK hP hD hN rfl gB_0) rfl rfl hl.1 rfl (lv_room (Nat.le_of_ble_eq_true rfl)) dX11_wrongHere_6 ⟨(Nat.le_of_ble_eq_true rfl), (Nat.le_of_ble_eq_true rfl)⟩) hS (fun q _ h => hF q h) hF (fun r2 u t H locs ht hvm hw hB _ _ hS => ?_)
  obtain rfl : r2 = q1.1 := hw
  replace hP : va_P (dC, dI) vwCl (wB a k q1.2) H := by rw [← ht]; exact hB.1
  replace hD := hD0 (q1.2)
  clear hB hF
  obtain ⟨hg, h⟩ := ig h
  obtain rfl := Option.some.inj h
  exact W.zret hx hb hr (zn hg) (fun t ht hW => ⟨⟨_, (), rfl, rfl, ⟨by rw [ht]; exact hP, va_K.moved hW.alike hK, hD⟩⟩, hS.F ht⟩) hS.2.2 dX11_wrongHere_9

theorem s_X11_wrongHere {l : Launch} {dC : Nat → ClassId} {dI : Nat → Nat → Nat} {a : Nat → Nat} {k : Nat → ClassId} {sz : Nat} {p0 : Int32} {σ : ST} {q : Int32 × ST} (h : f_X11_wrongHere  p0 σ = some q) : Met l yX11_wrongHere (.code yX11_wrongHere cX11_wrongHere 2 (some .boolean) :: pw) ({ frames := 1, cells := 0, slots := 0, locals := 22 } : Room) (va_Pc [.ref (a 0), .int p0] (vPre dC dI (wB a k σ) (tB k) sz)) (qBi dC dI a k (va_A (wB a k σ) sz) q) 0 0 (va_A (wB a k σ) sz) := metB (fun A => qBi dC dI a k A q) (plainFor_of_name (by decide)) (Nat.le_of_ble_eq_true rfl) (fun _ _ _ _ _ _ _ _ hC => b_X11_wrongHere_e hC h)

def f_X11_branches_73 (r_X11_branches : Int32 → Int32 → ST → Option ((Int32 × ST) × Nat)) (r_X11_type : Int32 → Int32 → ST → Option ((Int32 × ST) × Nat)) (k2 : Int32 → Int32 → Int32 → ST → Option ((Int32 × ST) × Nat)) (x1 : Int32) (x2 : Int32) (σ : ST) : Option ((Int32 × ST) × Nat) := (f_X11_isOr   σ).bind fun q1 => ac q1.2 (if q1.1.1 = 0 then (k2 x1 x2 q1.1.1 q1.1.2) else ((f_X11_go   q1.1.2).bind fun q3 => k2 x1 x2 q1.1.1 q3))
def f_X11_branches_2 (r_X11_branches : Int32 → Int32 → ST → Option ((Int32 × ST) × Nat)) (r_X11_type : Int32 → Int32 → ST → Option ((Int32 × ST) × Nat)) : Nat → Int32 → Int32 → Int32 → ST → Option ((Int32 × ST) × Nat)
  | 0, _, _, _, _ => none
  | n + 1, x1, x2, x3, σ => if x3 = 0 then (some ((1, σ), 0)) else ((r_X11_type  (x2 + 1) x1 σ).bind fun q1 => ac q1.2 (if 0 ≤ q1.1.1 then (if 0 ≤ x1.toInt ∧ x1.toInt < 800 then (if 0 ≤ ((4 * x1) + (q1.1.2.1 4 x1.toNatClampNeg)).toInt ∧ ((4 * x1) + (q1.1.2.1 4 x1.toNatClampNeg)).toInt < 3200 then ((some (stI (stI q1.1.2 5 ((4 * x1) + (q1.1.2.1 4 x1.toNatClampNeg)).toNatClampNeg q1.1.1) 4 x1.toNatClampNeg (((stI q1.1.2 5 ((4 * x1) + (q1.1.2.1 4 x1.toNatClampNeg)).toNatClampNeg q1.1.1).1 4 x1.toNatClampNeg) + 1))).bind fun z5 => if (z5.1 4 x1.toNatClampNeg) = 1 then ((f_X11_isOr   z5).bind fun q6 => ac q6.2 (if q6.1.1 = 0 then ((f_X11_wrongHere  1 q6.1.2).bind fun q8 => if q8.1 = 0 ∨ q8.1 = 1 then some ((q8.1, q8.2), 0) else none) else (f_X11_branches_73 r_X11_branches r_X11_type (f_X11_branches_2 r_X11_branches r_X11_type n) x1 x2 q6.1.2))) else (f_X11_branches_73 r_X11_branches r_X11_type (f_X11_branches_2 r_X11_branches r_X11_type n) x1 x2 z5)) else none) else none) else (some ((0, q1.1.2), 0))))
def f_X11_branches (r_X11_branches : Int32 → Int32 → ST → Option ((Int32 × ST) × Nat)) (r_X11_type : Int32 → Int32 → ST → Option ((Int32 × ST) × Nat)) (p0 : Int32) (p1 : Int32) (σ : ST) : Option ((Int32 × ST) × Nat) := f_X11_branches_2 r_X11_branches r_X11_type FU p0 p1 1 σ

def f_X11_type_213 (r_X11_branches : Int32 → Int32 → ST → Option ((Int32 × ST) × Nat)) (r_X11_type : Int32 → Int32 → ST → Option ((Int32 × ST) × Nat)) (x5 : Int32) (σ : ST) : Option ((Int32 × ST) × Nat) := some ((x5, σ), 0)
def f_X11_type_78 (r_X11_branches : Int32 → Int32 → ST → Option ((Int32 × ST) × Nat)) (r_X11_type : Int32 → Int32 → ST → Option ((Int32 × ST) × Nat)) (x1 : Int32) (x3 : Int32) (x4 : Int32) (σ : ST) : Option ((Int32 × ST) × Nat) := if x4 ≤ 0 then (if 0 ≤ (σ.1 0 34).toInt ∧ (σ.1 0 34).toInt < 800 then ((some (stI (stI (stI σ 0 34 ((σ.1 0 34) + 1)) 2 (σ.1 0 34).toNatClampNeg x3) 4 (σ.1 0 34).toNatClampNeg 0)).bind fun z2 => (some (stI (stL z2 6 (σ.1 0 34).toNatClampNeg (z2.2.1 0 7)) 7 (σ.1 0 34).toNatClampNeg ((stL z2 6 (σ.1 0 34).toNatClampNeg (z2.2.1 0 7)).1 0 4))).bind fun z3 => (f_X11_go   (stI z3 3 (σ.1 0 34).toNatClampNeg (-1))).bind fun q4 => if x3 = 6 then ((r_X11_type  (x1 + 1) (-1) q4).bind fun q8 => ac q8.2 (if 0 ≤ ((stI q8.1.2 3 (σ.1 0 34).toNatClampNeg q8.1.1).1 3 (σ.1 0 34).toNatClampNeg) then (some (((σ.1 0 34), (stI q8.1.2 3 (σ.1 0 34).toNatClampNeg q8.1.1)), 0)) else (some (((-1), (stI q8.1.2 3 (σ.1 0 34).toNatClampNeg q8.1.1)), 0)))) else (if x3 = 8 then ((r_X11_branches  (σ.1 0 34) x1 q4).bind fun q6 => ac q6.2 (if q6.1.1 = 0 then (some (((-1), q6.1.2), 0)) else (f_X11_type_213 r_X11_branches r_X11_type (σ.1 0 34) q6.1.2))) else (f_X11_type_213 r_X11_branches r_X11_type (σ.1 0 34) q4))) else none) else ((f_X11_wrongHere  x4 σ).bind fun q10 => some (((-1), q10.2), 0))
def f_X11_type_75 (r_X11_branches : Int32 → Int32 → ST → Option ((Int32 × ST) × Nat)) (r_X11_type : Int32 → Int32 → ST → Option ((Int32 × ST) × Nat)) (x1 : Int32) (x3 : Int32) (σ : ST) : Option ((Int32 × ST) × Nat) := f_X11_type_78 r_X11_branches r_X11_type x1 x3 5 σ
def f_X11_type_49 (r_X11_branches : Int32 → Int32 → ST → Option ((Int32 × ST) × Nat)) (r_X11_type : Int32 → Int32 → ST → Option ((Int32 × ST) × Nat)) (x1 : Int32) (x2 : Int32) (x3 : Int32) (y0 : Int32) (σ : ST) : Option ((Int32 × ST) × Nat) := if y0 = 0 then (if x2 < 0 then (f_X11_type_78 r_X11_branches r_X11_type x1 x3 y0 σ) else (if x3 = 8 then (f_X11_type_75 r_X11_branches r_X11_type x1 x3 σ) else ((f_X11_isAsked  x2 x3 σ).bind fun q1 => if q1.1 = 0 then (f_X11_type_78 r_X11_branches r_X11_type x1 x3 y0 q1.2) else (f_X11_type_75 r_X11_branches r_X11_type x1 x3 q1.2)))) else (f_X11_type_78 r_X11_branches r_X11_type x1 x3 y0 σ)
def f_X11_type_44 (r_X11_branches : Int32 → Int32 → ST → Option ((Int32 × ST) × Nat)) (r_X11_type : Int32 → Int32 → ST → Option ((Int32 × ST) × Nat)) (x1 : Int32) (x2 : Int32) (x3 : Int32) (σ : ST) : Option ((Int32 × ST) × Nat) := f_X11_type_49 r_X11_branches r_X11_type x1 x2 x3 4 σ
def f_X11_type_48 (r_X11_branches : Int32 → Int32 → ST → Option ((Int32 × ST) × Nat)) (r_X11_type : Int32 → Int32 → ST → Option ((Int32 × ST) × Nat)) (x1 : Int32) (x2 : Int32) (x3 : Int32) (σ : ST) : Option ((Int32 × ST) × Nat) := f_X11_type_49 r_X11_branches r_X11_type x1 x2 x3 0 σ
def f_X11_type_16 (r_X11_branches : Int32 → Int32 → ST → Option ((Int32 × ST) × Nat)) (r_X11_type : Int32 → Int32 → ST → Option ((Int32 × ST) × Nat)) (x1 : Int32) (x2 : Int32) (y0 : Int32) (σ : ST) : Option ((Int32 × ST) × Nat) := if 0 ≤ y0 then (if 4 ≤ x1 then (f_X11_type_44 r_X11_branches r_X11_type x1 x2 y0 σ) else (if x2 < 0 then (f_X11_type_48 r_X11_branches r_X11_type x1 x2 y0 σ) else (if 0 ≤ x2.toInt ∧ x2.toInt < 800 then (if (σ.1 4 x2.toNatClampNeg) = 4 then (f_X11_type_44 r_X11_branches r_X11_type x1 x2 y0 σ) else (f_X11_type_48 r_X11_branches r_X11_type x1 x2 y0 σ)) else none))) else (f_X11_type_49 r_X11_branches r_X11_type x1 x2 y0 1 σ)
def f_X11_type (r_X11_branches : Int32 → Int32 → ST → Option ((Int32 × ST) × Nat)) (r_X11_type : Int32 → Int32 → ST → Option ((Int32 × ST) × Nat)) (p0 : Int32) (p1 : Int32) (σ : ST) : Option ((Int32 × ST) × Nat) := (f_X11_isName   σ).bind fun q1 => ac q1.2 (if q1.1.1 = 0 then ((f_X11_sortHere   q1.1.2).bind fun q3 => ac q3.2 (f_X11_type_16 r_X11_branches r_X11_type p0 p1 q3.1.1 q3.1.2)) else (f_X11_type_16 r_X11_branches r_X11_type p0 p1 7 q1.1.2))

def R_X11_branches : Nat → (Int32 → Int32 → ST → Option ((Int32 × ST) × Nat)) × (Int32 → Int32 → ST → Option ((Int32 × ST) × Nat))
  | 0 => ((fun _ _ _ => none), (fun _ _ _ => none))
  | n + 1 => (f_X11_branches ((R_X11_branches n).1) ((R_X11_branches n).2), f_X11_type ((R_X11_branches n).1) ((R_X11_branches n).2))
def f_T_X11_branches (p0 : Int32) (p1 : Int32) (σ : ST) : Option ((Int32 × ST) × Nat) := (R_X11_branches FRB).1 p0 p1 σ
def f_T_X11_type (p0 : Int32) (p1 : Int32) (σ : ST) : Option ((Int32 × ST) × Nat) := (R_X11_branches FRB).2 p0 p1 σ

set_option maxRecDepth 100000 in
set_option maxHeartbeats 4000000 in
theorem b_X11_branches_73 {p : Program} {l : Launch} {e : Env} {s : State} {m : MethodId} {args : Array Value} {below : List Frame} {meth : Method} {c : Code} {dC : Nat → ClassId} {dI : Nat → Nat → Nat} {a : Nat → Nat} {k : Nat → ClassId} {A : Nat → Prop} {q : Int32 × ST} {T r κ : Nat} (hC : CxB p s m args meth c dC dI k A cX11_branches RX11 (some .boolean) 5) {nn : Nat} {r_X11_branches : Int32 → Int32 → ST → Option ((Int32 × ST) × Nat)} (hr_X11_branches : ∀ {sz : Nat} {p0 : Int32} {p1 : Int32} {σ : ST} {q : Int32 × ST} {r : Nat}, r_X11_branches  p0 p1 σ = some (q, r) → Met l yX11_branches (.code yX11_branches cX11_branches 5 (some .boolean) :: pw) ({ frames := 5 + nn, cells := r, slots := 6 * r, locals := 108 + 25 * nn } : Room) (va_Pc [.ref (a 0), .int p0, .int p1] (vPre dC dI (wB a k σ) (tB k) sz)) (qBi dC dI a k (va_A (wB a k σ) sz) q) r (6 * r) (va_A (wB a k σ) sz)) {r_X11_type : Int32 → Int32 → ST → Option ((Int32 × ST) × Nat)} (hr_X11_type : ∀ {sz : Nat} {p0 : Int32} {p1 : Int32} {σ : ST} {q : Int32 × ST} {r : Nat}, r_X11_type  p0 p1 σ = some (q, r) → Met l yX11_type (.code yX11_type cX11_type 6 (some .int) :: pw) ({ frames := 5 + nn, cells := r, slots := 6 * r, locals := 108 + 25 * nn } : Room) (va_Pc [.ref (a 0), .int p0, .int p1] (vPre dC dI (wB a k σ) (tB k) sz)) (qBi dC dI a k (va_A (wB a k σ) sz) q) r (6 * r) (va_A (wB a k σ) sz)) {k2 : Int32 → Int32 → Int32 → ST → Option ((Int32 × ST) × Nat)} (hk2 : ∀ (x1 : Int32) (x2 : Int32) (x3 : Int32) (σ : ST) (κ r : Nat), k2 x1 x2 x3 σ = some (q, r) → κ + r = T → GkB p l e ({ frames := 5 + (nn + 1), cells := T, slots := 6 * T, locals := 108 + 25 * (nn + 1) } : Room) s m args below meth c (MQ below (qBi dC dI a k A q) args s T (6 * T) A) dC dI a k A 5 2 κ σ [(0, .ref (a 0)), (1, .int x1), (2, .int x2), (3, .int x3)] []) {x1 : Int32} {x2 : Int32} {σ : ST} (h : f_X11_branches_73 r_X11_branches r_X11_type k2 x1 x2 σ = some (q, r)) (hκ : κ + r = T) : GkB p l e ({ frames := 5 + (nn + 1), cells := T, slots := 6 * T, locals := 108 + 25 * (nn + 1) } : Room) s m args below meth c (MQ below (qBi dC dI a k A q) args s T (6 * T) A) dC dI a k A 5 73 κ σ [(0, .ref (a 0)), (1, .int x1), (2, .int x2)] [] := by
  have hC0 := hC
  obtain ⟨hx, hb, hr, hml, hown, hts, hlocks, hA, hN, hK⟩ := hC0
  intro H locs ls hP hD hS hl
  have hD0 : ∀ σ1 : ST, va_D A (wB a k σ1) := fun σ1 => wB_D hD
  unfold f_X11_branches_73 at h
  refine lv_aload_n hx hb dX11_branches_73 rfl (lv_at hl 0 rfl) ?_
  obtain ⟨q1, hc, h⟩ := ib h
  obtain ⟨r2, h, hz⟩ := acE h
  have hF := va_frees hD hS hA
  refine va_calli (va_runV (As := []) (rest := []) ⟨hx, hb, hml, hown, hts⟩ (s_X11_isOr (q := q1.1) (r := q1.2) hc) (cwV 0 hts (gV mw_31_5 mw_31_6 mw_31_7 mw_0_15 mw_54_17) rfl rfl rfl (by decide +kernel) ⟨by show 1 + 1 ≤ 5 + (nn + 1); omega, by show 8 + (1 + 11) + 29 ≤ 108 + 25 * (nn + 1); omega⟩) (vV (ci := 11) (q0 := 0) hK hP hD hN rfl gB_0) rfl rfl hl.1 rfl (lv_room (Nat.le_of_ble_eq_true rfl)) dX11_branches_74 ⟨by show κ + q1.2 ≤ T; omega, by show 6 * κ + 6 * q1.2 ≤ 6 * T; omega⟩) hS (fun q _ h => hF q h) hF (fun r2 u t H locs ht hvm hw hB _ _ hS => ?_)
  obtain rfl : r2 = q1.1.1 := hw
  replace hκ : (κ + q1.2) + r2 = T := by omega
  clear hz
  refine W.widen (k := (κ + q1.2)) (n := 6 * (κ + q1.2)) (Nat.le_refl _) (by omega) ?_
  replace hP : va_P (dC, dI) vwCl (wB a k q1.1.2) H := by rw [← ht]; exact hB.1
  replace hD := hD0 (q1.1.2)
  clear hB hF
  refine lv_istore_n (lv' := [(3, .int q1.1.1), (0, .ref (a 0)), (1, .int x1), (2, .int x2)]) hx hb dX11_branches_77 rfl hl (by decide) rfl (fun ls hl => ?_)
  refine lv_iload_n hx hb dX11_branches_78 rfl (lv_at hl 0 rfl) ?_
  refine lv_if_eq (tgt := 86) hx hb dX11_branches_79 (by decide) (fun hc => ?_) (fun hc => ?_)
  · replace h := ip hc h
    refine lv_goto (tgt := 2) hx hb dX11_branches_86 (by decide) ?_
    exact hk2 _ _ _ _ _ _ h hκ _ _ _ hP hD hS (lv_sub hl [1, 2, 3, 0] rfl)
  · replace h := iq hc h
    refine lv_aload_n hx hb dX11_branches_82 rfl (lv_at hl 1 rfl) ?_
    obtain ⟨q3, hc, h⟩ := ib h
    have hF := va_frees hD hS hA
    refine va_callv (va_runV (As := []) (rest := []) ⟨hx, hb, hml, hown, hts⟩ (s_X11_go hc) (cwV 0 hts (gV mw_30_12 mw_30_13 mw_30_14 mw_0_15 mw_54_6) rfl rfl rfl (by decide +kernel) ⟨by show 4 + 1 ≤ 5 + (nn + 1); omega, by show 8 + (2 + 11) + 87 ≤ 108 + 25 * (nn + 1); omega⟩) (vV (ci := 11) (q0 := 0) hK hP hD hN rfl gB_0) rfl rfl hl.1 rfl (lv_room (Nat.le_of_ble_eq_true rfl)) dX11_branches_83 ⟨by show (κ + q1.2) + 0 ≤ T; omega, by show 6 * (κ + q1.2) + 0 ≤ 6 * T; omega⟩) hS (fun q _ h => hF q h) hF (fun u t H locs ht hvm hw hB _ _ hS => ?_)
    replace hP : va_P (dC, dI) vwCl (wB a k q3) H := by rw [← ht]; exact hB.1
    replace hD := hD0 (q3)
    clear hB hF
    refine lv_goto (tgt := 2) hx hb dX11_branches_86 (by decide) ?_
    exact hk2 _ _ _ _ _ _ h hκ _ _ _ hP hD hS (lv_sub hl [1, 2, 3, 0] rfl)

set_option maxRecDepth 100000 in
set_option maxHeartbeats 4000000 in
theorem b_X11_branches_2 {p : Program} {l : Launch} {e : Env} {s : State} {m : MethodId} {args : Array Value} {below : List Frame} {meth : Method} {c : Code} {dC : Nat → ClassId} {dI : Nat → Nat → Nat} {a : Nat → Nat} {k : Nat → ClassId} {A : Nat → Prop} {q : Int32 × ST} {T : Nat} (hC : CxB p s m args meth c dC dI k A cX11_branches RX11 (some .boolean) 5) {nn : Nat} {r_X11_branches : Int32 → Int32 → ST → Option ((Int32 × ST) × Nat)} (hr_X11_branches : ∀ {sz : Nat} {p0 : Int32} {p1 : Int32} {σ : ST} {q : Int32 × ST} {r : Nat}, r_X11_branches  p0 p1 σ = some (q, r) → Met l yX11_branches (.code yX11_branches cX11_branches 5 (some .boolean) :: pw) ({ frames := 5 + nn, cells := r, slots := 6 * r, locals := 108 + 25 * nn } : Room) (va_Pc [.ref (a 0), .int p0, .int p1] (vPre dC dI (wB a k σ) (tB k) sz)) (qBi dC dI a k (va_A (wB a k σ) sz) q) r (6 * r) (va_A (wB a k σ) sz)) {r_X11_type : Int32 → Int32 → ST → Option ((Int32 × ST) × Nat)} (hr_X11_type : ∀ {sz : Nat} {p0 : Int32} {p1 : Int32} {σ : ST} {q : Int32 × ST} {r : Nat}, r_X11_type  p0 p1 σ = some (q, r) → Met l yX11_type (.code yX11_type cX11_type 6 (some .int) :: pw) ({ frames := 5 + nn, cells := r, slots := 6 * r, locals := 108 + 25 * nn } : Room) (va_Pc [.ref (a 0), .int p0, .int p1] (vPre dC dI (wB a k σ) (tB k) sz)) (qBi dC dI a k (va_A (wB a k σ) sz) q) r (6 * r) (va_A (wB a k σ) sz))  : ∀ (n : Nat) (x1 : Int32) (x2 : Int32) (x3 : Int32) (σ : ST) (κ r : Nat), f_X11_branches_2 r_X11_branches r_X11_type n x1 x2 x3 σ = some (q, r) → κ + r = T → GkB p l e ({ frames := 5 + (nn + 1), cells := T, slots := 6 * T, locals := 108 + 25 * (nn + 1) } : Room) s m args below meth c (MQ below (qBi dC dI a k A q) args s T (6 * T) A) dC dI a k A 5 2 κ σ [(0, .ref (a 0)), (1, .int x1), (2, .int x2), (3, .int x3)] [] := by
  intro n
  induction n with
  | zero =>
    intro x1 x2 x3 σ κ r h
    rw [f_X11_branches_2] at h
    cases h
  | succ n ih =>
    intro x1 x2 x3 σ κ r h hκ
    have hC0 := hC
    obtain ⟨hx, hb, hr, hml, hown, hts, hlocks, hA, hN, hK⟩ := hC0
    intro H locs ls hP hD hS hl
    have hD0 : ∀ σ1 : ST, va_D A (wB a k σ1) := fun σ1 => wB_D hD
    rw [f_X11_branches_2] at h
    refine lv_iload_n hx hb dX11_branches_2 rfl (lv_at hl 3 rfl) ?_
    refine lv_if_eq (tgt := 89) hx hb dX11_branches_3 (by decide) (fun hc => ?_) (fun hc => ?_)
    · replace h := ip hc h
      refine lv_iconst (v := 1) hx hb dX11_branches_89 (by decide) ?_
      obtain ⟨rfl, rfl⟩ := Prod.mk.inj (Option.some.inj h)
      subst hκ
      exact W.zret hx hb hr rfl (fun t ht hW => ⟨⟨_, (), rfl, rfl, ⟨by rw [ht]; exact hP, va_K.moved hW.alike hK, hD⟩⟩, hS.F ht⟩) hS.2.2 dX11_branches_90
    · replace h := iq hc h
      refine lv_aload_n hx hb dX11_branches_6 rfl (lv_at hl 0 rfl) ?_
      refine lv_iload_n hx hb dX11_branches_7 rfl (lv_at hl 2 rfl) ?_
      refine lv_iconst (v := 1) hx hb dX11_branches_8 (by decide) ?_
      refine lv_iadd hx hb dX11_branches_9 ?_
      refine lv_iload_n hx hb dX11_branches_10 rfl (lv_at hl 1 rfl) ?_
      obtain ⟨q1, hc, h⟩ := ib h
      obtain ⟨r2, h, hz⟩ := acE h
      have hF := va_frees hD hS hA
      refine va_calli (va_runV (As := [.int (x2 + 1), .int x1]) (rest := []) ⟨hx, hb, hml, hown, hts⟩ (hr_X11_type (q := q1.1) (r := q1.2) hc) (cwV 2 hts (gV mw_31_21 mw_31_22 mw_31_23 mw_0_15 mw_54_22) rfl rfl rfl (by decide +kernel) ⟨by show (5 + nn) + 1 ≤ 5 + (nn + 1); omega, by show 8 + (6 + 11) + (108 + 25 * nn) ≤ 108 + 25 * (nn + 1); omega⟩) (vV (ci := 11) (q0 := 0) hK hP hD hN rfl gB_0) rfl rfl hl.1 rfl (lv_room (Nat.le_of_ble_eq_true rfl)) dX11_branches_11 ⟨by show κ + q1.2 ≤ T; omega, by show 6 * κ + 6 * q1.2 ≤ 6 * T; omega⟩) hS (fun q _ h => hF q h) hF (fun r2 u t H locs ht hvm hw hB _ _ hS => ?_)
      obtain rfl : r2 = q1.1.1 := hw
      replace hκ : (κ + q1.2) + r2 = T := by omega
      clear hz
      refine W.widen (k := (κ + q1.2)) (n := 6 * (κ + q1.2)) (Nat.le_refl _) (by omega) ?_
      replace hP : va_P (dC, dI) vwCl (wB a k q1.1.2) H := by rw [← ht]; exact hB.1
      replace hD := hD0 (q1.1.2)
      clear hB hF
      refine lv_istore (lv' := [(4, .int q1.1.1), (0, .ref (a 0)), (1, .int x1), (2, .int x2), (3, .int x3)]) hx hb dX11_branches_14 hl (by decide) rfl (fun ls hl => ?_)
      refine lv_iload hx hb dX11_branches_16 (lv_at hl 0 rfl) ?_
      refine lv_if_ge (tgt := 23) hx hb dX11_branches_18 (by decide) (fun hc => ?_) (fun hc => ?_)
      · replace h := ip hc h
        refine lv_aload_n hx hb dX11_branches_23 rfl (lv_at hl 1 rfl) ?_
        refine va_get (D := (dC, dI)) (ci := 11) (C := RX11) (T := TX11) (N := 95) hx hb hts inlX11 hown hK hP 0 gB_0 rfl 17 (by decide) (hts (.fieldLink RX11 23 "ShapeReaderModel" "branch" "[I") mw_27_1) (fun _ h9 => h9) rfl dX11_branches_24 ?_
        refine lv_iconst (v := 4) hx hb dX11_branches_27 (by decide) ?_
        refine lv_iload_n hx hb dX11_branches_28 rfl (lv_at hl 2 rfl) ?_
        refine lv_imul hx hb dX11_branches_29 ?_
        refine lv_aload_n hx hb dX11_branches_30 rfl (lv_at hl 1 rfl) ?_
        refine va_get (D := (dC, dI)) (ci := 11) (C := RX11) (T := TX11) (N := 95) hx hb hts inlX11 hown hK hP 0 gB_0 rfl 16 (by decide) (hts (.fieldLink RX11 20 "ShapeReaderModel" "typeMany" "[I") mw_27_0) (fun _ h9 => h9) rfl dX11_branches_31 ?_
        refine lv_iload_n hx hb dX11_branches_34 rfl (lv_at hl 2 rfl) ?_
        obtain ⟨hg3, h⟩ := ig h
        refine va_iald hx hb hK hP 4 3 gB_4 yB_4 (vp_in_iff.mpr hg3) dX11_branches_35 ?_
        refine lv_iadd hx hb dX11_branches_36 ?_
        refine lv_iload hx hb dX11_branches_37 (lv_at hl 0 rfl) ?_
        obtain ⟨hg4, h⟩ := ig h
        refine va_iast hx hb hK hP hD hS 5 4 gB_5 yB_5 (vp_in_iff.mpr hg4) dX11_branches_39 (fun H locs hP hD hS => ?_)
        replace hP := uB_5 hP
        replace hD := hD0 ((stI q1.1.2 5 ((4 * x1) + (q1.1.2.1 4 x1.toNatClampNeg)).toNatClampNeg q1.1.1))
        refine lv_aload_n hx hb dX11_branches_40 rfl (lv_at hl 1 rfl) ?_
        refine va_get (D := (dC, dI)) (ci := 11) (C := RX11) (T := TX11) (N := 95) hx hb hts inlX11 hown hK hP 0 gB_0 rfl 16 (by decide) (hts (.fieldLink RX11 20 "ShapeReaderModel" "typeMany" "[I") mw_27_0) (fun _ h9 => h9) rfl dX11_branches_41 ?_
        refine lv_iload_n hx hb dX11_branches_44 rfl (lv_at hl 2 rfl) ?_
        refine lv_dup2_11 hx hb dX11_branches_45 rfl rfl ?_
        refine va_iald hx hb hK hP 4 3 gB_4 yB_4 (vp_in_iff.mpr hg3) dX11_branches_46 ?_
        refine lv_iconst (v := 1) hx hb dX11_branches_47 (by decide) ?_
        refine lv_iadd hx hb dX11_branches_48 ?_
        refine va_iast hx hb hK hP hD hS 4 3 gB_4 yB_4 (vp_in_iff.mpr hg3) dX11_branches_49 (fun H locs hP hD hS => ?_)
        replace hP := uB_4 hP
        replace hD := hD0 ((stI (stI q1.1.2 5 ((4 * x1) + (q1.1.2.1 4 x1.toNatClampNeg)).toNatClampNeg q1.1.1) 4 x1.toNatClampNeg (((stI q1.1.2 5 ((4 * x1) + (q1.1.2.1 4 x1.toNatClampNeg)).toNatClampNeg q1.1.1).1 4 x1.toNatClampNeg) + 1)))
        obtain ⟨z5, hs, h⟩ := ib h
        replace hs := Option.some.inj hs
        replace hP : va_P (dC, dI) vwCl (wB a k z5) H := by rw [← hs]; exact hP
        replace hD := hD0 z5
        clear hs
        refine lv_aload_n hx hb dX11_branches_50 rfl (lv_at hl 1 rfl) ?_
        refine va_get (D := (dC, dI)) (ci := 11) (C := RX11) (T := TX11) (N := 95) hx hb hts inlX11 hown hK hP 0 gB_0 rfl 16 (by decide) (hts (.fieldLink RX11 20 "ShapeReaderModel" "typeMany" "[I") mw_27_0) (fun _ h9 => h9) rfl dX11_branches_51 ?_
        refine lv_iload_n hx hb dX11_branches_54 rfl (lv_at hl 2 rfl) ?_
        refine va_iald hx hb hK hP 4 3 gB_4 yB_4 (vp_in_iff.mpr hg3) dX11_branches_55 ?_
        refine lv_iconst (v := 1) hx hb dX11_branches_56 (by decide) ?_
        refine lv_icmp_ne (tgt := 73) hx hb dX11_branches_57 (by decide) (fun hc => ?_) (fun hc => ?_)
        · replace h := iq hc h
          exact b_X11_branches_73 hC hr_X11_branches hr_X11_type ih h hκ _ _ _ hP hD hS (lv_sub hl [1, 2, 3] rfl)
        · replace h := ip hc h
          refine lv_aload_n hx hb dX11_branches_60 rfl (lv_at hl 1 rfl) ?_
          obtain ⟨q6, hc, h⟩ := ib h
          obtain ⟨r2, h, hz⟩ := acE h
          have hF := va_frees hD hS hA
          refine va_calli (va_runV (As := []) (rest := []) ⟨hx, hb, hml, hown, hts⟩ (s_X11_isOr (q := q6.1) (r := q6.2) hc) (cwV 0 hts (gV mw_31_5 mw_31_6 mw_31_7 mw_0_15 mw_54_17) rfl rfl rfl (by decide +kernel) ⟨by show 1 + 1 ≤ 5 + (nn + 1); omega, by show 8 + (1 + 11) + 29 ≤ 108 + 25 * (nn + 1); omega⟩) (vV (ci := 11) (q0 := 0) hK hP hD hN rfl gB_0) rfl rfl hl.1 rfl (lv_room (Nat.le_of_ble_eq_true rfl)) dX11_branches_61 ⟨by show (κ + q1.2) + q6.2 ≤ T; omega, by show 6 * (κ + q1.2) + 6 * q6.2 ≤ 6 * T; omega⟩) hS (fun q _ h => hF q h) hF (fun r7 u t H locs ht hvm hw hB _ _ hS => ?_)
          obtain rfl : r7 = q6.1.1 := hw
          replace hκ : ((κ + q1.2) + q6.2) + r2 = T := by omega
          clear hz
          refine W.widen (k := ((κ + q1.2) + q6.2)) (n := 6 * ((κ + q1.2) + q6.2)) (Nat.le_refl _) (by omega) ?_
          replace hP : va_P (dC, dI) vwCl (wB a k q6.1.2) H := by rw [← ht]; exact hB.1
          replace hD := hD0 (q6.1.2)
          clear hB hF
          refine lv_if_ne (tgt := 73) hx hb dX11_branches_64 (by decide) (fun hc => ?_) (fun hc => ?_)
          · replace h := iq hc h
            exact b_X11_branches_73 hC hr_X11_branches hr_X11_type ih h hκ _ _ _ hP hD hS (lv_sub hl [1, 2, 3] rfl)
          · replace h := ip hc h
            refine lv_aload_n hx hb dX11_branches_67 rfl (lv_at hl 1 rfl) ?_
            refine lv_iconst (v := 1) hx hb dX11_branches_68 (by decide) ?_
            obtain ⟨q8, hc, h⟩ := ib h
            have hF := va_frees hD hS hA
            refine va_calli (va_runV (As := [.int 1]) (rest := []) ⟨hx, hb, hml, hown, hts⟩ (s_X11_wrongHere hc) (cwV 1 hts (gV mw_30_9 mw_30_10 mw_30_11 mw_0_15 mw_54_10) rfl rfl rfl (by decide +kernel) ⟨by show 1 + 1 ≤ 5 + (nn + 1); omega, by show 8 + (2 + 11) + 22 ≤ 108 + 25 * (nn + 1); omega⟩) (vV (ci := 11) (q0 := 0) hK hP hD hN rfl gB_0) rfl rfl hl.1 rfl (lv_room (Nat.le_of_ble_eq_true rfl)) dX11_branches_69 ⟨by show ((κ + q1.2) + q6.2) + 0 ≤ T; omega, by show 6 * ((κ + q1.2) + q6.2) + 0 ≤ 6 * T; omega⟩) hS (fun q _ h => hF q h) hF (fun r9 u t H locs ht hvm hw hB _ _ hS => ?_)
            obtain rfl : r9 = q8.1 := hw
            replace hP : va_P (dC, dI) vwCl (wB a k q8.2) H := by rw [← ht]; exact hB.1
            replace hD := hD0 (q8.2)
            clear hB hF
            obtain ⟨hg, h⟩ := ig h
            obtain ⟨rfl, rfl⟩ := Prod.mk.inj (Option.some.inj h)
            subst hκ
            exact W.zret hx hb hr (zn hg) (fun t ht hW => ⟨⟨_, (), rfl, rfl, ⟨by rw [ht]; exact hP, va_K.moved hW.alike hK, hD⟩⟩, hS.F ht⟩) hS.2.2 dX11_branches_72
      · replace h := iq hc h
        refine lv_iconst (v := 0) hx hb dX11_branches_21 (by decide) ?_
        obtain ⟨rfl, rfl⟩ := Prod.mk.inj (Option.some.inj h)
        subst hκ
        exact W.zret hx hb hr rfl (fun t ht hW => ⟨⟨_, (), rfl, rfl, ⟨by rw [ht]; exact hP, va_K.moved hW.alike hK, hD⟩⟩, hS.F ht⟩) hS.2.2 dX11_branches_22

set_option maxRecDepth 100000 in
set_option maxHeartbeats 4000000 in
theorem b_X11_branches_e {p : Program} {l : Launch} {e : Env} {s : State} {m : MethodId} {args : Array Value} {below : List Frame} {meth : Method} {c : Code} {dC : Nat → ClassId} {dI : Nat → Nat → Nat} {a : Nat → Nat} {k : Nat → ClassId} {A : Nat → Prop} {q : Int32 × ST} {T r : Nat} (hC : CxB p s m args meth c dC dI k A cX11_branches RX11 (some .boolean) 5) {nn : Nat} {r_X11_branches : Int32 → Int32 → ST → Option ((Int32 × ST) × Nat)} (hr_X11_branches : ∀ {sz : Nat} {p0 : Int32} {p1 : Int32} {σ : ST} {q : Int32 × ST} {r : Nat}, r_X11_branches  p0 p1 σ = some (q, r) → Met l yX11_branches (.code yX11_branches cX11_branches 5 (some .boolean) :: pw) ({ frames := 5 + nn, cells := r, slots := 6 * r, locals := 108 + 25 * nn } : Room) (va_Pc [.ref (a 0), .int p0, .int p1] (vPre dC dI (wB a k σ) (tB k) sz)) (qBi dC dI a k (va_A (wB a k σ) sz) q) r (6 * r) (va_A (wB a k σ) sz)) {r_X11_type : Int32 → Int32 → ST → Option ((Int32 × ST) × Nat)} (hr_X11_type : ∀ {sz : Nat} {p0 : Int32} {p1 : Int32} {σ : ST} {q : Int32 × ST} {r : Nat}, r_X11_type  p0 p1 σ = some (q, r) → Met l yX11_type (.code yX11_type cX11_type 6 (some .int) :: pw) ({ frames := 5 + nn, cells := r, slots := 6 * r, locals := 108 + 25 * nn } : Room) (va_Pc [.ref (a 0), .int p0, .int p1] (vPre dC dI (wB a k σ) (tB k) sz)) (qBi dC dI a k (va_A (wB a k σ) sz) q) r (6 * r) (va_A (wB a k σ) sz))  {p0 : Int32} {p1 : Int32} {σ : ST} (h : f_X11_branches r_X11_branches r_X11_type p0 p1 σ = some (q, r)) (hκ : 0 + r = T) : GkB p l e ({ frames := 5 + (nn + 1), cells := T, slots := 6 * T, locals := 108 + 25 * (nn + 1) } : Room) s m args below meth c (MQ below (qBi dC dI a k A q) args s T (6 * T) A) dC dI a k A 5 0 0 σ (lv_args 0 [.ref (a 0), .int p0, .int p1]) [] := by
  have hC0 := hC
  obtain ⟨hx, hb, hr, hml, hown, hts, hlocks, hA, hN, hK⟩ := hC0
  intro H locs ls hP hD hS hl
  have hD0 : ∀ σ1 : ST, va_D A (wB a k σ1) := fun σ1 => wB_D hD
  replace hl : lv_has ls 5 [(0, .ref (a 0)), (1, .int p0), (2, .int p1)] := hl
  unfold f_X11_branches at h
  refine lv_iconst (v := 1) hx hb dX11_branches_0 (by decide) ?_
  refine lv_istore_n (lv' := [(3, .int 1), (0, .ref (a 0)), (1, .int p0), (2, .int p1)]) hx hb dX11_branches_1 rfl hl (by decide) rfl (fun ls hl => ?_)
  exact b_X11_branches_2 hC hr_X11_branches hr_X11_type FU _ _ _ _ _ _ h hκ _ _ _ hP hD hS (lv_sub hl [1, 2, 3, 0] rfl)


set_option maxRecDepth 100000 in
set_option maxHeartbeats 4000000 in
theorem b_X11_type_213 {p : Program} {l : Launch} {e : Env} {s : State} {m : MethodId} {args : Array Value} {below : List Frame} {meth : Method} {c : Code} {dC : Nat → ClassId} {dI : Nat → Nat → Nat} {a : Nat → Nat} {k : Nat → ClassId} {A : Nat → Prop} {q : Int32 × ST} {T r κ : Nat} (hC : CxB p s m args meth c dC dI k A cX11_type RX11 (some .int) 6) {nn : Nat} {r_X11_branches : Int32 → Int32 → ST → Option ((Int32 × ST) × Nat)} (hr_X11_branches : ∀ {sz : Nat} {p0 : Int32} {p1 : Int32} {σ : ST} {q : Int32 × ST} {r : Nat}, r_X11_branches  p0 p1 σ = some (q, r) → Met l yX11_branches (.code yX11_branches cX11_branches 5 (some .boolean) :: pw) ({ frames := 5 + nn, cells := r, slots := 6 * r, locals := 108 + 25 * nn } : Room) (va_Pc [.ref (a 0), .int p0, .int p1] (vPre dC dI (wB a k σ) (tB k) sz)) (qBi dC dI a k (va_A (wB a k σ) sz) q) r (6 * r) (va_A (wB a k σ) sz)) {r_X11_type : Int32 → Int32 → ST → Option ((Int32 × ST) × Nat)} (hr_X11_type : ∀ {sz : Nat} {p0 : Int32} {p1 : Int32} {σ : ST} {q : Int32 × ST} {r : Nat}, r_X11_type  p0 p1 σ = some (q, r) → Met l yX11_type (.code yX11_type cX11_type 6 (some .int) :: pw) ({ frames := 5 + nn, cells := r, slots := 6 * r, locals := 108 + 25 * nn } : Room) (va_Pc [.ref (a 0), .int p0, .int p1] (vPre dC dI (wB a k σ) (tB k) sz)) (qBi dC dI a k (va_A (wB a k σ) sz) q) r (6 * r) (va_A (wB a k σ) sz))  {x5 : Int32} {σ : ST} (h : f_X11_type_213 r_X11_branches r_X11_type x5 σ = some (q, r)) (hκ : κ + r = T) : GkB p l e ({ frames := 5 + (nn + 1), cells := T, slots := 6 * T, locals := 108 + 25 * (nn + 1) } : Room) s m args below meth c (MQ below (qBi dC dI a k A q) args s T (6 * T) A) dC dI a k A 6 213 κ σ [(5, .int x5)] [] := by
  have hC0 := hC
  obtain ⟨hx, hb, hr, hml, hown, hts, hlocks, hA, hN, hK⟩ := hC0
  intro H locs ls hP hD hS hl
  have hD0 : ∀ σ1 : ST, va_D A (wB a k σ1) := fun σ1 => wB_D hD
  unfold f_X11_type_213 at h
  refine lv_iload hx hb dX11_type_213 (lv_at hl 0 rfl) ?_
  refine lv_goto (tgt := 219) hx hb dX11_type_215 (by decide) ?_
  obtain ⟨rfl, rfl⟩ := Prod.mk.inj (Option.some.inj h)
  subst hκ
  exact W.iret hx hb hr (fun t ht hW => ⟨⟨_, (), rfl, rfl, ⟨by rw [ht]; exact hP, va_K.moved hW.alike hK, hD⟩⟩, hS.F ht⟩) hS.2.2 dX11_type_219

set_option maxRecDepth 100000 in
set_option maxHeartbeats 4000000 in
theorem b_X11_type_78 {p : Program} {l : Launch} {e : Env} {s : State} {m : MethodId} {args : Array Value} {below : List Frame} {meth : Method} {c : Code} {dC : Nat → ClassId} {dI : Nat → Nat → Nat} {a : Nat → Nat} {k : Nat → ClassId} {A : Nat → Prop} {q : Int32 × ST} {T r κ : Nat} (hC : CxB p s m args meth c dC dI k A cX11_type RX11 (some .int) 6) {nn : Nat} {r_X11_branches : Int32 → Int32 → ST → Option ((Int32 × ST) × Nat)} (hr_X11_branches : ∀ {sz : Nat} {p0 : Int32} {p1 : Int32} {σ : ST} {q : Int32 × ST} {r : Nat}, r_X11_branches  p0 p1 σ = some (q, r) → Met l yX11_branches (.code yX11_branches cX11_branches 5 (some .boolean) :: pw) ({ frames := 5 + nn, cells := r, slots := 6 * r, locals := 108 + 25 * nn } : Room) (va_Pc [.ref (a 0), .int p0, .int p1] (vPre dC dI (wB a k σ) (tB k) sz)) (qBi dC dI a k (va_A (wB a k σ) sz) q) r (6 * r) (va_A (wB a k σ) sz)) {r_X11_type : Int32 → Int32 → ST → Option ((Int32 × ST) × Nat)} (hr_X11_type : ∀ {sz : Nat} {p0 : Int32} {p1 : Int32} {σ : ST} {q : Int32 × ST} {r : Nat}, r_X11_type  p0 p1 σ = some (q, r) → Met l yX11_type (.code yX11_type cX11_type 6 (some .int) :: pw) ({ frames := 5 + nn, cells := r, slots := 6 * r, locals := 108 + 25 * nn } : Room) (va_Pc [.ref (a 0), .int p0, .int p1] (vPre dC dI (wB a k σ) (tB k) sz)) (qBi dC dI a k (va_A (wB a k σ) sz) q) r (6 * r) (va_A (wB a k σ) sz))  {x1 : Int32} {x3 : Int32} {x4 : Int32} {σ : ST} (h : f_X11_type_78 r_X11_branches r_X11_type x1 x3 x4 σ = some (q, r)) (hκ : κ + r = T) : GkB p l e ({ frames := 5 + (nn + 1), cells := T, slots := 6 * T, locals := 108 + 25 * (nn + 1) } : Room) s m args below meth c (MQ below (qBi dC dI a k A q) args s T (6 * T) A) dC dI a k A 6 78 κ σ [(0, .ref (a 0)), (1, .int x1), (3, .int x3), (4, .int x4)] [] := by
  have hC0 := hC
  obtain ⟨hx, hb, hr, hml, hown, hts, hlocks, hA, hN, hK⟩ := hC0
  intro H locs ls hP hD hS hl
  have hD0 : ∀ σ1 : ST, va_D A (wB a k σ1) := fun σ1 => wB_D hD
  unfold f_X11_type_78 at h
  refine lv_iload hx hb dX11_type_78 (lv_at hl 3 rfl) ?_
  refine lv_if_le (tgt := 93) hx hb dX11_type_80 (by decide) (fun hc => ?_) (fun hc => ?_)
  · replace h := ip hc h
    refine lv_aload_n hx hb dX11_type_93 rfl (lv_at hl 0 rfl) ?_
    refine va_get (D := (dC, dI)) (ci := 11) (C := RX11) (T := TX11) (N := 95) hx hb hts inlX11 hown hK hP 0 gB_0 rfl 34 (by decide) (hts (.fieldLink RX11 318 "ShapeReaderModel" "types" "I") mw_31_20) (fun _ h9 => h9) rfl dX11_type_94 ?_
    refine lv_istore (lv' := [(5, .int (σ.1 0 34)), (0, .ref (a 0)), (1, .int x1), (3, .int x3), (4, .int x4)]) hx hb dX11_type_97 hl (by decide) rfl (fun ls hl => ?_)
    refine lv_aload_n hx hb dX11_type_99 rfl (lv_at hl 1 rfl) ?_
    refine lv_dup hx hb dX11_type_100 rfl ?_
    refine va_get (D := (dC, dI)) (ci := 11) (C := RX11) (T := TX11) (N := 95) hx hb hts inlX11 hown hK hP 0 gB_0 rfl 34 (by decide) (hts (.fieldLink RX11 318 "ShapeReaderModel" "types" "I") mw_31_20) (fun _ h9 => h9) rfl dX11_type_101 ?_
    refine lv_iconst (v := 1) hx hb dX11_type_104 (by decide) ?_
    refine lv_iadd hx hb dX11_type_105 ?_
    refine va_put (D := (dC, dI)) (ci := 11) (ty := .int) (C := RX11) (T := TX11) (N := 95) hx hb hts inlX11 tyX11 tyX11_ok nmX11 hown hK hP hD hS 0 gB_0 rfl 34 (by decide) (hts (.fieldLink RX11 318 "ShapeReaderModel" "types" "I") mw_31_20) (fun _ h9 => h9) rfl (by decide +kernel) rfl rfl (Nat.le_of_ble_eq_true rfl) dX11_type_106 (fun H locs hP hD hS => ?_)
    replace hP := uB_0_34 hP
    replace hD := hD0 ((stI σ 0 34 ((σ.1 0 34) + 1)))
    refine lv_aload_n hx hb dX11_type_109 rfl (lv_at hl 1 rfl) ?_
    refine va_get (D := (dC, dI)) (ci := 11) (C := RX11) (T := TX11) (N := 95) hx hb hts inlX11 hown hK hP 0 gB_0 rfl 14 (by decide) (hts (.fieldLink RX11 13 "ShapeReaderModel" "typeSort" "[I") mw_26_28) (fun _ h9 => h9) rfl dX11_type_110 ?_
    refine lv_iload hx hb dX11_type_113 (lv_at hl 0 rfl) ?_
    refine lv_iload_n hx hb dX11_type_115 rfl (lv_at hl 3 rfl) ?_
    obtain ⟨hg1, h⟩ := ig h
    refine va_iast hx hb hK hP hD hS 2 1 gB_2 yB_2 (vp_in_iff.mpr hg1) dX11_type_116 (fun H locs hP hD hS => ?_)
    replace hP := uB_2 hP
    replace hD := hD0 ((stI (stI σ 0 34 ((σ.1 0 34) + 1)) 2 (σ.1 0 34).toNatClampNeg x3))
    refine lv_aload_n hx hb dX11_type_117 rfl (lv_at hl 1 rfl) ?_
    refine va_get (D := (dC, dI)) (ci := 11) (C := RX11) (T := TX11) (N := 95) hx hb hts inlX11 hown hK hP 0 gB_0 rfl 16 (by decide) (hts (.fieldLink RX11 20 "ShapeReaderModel" "typeMany" "[I") mw_27_0) (fun _ h9 => h9) rfl dX11_type_118 ?_
    refine lv_iload hx hb dX11_type_121 (lv_at hl 0 rfl) ?_
    refine lv_iconst (v := 0) hx hb dX11_type_123 (by decide) ?_
    refine va_iast hx hb hK hP hD hS 4 3 gB_4 yB_4 (vp_in_iff.mpr hg1) dX11_type_124 (fun H locs hP hD hS => ?_)
    replace hP := uB_4 hP
    replace hD := hD0 ((stI (stI (stI σ 0 34 ((σ.1 0 34) + 1)) 2 (σ.1 0 34).toNatClampNeg x3) 4 (σ.1 0 34).toNatClampNeg 0))
    obtain ⟨z2, hs, h⟩ := ib h
    replace hs := Option.some.inj hs
    replace hP : va_P (dC, dI) vwCl (wB a k z2) H := by rw [← hs]; exact hP
    replace hD := hD0 z2
    clear hs
    refine lv_aload_n hx hb dX11_type_125 rfl (lv_at hl 1 rfl) ?_
    refine va_get (D := (dC, dI)) (ci := 11) (C := RX11) (T := TX11) (N := 95) hx hb hts inlX11 hown hK hP 0 gB_0 rfl 18 (by decide) (hts (.fieldLink RX11 26 "ShapeReaderModel" "typeName" "[J") mw_27_2) (fun _ h9 => h9) rfl dX11_type_126 ?_
    refine lv_iload hx hb dX11_type_129 (lv_at hl 0 rfl) ?_
    refine lv_aload_n hx hb dX11_type_131 rfl (lv_at hl 1 rfl) ?_
    refine va_get (D := (dC, dI)) (ci := 11) (C := RX11) (T := TX11) (N := 95) hx hb hts inlX11 hown hK hP 0 gB_0 rfl 7 (by decide) (hts (.fieldLink RX11 204 "ShapeReaderModel" "letters" "J") mw_29_4) (fun _ h9 => h9) rfl dX11_type_132 ?_
    refine va_last hx hb hK hP hD hS 6 5 gB_6 yB_6 (vp_in_iff.mpr hg1) dX11_type_135 (fun H locs hP hD hS => ?_)
    replace hP := uB_6 hP
    replace hD := hD0 ((stL z2 6 (σ.1 0 34).toNatClampNeg (z2.2.1 0 7)))
    refine lv_aload_n hx hb dX11_type_136 rfl (lv_at hl 1 rfl) ?_
    refine va_get (D := (dC, dI)) (ci := 11) (C := RX11) (T := TX11) (N := 95) hx hb hts inlX11 hown hK hP 0 gB_0 rfl 19 (by decide) (hts (.fieldLink RX11 30 "ShapeReaderModel" "typePlace" "[I") mw_27_3) (fun _ h9 => h9) rfl dX11_type_137 ?_
    refine lv_iload hx hb dX11_type_140 (lv_at hl 0 rfl) ?_
    refine lv_aload_n hx hb dX11_type_142 rfl (lv_at hl 1 rfl) ?_
    refine va_get (D := (dC, dI)) (ci := 11) (C := RX11) (T := TX11) (N := 95) hx hb hts inlX11 hown hK hP 0 gB_0 rfl 4 (by decide) (hts (.fieldLink RX11 250 "ShapeReaderModel" "at" "I") mw_29_25) (fun _ h9 => h9) rfl dX11_type_143 ?_
    refine va_iast hx hb hK hP hD hS 7 6 gB_7 yB_7 (vp_in_iff.mpr hg1) dX11_type_146 (fun H locs hP hD hS => ?_)
    replace hP := uB_7 hP
    replace hD := hD0 ((stI (stL z2 6 (σ.1 0 34).toNatClampNeg (z2.2.1 0 7)) 7 (σ.1 0 34).toNatClampNeg ((stL z2 6 (σ.1 0 34).toNatClampNeg (z2.2.1 0 7)).1 0 4)))
    obtain ⟨z3, hs, h⟩ := ib h
    replace hs := Option.some.inj hs
    replace hP : va_P (dC, dI) vwCl (wB a k z3) H := by rw [← hs]; exact hP
    replace hD := hD0 z3
    clear hs
    refine lv_aload_n hx hb dX11_type_147 rfl (lv_at hl 1 rfl) ?_
    refine va_get (D := (dC, dI)) (ci := 11) (C := RX11) (T := TX11) (N := 95) hx hb hts inlX11 hown hK hP 0 gB_0 rfl 15 (by decide) (hts (.fieldLink RX11 17 "ShapeReaderModel" "typeArg" "[I") mw_26_29) (fun _ h9 => h9) rfl dX11_type_148 ?_
    refine lv_iload hx hb dX11_type_151 (lv_at hl 0 rfl) ?_
    refine lv_iconst (v := (-1)) hx hb dX11_type_153 (by decide) ?_
    refine va_iast hx hb hK hP hD hS 3 2 gB_3 yB_3 (vp_in_iff.mpr hg1) dX11_type_154 (fun H locs hP hD hS => ?_)
    replace hP := uB_3 hP
    replace hD := hD0 ((stI z3 3 (σ.1 0 34).toNatClampNeg (-1)))
    refine lv_aload_n hx hb dX11_type_155 rfl (lv_at hl 1 rfl) ?_
    obtain ⟨q4, hc, h⟩ := ib h
    have hF := va_frees hD hS hA
    refine va_callv (va_runV (As := []) (rest := []) ⟨hx, hb, hml, hown, hts⟩ (s_X11_go hc) (cwV 0 hts (gV mw_30_12 mw_30_13 mw_30_14 mw_0_15 mw_54_6) rfl rfl rfl (by decide +kernel) ⟨by show 4 + 1 ≤ 5 + (nn + 1); omega, by show 8 + (2 + 11) + 87 ≤ 108 + 25 * (nn + 1); omega⟩) (vV (ci := 11) (q0 := 0) hK hP hD hN rfl gB_0) rfl rfl hl.1 rfl (lv_room (Nat.le_of_ble_eq_true rfl)) dX11_type_156 ⟨by show κ + 0 ≤ T; omega, by show 6 * κ + 0 ≤ 6 * T; omega⟩) hS (fun q _ h => hF q h) hF (fun u t H locs ht hvm hw hB _ _ hS => ?_)
    replace hP : va_P (dC, dI) vwCl (wB a k q4) H := by rw [← ht]; exact hB.1
    replace hD := hD0 (q4)
    clear hB hF
    refine lv_iload_n hx hb dX11_type_159 rfl (lv_at hl 3 rfl) ?_
    refine lv_bipush (v := 6) hx hb dX11_type_160 (by decide) ?_
    refine lv_icmp_ne (tgt := 197) hx hb dX11_type_162 (by decide) (fun hc => ?_) (fun hc => ?_)
    · replace h := iq hc h
      refine lv_iload_n hx hb dX11_type_197 rfl (lv_at hl 3 rfl) ?_
      refine lv_bipush (v := 8) hx hb dX11_type_198 (by decide) ?_
      refine lv_icmp_ne (tgt := 213) hx hb dX11_type_200 (by decide) (fun hc => ?_) (fun hc => ?_)
      · replace h := iq hc h
        exact b_X11_type_213 hC hr_X11_branches hr_X11_type h hκ _ _ _ hP hD hS (lv_sub hl [0] rfl)
      · replace h := ip hc h
        refine lv_aload_n hx hb dX11_type_203 rfl (lv_at hl 1 rfl) ?_
        refine lv_iload hx hb dX11_type_204 (lv_at hl 0 rfl) ?_
        refine lv_iload_n hx hb dX11_type_206 rfl (lv_at hl 2 rfl) ?_
        obtain ⟨q6, hc, h⟩ := ib h
        obtain ⟨r2, h, hz⟩ := acE h
        have hF := va_frees hD hS hA
        refine va_calli (va_runV (As := [.int (σ.1 0 34), .int x1]) (rest := []) ⟨hx, hb, hml, hown, hts⟩ (hr_X11_branches (q := q6.1) (r := q6.2) hc) (cwV 2 hts (gV mw_31_24 mw_31_25 mw_31_26 mw_0_15 mw_54_23) rfl rfl rfl (by decide +kernel) ⟨by show (5 + nn) + 1 ≤ 5 + (nn + 1); omega, by show 8 + (5 + 11) + (108 + 25 * nn) ≤ 108 + 25 * (nn + 1); omega⟩) (vV (ci := 11) (q0 := 0) hK hP hD hN rfl gB_0) rfl rfl hl.1 rfl (lv_room (Nat.le_of_ble_eq_true rfl)) dX11_type_207 ⟨by show κ + q6.2 ≤ T; omega, by show 6 * κ + 6 * q6.2 ≤ 6 * T; omega⟩) hS (fun q _ h => hF q h) hF (fun r7 u t H locs ht hvm hw hB _ _ hS => ?_)
        obtain rfl : r7 = q6.1.1 := hw
        replace hκ : (κ + q6.2) + r2 = T := by omega
        clear hz
        refine W.widen (k := (κ + q6.2)) (n := 6 * (κ + q6.2)) (Nat.le_refl _) (by omega) ?_
        replace hP : va_P (dC, dI) vwCl (wB a k q6.1.2) H := by rw [← ht]; exact hB.1
        replace hD := hD0 (q6.1.2)
        clear hB hF
        refine lv_if_eq (tgt := 218) hx hb dX11_type_210 (by decide) (fun hc => ?_) (fun hc => ?_)
        · replace h := ip hc h
          refine lv_iconst (v := (-1)) hx hb dX11_type_218 (by decide) ?_
          obtain ⟨rfl, rfl⟩ := Prod.mk.inj (Option.some.inj h)
          subst hκ
          exact W.iret hx hb hr (fun t ht hW => ⟨⟨_, (), rfl, rfl, ⟨by rw [ht]; exact hP, va_K.moved hW.alike hK, hD⟩⟩, hS.F ht⟩) hS.2.2 dX11_type_219
        · replace h := iq hc h
          exact b_X11_type_213 hC hr_X11_branches hr_X11_type h hκ _ _ _ hP hD hS (lv_sub hl [0] rfl)
    · replace h := ip hc h
      refine lv_aload_n hx hb dX11_type_165 rfl (lv_at hl 1 rfl) ?_
      refine va_get (D := (dC, dI)) (ci := 11) (C := RX11) (T := TX11) (N := 95) hx hb hts inlX11 hown hK hP 0 gB_0 rfl 15 (by decide) (hts (.fieldLink RX11 17 "ShapeReaderModel" "typeArg" "[I") mw_26_29) (fun _ h9 => h9) rfl dX11_type_166 ?_
      refine lv_iload hx hb dX11_type_169 (lv_at hl 0 rfl) ?_
      refine lv_aload_n hx hb dX11_type_171 rfl (lv_at hl 1 rfl) ?_
      refine lv_iload_n hx hb dX11_type_172 rfl (lv_at hl 2 rfl) ?_
      refine lv_iconst (v := 1) hx hb dX11_type_173 (by decide) ?_
      refine lv_iadd hx hb dX11_type_174 ?_
      refine lv_iconst (v := (-1)) hx hb dX11_type_175 (by decide) ?_
      obtain ⟨q8, hc, h⟩ := ib h
      obtain ⟨r2, h, hz⟩ := acE h
      have hF := va_frees hD hS hA
      refine va_calli (va_runV (As := [.int (x1 + 1), .int (-1)]) (rest := [.int (σ.1 0 34), .ref (a 3)]) ⟨hx, hb, hml, hown, hts⟩ (hr_X11_type (q := q8.1) (r := q8.2) hc) (cwV 2 hts (gV mw_31_21 mw_31_22 mw_31_23 mw_0_15 mw_54_22) rfl rfl rfl (by decide +kernel) ⟨by show (5 + nn) + 1 ≤ 5 + (nn + 1); omega, by show 8 + (6 + 11) + (108 + 25 * nn) ≤ 108 + 25 * (nn + 1); omega⟩) (vV (ci := 11) (q0 := 0) hK hP hD hN rfl gB_0) rfl rfl hl.1 rfl (lv_room (Nat.le_of_ble_eq_true rfl)) dX11_type_176 ⟨by show κ + q8.2 ≤ T; omega, by show 6 * κ + 6 * q8.2 ≤ 6 * T; omega⟩) hS (fun q _ h => hF q h) hF (fun r9 u t H locs ht hvm hw hB _ _ hS => ?_)
      obtain rfl : r9 = q8.1.1 := hw
      replace hκ : (κ + q8.2) + r2 = T := by omega
      clear hz
      refine W.widen (k := (κ + q8.2)) (n := 6 * (κ + q8.2)) (Nat.le_refl _) (by omega) ?_
      replace hP : va_P (dC, dI) vwCl (wB a k q8.1.2) H := by rw [← ht]; exact hB.1
      replace hD := hD0 (q8.1.2)
      clear hB hF
      refine va_iast hx hb hK hP hD hS 3 2 gB_3 yB_3 (vp_in_iff.mpr hg1) dX11_type_179 (fun H locs hP hD hS => ?_)
      replace hP := uB_3 hP
      replace hD := hD0 ((stI q8.1.2 3 (σ.1 0 34).toNatClampNeg q8.1.1))
      refine lv_aload_n hx hb dX11_type_180 rfl (lv_at hl 1 rfl) ?_
      refine va_get (D := (dC, dI)) (ci := 11) (C := RX11) (T := TX11) (N := 95) hx hb hts inlX11 hown hK hP 0 gB_0 rfl 15 (by decide) (hts (.fieldLink RX11 17 "ShapeReaderModel" "typeArg" "[I") mw_26_29) (fun _ h9 => h9) rfl dX11_type_181 ?_
      refine lv_iload hx hb dX11_type_184 (lv_at hl 0 rfl) ?_
      refine va_iald hx hb hK hP 3 2 gB_3 yB_3 (vp_in_iff.mpr hg1) dX11_type_186 ?_
      refine lv_if_ge (tgt := 194) hx hb dX11_type_187 (by decide) (fun hc => ?_) (fun hc => ?_)
      · replace h := ip hc h
        refine lv_iload hx hb dX11_type_194 (lv_at hl 0 rfl) ?_
        obtain ⟨rfl, rfl⟩ := Prod.mk.inj (Option.some.inj h)
        subst hκ
        exact W.iret hx hb hr (fun t ht hW => ⟨⟨_, (), rfl, rfl, ⟨by rw [ht]; exact hP, va_K.moved hW.alike hK, hD⟩⟩, hS.F ht⟩) hS.2.2 dX11_type_196
      · replace h := iq hc h
        refine lv_iconst (v := (-1)) hx hb dX11_type_190 (by decide) ?_
        refine lv_goto (tgt := 196) hx hb dX11_type_191 (by decide) ?_
        obtain ⟨rfl, rfl⟩ := Prod.mk.inj (Option.some.inj h)
        subst hκ
        exact W.iret hx hb hr (fun t ht hW => ⟨⟨_, (), rfl, rfl, ⟨by rw [ht]; exact hP, va_K.moved hW.alike hK, hD⟩⟩, hS.F ht⟩) hS.2.2 dX11_type_196
  · replace h := iq hc h
    refine lv_aload_n hx hb dX11_type_83 rfl (lv_at hl 0 rfl) ?_
    refine lv_iload hx hb dX11_type_84 (lv_at hl 3 rfl) ?_
    obtain ⟨q10, hc, h⟩ := ib h
    have hF := va_frees hD hS hA
    refine va_calli (va_runV (As := [.int x4]) (rest := []) ⟨hx, hb, hml, hown, hts⟩ (s_X11_wrongHere hc) (cwV 1 hts (gV mw_30_9 mw_30_10 mw_30_11 mw_0_15 mw_54_10) rfl rfl rfl (by decide +kernel) ⟨by show 1 + 1 ≤ 5 + (nn + 1); omega, by show 8 + (2 + 11) + 22 ≤ 108 + 25 * (nn + 1); omega⟩) (vV (ci := 11) (q0 := 0) hK hP hD hN rfl gB_0) rfl rfl hl.1 rfl (lv_room (Nat.le_of_ble_eq_true rfl)) dX11_type_86 ⟨by show κ + 0 ≤ T; omega, by show 6 * κ + 0 ≤ 6 * T; omega⟩) hS (fun q _ h => hF q h) hF (fun r11 u t H locs ht hvm hw hB _ _ hS => ?_)
    obtain rfl : r11 = q10.1 := hw
    replace hP : va_P (dC, dI) vwCl (wB a k q10.2) H := by rw [← ht]; exact hB.1
    replace hD := hD0 (q10.2)
    clear hB hF
    refine lv_istore (lv' := [(5, .int q10.1), (0, .ref (a 0)), (1, .int x1), (3, .int x3), (4, .int x4)]) hx hb dX11_type_89 hl (by decide) rfl (fun ls hl => ?_)
    refine lv_iconst (v := (-1)) hx hb dX11_type_91 (by decide) ?_
    obtain ⟨rfl, rfl⟩ := Prod.mk.inj (Option.some.inj h)
    subst hκ
    exact W.iret hx hb hr (fun t ht hW => ⟨⟨_, (), rfl, rfl, ⟨by rw [ht]; exact hP, va_K.moved hW.alike hK, hD⟩⟩, hS.F ht⟩) hS.2.2 dX11_type_92

set_option maxRecDepth 100000 in
set_option maxHeartbeats 4000000 in
theorem b_X11_type_75 {p : Program} {l : Launch} {e : Env} {s : State} {m : MethodId} {args : Array Value} {below : List Frame} {meth : Method} {c : Code} {dC : Nat → ClassId} {dI : Nat → Nat → Nat} {a : Nat → Nat} {k : Nat → ClassId} {A : Nat → Prop} {q : Int32 × ST} {T r κ : Nat} (hC : CxB p s m args meth c dC dI k A cX11_type RX11 (some .int) 6) {nn : Nat} {r_X11_branches : Int32 → Int32 → ST → Option ((Int32 × ST) × Nat)} (hr_X11_branches : ∀ {sz : Nat} {p0 : Int32} {p1 : Int32} {σ : ST} {q : Int32 × ST} {r : Nat}, r_X11_branches  p0 p1 σ = some (q, r) → Met l yX11_branches (.code yX11_branches cX11_branches 5 (some .boolean) :: pw) ({ frames := 5 + nn, cells := r, slots := 6 * r, locals := 108 + 25 * nn } : Room) (va_Pc [.ref (a 0), .int p0, .int p1] (vPre dC dI (wB a k σ) (tB k) sz)) (qBi dC dI a k (va_A (wB a k σ) sz) q) r (6 * r) (va_A (wB a k σ) sz)) {r_X11_type : Int32 → Int32 → ST → Option ((Int32 × ST) × Nat)} (hr_X11_type : ∀ {sz : Nat} {p0 : Int32} {p1 : Int32} {σ : ST} {q : Int32 × ST} {r : Nat}, r_X11_type  p0 p1 σ = some (q, r) → Met l yX11_type (.code yX11_type cX11_type 6 (some .int) :: pw) ({ frames := 5 + nn, cells := r, slots := 6 * r, locals := 108 + 25 * nn } : Room) (va_Pc [.ref (a 0), .int p0, .int p1] (vPre dC dI (wB a k σ) (tB k) sz)) (qBi dC dI a k (va_A (wB a k σ) sz) q) r (6 * r) (va_A (wB a k σ) sz))  {x1 : Int32} {x3 : Int32} {σ : ST} (h : f_X11_type_75 r_X11_branches r_X11_type x1 x3 σ = some (q, r)) (hκ : κ + r = T) : GkB p l e ({ frames := 5 + (nn + 1), cells := T, slots := 6 * T, locals := 108 + 25 * (nn + 1) } : Room) s m args below meth c (MQ below (qBi dC dI a k A q) args s T (6 * T) A) dC dI a k A 6 75 κ σ [(0, .ref (a 0)), (1, .int x1), (3, .int x3)] [] := by
  have hC0 := hC
  obtain ⟨hx, hb, hr, hml, hown, hts, hlocks, hA, hN, hK⟩ := hC0
  intro H locs ls hP hD hS hl
  have hD0 : ∀ σ1 : ST, va_D A (wB a k σ1) := fun σ1 => wB_D hD
  unfold f_X11_type_75 at h
  refine lv_iconst (v := 5) hx hb dX11_type_75 (by decide) ?_
  refine lv_istore (lv' := [(4, .int 5), (0, .ref (a 0)), (1, .int x1), (3, .int x3)]) hx hb dX11_type_76 hl (by decide) rfl (fun ls hl => ?_)
  exact b_X11_type_78 hC hr_X11_branches hr_X11_type h hκ _ _ _ hP hD hS (lv_sub hl [1, 2, 3, 0] rfl)

set_option maxRecDepth 100000 in
set_option maxHeartbeats 4000000 in
theorem b_X11_type_49 {p : Program} {l : Launch} {e : Env} {s : State} {m : MethodId} {args : Array Value} {below : List Frame} {meth : Method} {c : Code} {dC : Nat → ClassId} {dI : Nat → Nat → Nat} {a : Nat → Nat} {k : Nat → ClassId} {A : Nat → Prop} {q : Int32 × ST} {T r κ : Nat} (hC : CxB p s m args meth c dC dI k A cX11_type RX11 (some .int) 6) {nn : Nat} {r_X11_branches : Int32 → Int32 → ST → Option ((Int32 × ST) × Nat)} (hr_X11_branches : ∀ {sz : Nat} {p0 : Int32} {p1 : Int32} {σ : ST} {q : Int32 × ST} {r : Nat}, r_X11_branches  p0 p1 σ = some (q, r) → Met l yX11_branches (.code yX11_branches cX11_branches 5 (some .boolean) :: pw) ({ frames := 5 + nn, cells := r, slots := 6 * r, locals := 108 + 25 * nn } : Room) (va_Pc [.ref (a 0), .int p0, .int p1] (vPre dC dI (wB a k σ) (tB k) sz)) (qBi dC dI a k (va_A (wB a k σ) sz) q) r (6 * r) (va_A (wB a k σ) sz)) {r_X11_type : Int32 → Int32 → ST → Option ((Int32 × ST) × Nat)} (hr_X11_type : ∀ {sz : Nat} {p0 : Int32} {p1 : Int32} {σ : ST} {q : Int32 × ST} {r : Nat}, r_X11_type  p0 p1 σ = some (q, r) → Met l yX11_type (.code yX11_type cX11_type 6 (some .int) :: pw) ({ frames := 5 + nn, cells := r, slots := 6 * r, locals := 108 + 25 * nn } : Room) (va_Pc [.ref (a 0), .int p0, .int p1] (vPre dC dI (wB a k σ) (tB k) sz)) (qBi dC dI a k (va_A (wB a k σ) sz) q) r (6 * r) (va_A (wB a k σ) sz))  {x1 : Int32} {x2 : Int32} {x3 : Int32} {y0 : Int32} {σ : ST} (h : f_X11_type_49 r_X11_branches r_X11_type x1 x2 x3 y0 σ = some (q, r)) (hκ : κ + r = T) : GkB p l e ({ frames := 5 + (nn + 1), cells := T, slots := 6 * T, locals := 108 + 25 * (nn + 1) } : Room) s m args below meth c (MQ below (qBi dC dI a k A q) args s T (6 * T) A) dC dI a k A 6 49 κ σ [(0, .ref (a 0)), (1, .int x1), (2, .int x2), (3, .int x3)] [.int y0] := by
  have hC0 := hC
  obtain ⟨hx, hb, hr, hml, hown, hts, hlocks, hA, hN, hK⟩ := hC0
  intro H locs ls hP hD hS hl
  have hD0 : ∀ σ1 : ST, va_D A (wB a k σ1) := fun σ1 => wB_D hD
  unfold f_X11_type_49 at h
  refine lv_istore (lv' := [(4, .int y0), (0, .ref (a 0)), (1, .int x1), (2, .int x2), (3, .int x3)]) hx hb dX11_type_49 hl (by decide) rfl (fun ls hl => ?_)
  refine lv_iload hx hb dX11_type_51 (lv_at hl 0 rfl) ?_
  refine lv_if_ne (tgt := 78) hx hb dX11_type_53 (by decide) (fun hc => ?_) (fun hc => ?_)
  · replace h := iq hc h
    exact b_X11_type_78 hC hr_X11_branches hr_X11_type h hκ _ _ _ hP hD hS (lv_sub hl [1, 2, 4, 0] rfl)
  · replace h := ip hc h
    refine lv_iload_n hx hb dX11_type_56 rfl (lv_at hl 3 rfl) ?_
    refine lv_if_lt (tgt := 78) hx hb dX11_type_57 (by decide) (fun hc => ?_) (fun hc => ?_)
    · replace h := ip hc h
      exact b_X11_type_78 hC hr_X11_branches hr_X11_type h hκ _ _ _ hP hD hS (lv_sub hl [1, 2, 4, 0] rfl)
    · replace h := iq hc h
      refine lv_iload_n hx hb dX11_type_60 rfl (lv_at hl 4 rfl) ?_
      refine lv_bipush (v := 8) hx hb dX11_type_61 (by decide) ?_
      refine lv_icmp_eq (tgt := 75) hx hb dX11_type_63 (by decide) (fun hc => ?_) (fun hc => ?_)
      · replace h := ip hc h
        exact b_X11_type_75 hC hr_X11_branches hr_X11_type h hκ _ _ _ hP hD hS (lv_sub hl [1, 2, 4] rfl)
      · replace h := iq hc h
        refine lv_aload_n hx hb dX11_type_66 rfl (lv_at hl 1 rfl) ?_
        refine lv_iload_n hx hb dX11_type_67 rfl (lv_at hl 3 rfl) ?_
        refine lv_iload_n hx hb dX11_type_68 rfl (lv_at hl 4 rfl) ?_
        obtain ⟨q1, hc, h⟩ := ib h
        have hF := va_frees hD hS hA
        refine va_calli (va_runV (As := [.int x2, .int x3]) (rest := []) ⟨hx, hb, hml, hown, hts⟩ (s_X11_isAsked hc) (cwV 2 hts (gV mw_31_17 mw_31_18 mw_31_19 mw_0_15 mw_54_21) rfl rfl rfl (by decide +kernel) ⟨by show 0 + 1 ≤ 5 + (nn + 1); omega, by show 8 + (5 + 11) + 0 ≤ 108 + 25 * (nn + 1); omega⟩) (vV (ci := 11) (q0 := 0) hK hP hD hN rfl gB_0) rfl rfl hl.1 rfl (lv_room (Nat.le_of_ble_eq_true rfl)) dX11_type_69 ⟨by show κ + 0 ≤ T; omega, by show 6 * κ + 0 ≤ 6 * T; omega⟩) hS (fun q _ h => hF q h) hF (fun r2 u t H locs ht hvm hw hB _ _ hS => ?_)
        obtain rfl : r2 = q1.1 := hw
        replace hP : va_P (dC, dI) vwCl (wB a k q1.2) H := by rw [← ht]; exact hB.1
        replace hD := hD0 (q1.2)
        clear hB hF
        refine lv_if_eq (tgt := 78) hx hb dX11_type_72 (by decide) (fun hc => ?_) (fun hc => ?_)
        · replace h := ip hc h
          exact b_X11_type_78 hC hr_X11_branches hr_X11_type h hκ _ _ _ hP hD hS (lv_sub hl [1, 2, 4, 0] rfl)
        · replace h := iq hc h
          exact b_X11_type_75 hC hr_X11_branches hr_X11_type h hκ _ _ _ hP hD hS (lv_sub hl [1, 2, 4] rfl)

set_option maxRecDepth 100000 in
set_option maxHeartbeats 4000000 in
theorem b_X11_type_44 {p : Program} {l : Launch} {e : Env} {s : State} {m : MethodId} {args : Array Value} {below : List Frame} {meth : Method} {c : Code} {dC : Nat → ClassId} {dI : Nat → Nat → Nat} {a : Nat → Nat} {k : Nat → ClassId} {A : Nat → Prop} {q : Int32 × ST} {T r κ : Nat} (hC : CxB p s m args meth c dC dI k A cX11_type RX11 (some .int) 6) {nn : Nat} {r_X11_branches : Int32 → Int32 → ST → Option ((Int32 × ST) × Nat)} (hr_X11_branches : ∀ {sz : Nat} {p0 : Int32} {p1 : Int32} {σ : ST} {q : Int32 × ST} {r : Nat}, r_X11_branches  p0 p1 σ = some (q, r) → Met l yX11_branches (.code yX11_branches cX11_branches 5 (some .boolean) :: pw) ({ frames := 5 + nn, cells := r, slots := 6 * r, locals := 108 + 25 * nn } : Room) (va_Pc [.ref (a 0), .int p0, .int p1] (vPre dC dI (wB a k σ) (tB k) sz)) (qBi dC dI a k (va_A (wB a k σ) sz) q) r (6 * r) (va_A (wB a k σ) sz)) {r_X11_type : Int32 → Int32 → ST → Option ((Int32 × ST) × Nat)} (hr_X11_type : ∀ {sz : Nat} {p0 : Int32} {p1 : Int32} {σ : ST} {q : Int32 × ST} {r : Nat}, r_X11_type  p0 p1 σ = some (q, r) → Met l yX11_type (.code yX11_type cX11_type 6 (some .int) :: pw) ({ frames := 5 + nn, cells := r, slots := 6 * r, locals := 108 + 25 * nn } : Room) (va_Pc [.ref (a 0), .int p0, .int p1] (vPre dC dI (wB a k σ) (tB k) sz)) (qBi dC dI a k (va_A (wB a k σ) sz) q) r (6 * r) (va_A (wB a k σ) sz))  {x1 : Int32} {x2 : Int32} {x3 : Int32} {σ : ST} (h : f_X11_type_44 r_X11_branches r_X11_type x1 x2 x3 σ = some (q, r)) (hκ : κ + r = T) : GkB p l e ({ frames := 5 + (nn + 1), cells := T, slots := 6 * T, locals := 108 + 25 * (nn + 1) } : Room) s m args below meth c (MQ below (qBi dC dI a k A q) args s T (6 * T) A) dC dI a k A 6 44 κ σ [(0, .ref (a 0)), (1, .int x1), (2, .int x2), (3, .int x3)] [] := by
  have hC0 := hC
  obtain ⟨hx, hb, hr, hml, hown, hts, hlocks, hA, hN, hK⟩ := hC0
  intro H locs ls hP hD hS hl
  have hD0 : ∀ σ1 : ST, va_D A (wB a k σ1) := fun σ1 => wB_D hD
  unfold f_X11_type_44 at h
  refine lv_iconst (v := 4) hx hb dX11_type_44 (by decide) ?_
  refine lv_goto (tgt := 49) hx hb dX11_type_45 (by decide) ?_
  exact b_X11_type_49 hC hr_X11_branches hr_X11_type h hκ _ _ _ hP hD hS (lv_sub hl [0, 1, 2, 3] rfl)

set_option maxRecDepth 100000 in
set_option maxHeartbeats 4000000 in
theorem b_X11_type_48 {p : Program} {l : Launch} {e : Env} {s : State} {m : MethodId} {args : Array Value} {below : List Frame} {meth : Method} {c : Code} {dC : Nat → ClassId} {dI : Nat → Nat → Nat} {a : Nat → Nat} {k : Nat → ClassId} {A : Nat → Prop} {q : Int32 × ST} {T r κ : Nat} (hC : CxB p s m args meth c dC dI k A cX11_type RX11 (some .int) 6) {nn : Nat} {r_X11_branches : Int32 → Int32 → ST → Option ((Int32 × ST) × Nat)} (hr_X11_branches : ∀ {sz : Nat} {p0 : Int32} {p1 : Int32} {σ : ST} {q : Int32 × ST} {r : Nat}, r_X11_branches  p0 p1 σ = some (q, r) → Met l yX11_branches (.code yX11_branches cX11_branches 5 (some .boolean) :: pw) ({ frames := 5 + nn, cells := r, slots := 6 * r, locals := 108 + 25 * nn } : Room) (va_Pc [.ref (a 0), .int p0, .int p1] (vPre dC dI (wB a k σ) (tB k) sz)) (qBi dC dI a k (va_A (wB a k σ) sz) q) r (6 * r) (va_A (wB a k σ) sz)) {r_X11_type : Int32 → Int32 → ST → Option ((Int32 × ST) × Nat)} (hr_X11_type : ∀ {sz : Nat} {p0 : Int32} {p1 : Int32} {σ : ST} {q : Int32 × ST} {r : Nat}, r_X11_type  p0 p1 σ = some (q, r) → Met l yX11_type (.code yX11_type cX11_type 6 (some .int) :: pw) ({ frames := 5 + nn, cells := r, slots := 6 * r, locals := 108 + 25 * nn } : Room) (va_Pc [.ref (a 0), .int p0, .int p1] (vPre dC dI (wB a k σ) (tB k) sz)) (qBi dC dI a k (va_A (wB a k σ) sz) q) r (6 * r) (va_A (wB a k σ) sz))  {x1 : Int32} {x2 : Int32} {x3 : Int32} {σ : ST} (h : f_X11_type_48 r_X11_branches r_X11_type x1 x2 x3 σ = some (q, r)) (hκ : κ + r = T) : GkB p l e ({ frames := 5 + (nn + 1), cells := T, slots := 6 * T, locals := 108 + 25 * (nn + 1) } : Room) s m args below meth c (MQ below (qBi dC dI a k A q) args s T (6 * T) A) dC dI a k A 6 48 κ σ [(0, .ref (a 0)), (1, .int x1), (2, .int x2), (3, .int x3)] [] := by
  have hC0 := hC
  obtain ⟨hx, hb, hr, hml, hown, hts, hlocks, hA, hN, hK⟩ := hC0
  intro H locs ls hP hD hS hl
  have hD0 : ∀ σ1 : ST, va_D A (wB a k σ1) := fun σ1 => wB_D hD
  unfold f_X11_type_48 at h
  refine lv_iconst (v := 0) hx hb dX11_type_48 (by decide) ?_
  exact b_X11_type_49 hC hr_X11_branches hr_X11_type h hκ _ _ _ hP hD hS (lv_sub hl [0, 1, 2, 3] rfl)

set_option maxRecDepth 100000 in
set_option maxHeartbeats 4000000 in
theorem b_X11_type_16 {p : Program} {l : Launch} {e : Env} {s : State} {m : MethodId} {args : Array Value} {below : List Frame} {meth : Method} {c : Code} {dC : Nat → ClassId} {dI : Nat → Nat → Nat} {a : Nat → Nat} {k : Nat → ClassId} {A : Nat → Prop} {q : Int32 × ST} {T r κ : Nat} (hC : CxB p s m args meth c dC dI k A cX11_type RX11 (some .int) 6) {nn : Nat} {r_X11_branches : Int32 → Int32 → ST → Option ((Int32 × ST) × Nat)} (hr_X11_branches : ∀ {sz : Nat} {p0 : Int32} {p1 : Int32} {σ : ST} {q : Int32 × ST} {r : Nat}, r_X11_branches  p0 p1 σ = some (q, r) → Met l yX11_branches (.code yX11_branches cX11_branches 5 (some .boolean) :: pw) ({ frames := 5 + nn, cells := r, slots := 6 * r, locals := 108 + 25 * nn } : Room) (va_Pc [.ref (a 0), .int p0, .int p1] (vPre dC dI (wB a k σ) (tB k) sz)) (qBi dC dI a k (va_A (wB a k σ) sz) q) r (6 * r) (va_A (wB a k σ) sz)) {r_X11_type : Int32 → Int32 → ST → Option ((Int32 × ST) × Nat)} (hr_X11_type : ∀ {sz : Nat} {p0 : Int32} {p1 : Int32} {σ : ST} {q : Int32 × ST} {r : Nat}, r_X11_type  p0 p1 σ = some (q, r) → Met l yX11_type (.code yX11_type cX11_type 6 (some .int) :: pw) ({ frames := 5 + nn, cells := r, slots := 6 * r, locals := 108 + 25 * nn } : Room) (va_Pc [.ref (a 0), .int p0, .int p1] (vPre dC dI (wB a k σ) (tB k) sz)) (qBi dC dI a k (va_A (wB a k σ) sz) q) r (6 * r) (va_A (wB a k σ) sz))  {x1 : Int32} {x2 : Int32} {y0 : Int32} {σ : ST} (h : f_X11_type_16 r_X11_branches r_X11_type x1 x2 y0 σ = some (q, r)) (hκ : κ + r = T) : GkB p l e ({ frames := 5 + (nn + 1), cells := T, slots := 6 * T, locals := 108 + 25 * (nn + 1) } : Room) s m args below meth c (MQ below (qBi dC dI a k A q) args s T (6 * T) A) dC dI a k A 6 16 κ σ [(0, .ref (a 0)), (1, .int x1), (2, .int x2)] [.int y0] := by
  have hC0 := hC
  obtain ⟨hx, hb, hr, hml, hown, hts, hlocks, hA, hN, hK⟩ := hC0
  intro H locs ls hP hD hS hl
  have hD0 : ∀ σ1 : ST, va_D A (wB a k σ1) := fun σ1 => wB_D hD
  unfold f_X11_type_16 at h
  refine lv_istore_n (lv' := [(3, .int y0), (0, .ref (a 0)), (1, .int x1), (2, .int x2)]) hx hb dX11_type_16 rfl hl (by decide) rfl (fun ls hl => ?_)
  refine lv_iload_n hx hb dX11_type_17 rfl (lv_at hl 0 rfl) ?_
  refine lv_if_ge (tgt := 25) hx hb dX11_type_18 (by decide) (fun hc => ?_) (fun hc => ?_)
  · replace h := ip hc h
    refine lv_iload_n hx hb dX11_type_25 rfl (lv_at hl 2 rfl) ?_
    refine lv_iconst (v := 4) hx hb dX11_type_26 (by decide) ?_
    refine lv_icmp_ge (tgt := 44) hx hb dX11_type_27 (by decide) (fun hc => ?_) (fun hc => ?_)
    · replace h := ip hc h
      exact b_X11_type_44 hC hr_X11_branches hr_X11_type h hκ _ _ _ hP hD hS (lv_sub hl [1, 2, 3, 0] rfl)
    · replace h := iq hc h
      refine lv_iload_n hx hb dX11_type_30 rfl (lv_at hl 3 rfl) ?_
      refine lv_if_lt (tgt := 48) hx hb dX11_type_31 (by decide) (fun hc => ?_) (fun hc => ?_)
      · replace h := ip hc h
        exact b_X11_type_48 hC hr_X11_branches hr_X11_type h hκ _ _ _ hP hD hS (lv_sub hl [1, 2, 3, 0] rfl)
      · replace h := iq hc h
        refine lv_aload_n hx hb dX11_type_34 rfl (lv_at hl 1 rfl) ?_
        refine va_get (D := (dC, dI)) (ci := 11) (C := RX11) (T := TX11) (N := 95) hx hb hts inlX11 hown hK hP 0 gB_0 rfl 16 (by decide) (hts (.fieldLink RX11 20 "ShapeReaderModel" "typeMany" "[I") mw_27_0) (fun _ h9 => h9) rfl dX11_type_35 ?_
        refine lv_iload_n hx hb dX11_type_38 rfl (lv_at hl 3 rfl) ?_
        obtain ⟨hg1, h⟩ := ig h
        refine va_iald hx hb hK hP 4 3 gB_4 yB_4 (vp_in_iff.mpr hg1) dX11_type_39 ?_
        refine lv_iconst (v := 4) hx hb dX11_type_40 (by decide) ?_
        refine lv_icmp_ne (tgt := 48) hx hb dX11_type_41 (by decide) (fun hc => ?_) (fun hc => ?_)
        · replace h := iq hc h
          exact b_X11_type_48 hC hr_X11_branches hr_X11_type h hκ _ _ _ hP hD hS (lv_sub hl [1, 2, 3, 0] rfl)
        · replace h := ip hc h
          exact b_X11_type_44 hC hr_X11_branches hr_X11_type h hκ _ _ _ hP hD hS (lv_sub hl [1, 2, 3, 0] rfl)
  · replace h := iq hc h
    refine lv_iconst (v := 1) hx hb dX11_type_21 (by decide) ?_
    refine lv_goto (tgt := 49) hx hb dX11_type_22 (by decide) ?_
    exact b_X11_type_49 hC hr_X11_branches hr_X11_type h hκ _ _ _ hP hD hS (lv_sub hl [1, 2, 3, 0] rfl)

set_option maxRecDepth 100000 in
set_option maxHeartbeats 4000000 in
theorem b_X11_type_e {p : Program} {l : Launch} {e : Env} {s : State} {m : MethodId} {args : Array Value} {below : List Frame} {meth : Method} {c : Code} {dC : Nat → ClassId} {dI : Nat → Nat → Nat} {a : Nat → Nat} {k : Nat → ClassId} {A : Nat → Prop} {q : Int32 × ST} {T r : Nat} (hC : CxB p s m args meth c dC dI k A cX11_type RX11 (some .int) 6) {nn : Nat} {r_X11_branches : Int32 → Int32 → ST → Option ((Int32 × ST) × Nat)} (hr_X11_branches : ∀ {sz : Nat} {p0 : Int32} {p1 : Int32} {σ : ST} {q : Int32 × ST} {r : Nat}, r_X11_branches  p0 p1 σ = some (q, r) → Met l yX11_branches (.code yX11_branches cX11_branches 5 (some .boolean) :: pw) ({ frames := 5 + nn, cells := r, slots := 6 * r, locals := 108 + 25 * nn } : Room) (va_Pc [.ref (a 0), .int p0, .int p1] (vPre dC dI (wB a k σ) (tB k) sz)) (qBi dC dI a k (va_A (wB a k σ) sz) q) r (6 * r) (va_A (wB a k σ) sz)) {r_X11_type : Int32 → Int32 → ST → Option ((Int32 × ST) × Nat)} (hr_X11_type : ∀ {sz : Nat} {p0 : Int32} {p1 : Int32} {σ : ST} {q : Int32 × ST} {r : Nat}, r_X11_type  p0 p1 σ = some (q, r) → Met l yX11_type (.code yX11_type cX11_type 6 (some .int) :: pw) ({ frames := 5 + nn, cells := r, slots := 6 * r, locals := 108 + 25 * nn } : Room) (va_Pc [.ref (a 0), .int p0, .int p1] (vPre dC dI (wB a k σ) (tB k) sz)) (qBi dC dI a k (va_A (wB a k σ) sz) q) r (6 * r) (va_A (wB a k σ) sz))  {p0 : Int32} {p1 : Int32} {σ : ST} (h : f_X11_type r_X11_branches r_X11_type p0 p1 σ = some (q, r)) (hκ : 0 + r = T) : GkB p l e ({ frames := 5 + (nn + 1), cells := T, slots := 6 * T, locals := 108 + 25 * (nn + 1) } : Room) s m args below meth c (MQ below (qBi dC dI a k A q) args s T (6 * T) A) dC dI a k A 6 0 0 σ (lv_args 0 [.ref (a 0), .int p0, .int p1]) [] := by
  have hC0 := hC
  obtain ⟨hx, hb, hr, hml, hown, hts, hlocks, hA, hN, hK⟩ := hC0
  intro H locs ls hP hD hS hl
  have hD0 : ∀ σ1 : ST, va_D A (wB a k σ1) := fun σ1 => wB_D hD
  replace hl : lv_has ls 6 [(0, .ref (a 0)), (1, .int p0), (2, .int p1)] := hl
  unfold f_X11_type at h
  refine lv_aload_n hx hb dX11_type_0 rfl (lv_at hl 0 rfl) ?_
  obtain ⟨q1, hc, h⟩ := ib h
  obtain ⟨r2, h, hz⟩ := acE h
  have hF := va_frees hD hS hA
  refine va_calli (va_runV (As := []) (rest := []) ⟨hx, hb, hml, hown, hts⟩ (s_X11_isName (q := q1.1) (r := q1.2) hc) (cwV 0 hts (gV mw_31_14 mw_31_15 mw_31_16 mw_0_15 mw_54_20) rfl rfl rfl (by decide +kernel) ⟨by show 2 + 1 ≤ 5 + (nn + 1); omega, by show 8 + (2 + 11) + 49 ≤ 108 + 25 * (nn + 1); omega⟩) (vV (ci := 11) (q0 := 0) hK hP hD hN rfl gB_0) rfl rfl hl.1 rfl (lv_room (Nat.le_of_ble_eq_true rfl)) dX11_type_1 ⟨by show 0 + q1.2 ≤ T; omega, by show 6 * 0 + 6 * q1.2 ≤ 6 * T; omega⟩) hS (fun q _ h => hF q h) hF (fun r2 u t H locs ht hvm hw hB _ _ hS => ?_)
  obtain rfl : r2 = q1.1.1 := hw
  replace hκ : (0 + q1.2) + r2 = T := by omega
  clear hz
  refine W.widen (k := (0 + q1.2)) (n := 6 * (0 + q1.2)) (Nat.le_refl _) (by omega) ?_
  replace hP : va_P (dC, dI) vwCl (wB a k q1.1.2) H := by rw [← ht]; exact hB.1
  replace hD := hD0 (q1.1.2)
  clear hB hF
  refine lv_if_eq (tgt := 12) hx hb dX11_type_4 (by decide) (fun hc => ?_) (fun hc => ?_)
  · replace h := ip hc h
    refine lv_aload_n hx hb dX11_type_12 rfl (lv_at hl 0 rfl) ?_
    obtain ⟨q3, hc, h⟩ := ib h
    obtain ⟨r2, h, hz⟩ := acE h
    have hF := va_frees hD hS hA
    refine va_calli (va_runV (As := []) (rest := []) ⟨hx, hb, hml, hown, hts⟩ (s_X11_sortHere (q := q3.1) (r := q3.2) hc) (cwV 0 hts (gV mw_30_20 mw_30_21 mw_30_22 mw_0_15 mw_54_12) rfl rfl rfl (by decide +kernel) ⟨by show 1 + 1 ≤ 5 + (nn + 1); omega, by show 8 + (1 + 11) + 29 ≤ 108 + 25 * (nn + 1); omega⟩) (vV (ci := 11) (q0 := 0) hK hP hD hN rfl gB_0) rfl rfl hl.1 rfl (lv_room (Nat.le_of_ble_eq_true rfl)) dX11_type_13 ⟨by show (0 + q1.2) + q3.2 ≤ T; omega, by show 6 * (0 + q1.2) + 6 * q3.2 ≤ 6 * T; omega⟩) hS (fun q _ h => hF q h) hF (fun r4 u t H locs ht hvm hw hB _ _ hS => ?_)
    obtain rfl : r4 = q3.1.1 := hw
    replace hκ : ((0 + q1.2) + q3.2) + r2 = T := by omega
    clear hz
    refine W.widen (k := ((0 + q1.2) + q3.2)) (n := 6 * ((0 + q1.2) + q3.2)) (Nat.le_refl _) (by omega) ?_
    replace hP : va_P (dC, dI) vwCl (wB a k q3.1.2) H := by rw [← ht]; exact hB.1
    replace hD := hD0 (q3.1.2)
    clear hB hF
    exact b_X11_type_16 hC hr_X11_branches hr_X11_type h hκ _ _ _ hP hD hS (lv_sub hl [0, 1, 2] rfl)
  · replace h := iq hc h
    refine lv_bipush (v := 7) hx hb dX11_type_7 (by decide) ?_
    refine lv_goto (tgt := 16) hx hb dX11_type_9 (by decide) ?_
    exact b_X11_type_16 hC hr_X11_branches hr_X11_type h hκ _ _ _ hP hD hS (lv_sub hl [0, 1, 2] rfl)


set_option maxRecDepth 100000 in
set_option maxHeartbeats 4000000 in
theorem s_R_X11_branches {l : Launch} {dC : Nat → ClassId} {dI : Nat → Nat → Nat} {a : Nat → Nat} {k : Nat → ClassId} : ∀ n : Nat, (∀ {sz : Nat} {p0 : Int32} {p1 : Int32} {σ : ST} {q : Int32 × ST} {r : Nat}, (R_X11_branches n).1 p0 p1 σ = some (q, r) → Met l yX11_branches (.code yX11_branches cX11_branches 5 (some .boolean) :: pw) ({ frames := 5 + n, cells := r, slots := 6 * r, locals := 108 + 25 * n } : Room) (va_Pc [.ref (a 0), .int p0, .int p1] (vPre dC dI (wB a k σ) (tB k) sz)) (qBi dC dI a k (va_A (wB a k σ) sz) q) r (6 * r) (va_A (wB a k σ) sz)) ∧ (∀ {sz : Nat} {p0 : Int32} {p1 : Int32} {σ : ST} {q : Int32 × ST} {r : Nat}, (R_X11_branches n).2 p0 p1 σ = some (q, r) → Met l yX11_type (.code yX11_type cX11_type 6 (some .int) :: pw) ({ frames := 5 + n, cells := r, slots := 6 * r, locals := 108 + 25 * n } : Room) (va_Pc [.ref (a 0), .int p0, .int p1] (vPre dC dI (wB a k σ) (tB k) sz)) (qBi dC dI a k (va_A (wB a k σ) sz) q) r (6 * r) (va_A (wB a k σ) sz)) := by
  intro n
  induction n with
  | zero => exact ⟨(fun h => nomatch h), (fun h => nomatch h)⟩
  | succ n ih => exact ⟨(fun h => mekB (fun A => qBi dC dI a k A _) (plainFor_of_name (by decide)) (Nat.le_of_ble_eq_true rfl) (fun _ _ _ _ _ _ _ _ hC => b_X11_branches_e hC ih.1 ih.2 h (Nat.zero_add _))), (fun h => mekB (fun A => qBi dC dI a k A _) (plainFor_of_name (by decide)) (Nat.le_of_ble_eq_true rfl) (fun _ _ _ _ _ _ _ _ hC => b_X11_type_e hC ih.1 ih.2 h (Nat.zero_add _)))⟩
theorem s_X11_branches {l : Launch} {dC : Nat → ClassId} {dI : Nat → Nat → Nat} {a : Nat → Nat} {k : Nat → ClassId} {sz : Nat} {p0 : Int32} {p1 : Int32} {σ : ST} {q : Int32 × ST} {r : Nat} (h : f_T_X11_branches p0 p1 σ = some (q, r)) : Met l yX11_branches (.code yX11_branches cX11_branches 5 (some .boolean) :: pw) ({ frames := 345, cells := r, slots := 6 * r, locals := 8608 } : Room) (va_Pc [.ref (a 0), .int p0, .int p1] (vPre dC dI (wB a k σ) (tB k) sz)) (qBi dC dI a k (va_A (wB a k σ) sz) q) r (6 * r) (va_A (wB a k σ) sz) := (s_R_X11_branches FRB).1 h
theorem s_X11_type {l : Launch} {dC : Nat → ClassId} {dI : Nat → Nat → Nat} {a : Nat → Nat} {k : Nat → ClassId} {sz : Nat} {p0 : Int32} {p1 : Int32} {σ : ST} {q : Int32 × ST} {r : Nat} (h : f_T_X11_type p0 p1 σ = some (q, r)) : Met l yX11_type (.code yX11_type cX11_type 6 (some .int) :: pw) ({ frames := 345, cells := r, slots := 6 * r, locals := 8608 } : Room) (va_Pc [.ref (a 0), .int p0, .int p1] (vPre dC dI (wB a k σ) (tB k) sz)) (qBi dC dI a k (va_A (wB a k σ) sz) q) r (6 * r) (va_A (wB a k σ) sz) := (s_R_X11_branches FRB).2 h

def f_X11_isByte (p0 : Int32) (p1 : Int32) (σ : ST) : Option (Int32 × ST) := (f_X11_isMessage  p0 σ).bind fun q1 => if q1.1 = 0 then (some (0, q1.2)) else (if 0 ≤ p0.toInt ∧ p0.toInt < 4 then ((f_X11_within  (p1.toInt64) 0 (((q1.2.1 33 p0.toNatClampNeg) - 1).toInt64) q1.2).bind fun q4 => if q4.1 = 0 then (some (0, q4.2)) else (some (1, q4.2))) else none)

set_option maxRecDepth 100000 in
set_option maxHeartbeats 4000000 in
theorem b_X11_isByte_e {p : Program} {l : Launch} {e : Env} {s : State} {m : MethodId} {args : Array Value} {below : List Frame} {meth : Method} {c : Code} {dC : Nat → ClassId} {dI : Nat → Nat → Nat} {a : Nat → Nat} {k : Nat → ClassId} {A : Nat → Prop} {q : Int32 × ST} (hC : CxB p s m args meth c dC dI k A cX11_isByte RX11 (some .boolean) 3)   {p0 : Int32} {p1 : Int32} {σ : ST} (h : f_X11_isByte  p0 p1 σ = some q) : GoB p l e ({ frames := 2, cells := 0, slots := 0, locals := 46 } : Room) s m args below meth c (MQ below (qBi dC dI a k A q) args s 0 0 A) dC dI a k A 3 0 σ (lv_args 0 [.ref (a 0), .int p0, .int p1]) [] := by
  have hC0 := hC
  obtain ⟨hx, hb, hr, hml, hown, hts, hlocks, hA, hN, hK⟩ := hC0
  intro H locs ls hP hD hS hl
  have hD0 : ∀ σ1 : ST, va_D A (wB a k σ1) := fun σ1 => wB_D hD
  replace hl : lv_has ls 3 [(0, .ref (a 0)), (1, .int p0), (2, .int p1)] := hl
  unfold f_X11_isByte at h
  refine lv_aload_n hx hb dX11_isByte_0 rfl (lv_at hl 0 rfl) ?_
  refine lv_iload_n hx hb dX11_isByte_1 rfl (lv_at hl 1 rfl) ?_
  obtain ⟨q1, hc, h⟩ := ib h
  have hF := va_frees hD hS hA
  refine va_calli (va_runV (As := [.int p0]) (rest := []) ⟨hx, hb, hml, hown, hts⟩ (s_X11_isMessage hc) (cwV 1 hts (gV mw_35_24 mw_35_25 mw_35_26 mw_0_15 mw_55_26) rfl rfl rfl (by decide +kernel) ⟨(Nat.le_of_ble_eq_true rfl), (Nat.le_of_ble_eq_true rfl)⟩) (vV (ci := 11) (q0 := 0) hK hP hD hN rfl gB_0) rfl rfl hl.1 rfl (lv_room (Nat.le_of_ble_eq_true rfl)) dX11_isByte_2 ⟨(Nat.le_of_ble_eq_true rfl), (Nat.le_of_ble_eq_true rfl)⟩) hS (fun q _ h => hF q h) hF (fun r2 u t H locs ht hvm hw hB _ _ hS => ?_)
  obtain rfl : r2 = q1.1 := hw
  replace hP : va_P (dC, dI) vwCl (wB a k q1.2) H := by rw [← ht]; exact hB.1
  replace hD := hD0 (q1.2)
  clear hB hF
  refine lv_if_eq (tgt := 30) hx hb dX11_isByte_5 (by decide) (fun hc => ?_) (fun hc => ?_)
  · replace h := ip hc h
    refine lv_iconst (v := 0) hx hb dX11_isByte_30 (by decide) ?_
    obtain rfl := Option.some.inj h
    exact W.zret hx hb hr rfl (fun t ht hW => ⟨⟨_, (), rfl, rfl, ⟨by rw [ht]; exact hP, va_K.moved hW.alike hK, hD⟩⟩, hS.F ht⟩) hS.2.2 dX11_isByte_31
  · replace h := iq hc h
    refine lv_iload_n hx hb dX11_isByte_8 rfl (lv_at hl 2 rfl) ?_
    refine lv_i2l (v := p1.toInt64) hx hb dX11_isByte_9 rfl ?_
    refine lv_lconst (v := 0) hx hb dX11_isByte_10 (by decide) ?_
    refine lv_aload_n hx hb dX11_isByte_11 rfl (lv_at hl 0 rfl) ?_
    refine va_get (D := (dC, dI)) (ci := 11) (C := RX11) (T := TX11) (N := 95) hx hb hts inlX11 hown hK hP 0 gB_0 rfl 51 (by decide) (hts (.fieldLink RX11 109 "ShapeReaderModel" "messageMany" "[I") mw_27_29) (fun _ h9 => h9) rfl dX11_isByte_12 ?_
    refine lv_iload_n hx hb dX11_isByte_15 rfl (lv_at hl 1 rfl) ?_
    obtain ⟨hg3, h⟩ := ig h
    refine va_iald hx hb hK hP 33 32 gB_33 yB_33 (vp_in_iff.mpr hg3) dX11_isByte_16 ?_
    refine lv_iconst (v := 1) hx hb dX11_isByte_17 (by decide) ?_
    refine lv_isub hx hb dX11_isByte_18 ?_
    refine lv_i2l (v := ((q1.2.1 33 p0.toNatClampNeg) - 1).toInt64) hx hb dX11_isByte_19 rfl ?_
    obtain ⟨q4, hc, h⟩ := ib h
    have hF := va_frees hD hS hA
    refine va_calli (va_runS (As := [.long (p1.toInt64), .long 0, .long (((q1.2.1 33 p0.toNatClampNeg) - 1).toInt64)]) (rest := []) ⟨hx, hb, hml, hown, hts⟩ (s_X11_within hc) (va_cwS 3 hts (gS mw_29_0 mw_29_1 mw_0_15 mw_53_26) rfl rfl rfl (by decide +kernel) ⟨(Nat.le_of_ble_eq_true rfl), (Nat.le_of_ble_eq_true rfl)⟩) (vS hK hP hD hN) rfl rfl hl.1 rfl (lv_room (Nat.le_of_ble_eq_true rfl)) dX11_isByte_20 ⟨(Nat.le_of_ble_eq_true rfl), (Nat.le_of_ble_eq_true rfl)⟩) hS (fun q _ h => hF q h) hF (fun r5 u t H locs ht hvm hw hB _ _ hS => ?_)
    obtain rfl : r5 = q4.1 := hw
    replace hP : va_P (dC, dI) vwCl (wB a k q4.2) H := by rw [← ht]; exact hB.1
    replace hD := hD0 (q4.2)
    clear hB hF
    refine lv_if_eq (tgt := 30) hx hb dX11_isByte_23 (by decide) (fun hc => ?_) (fun hc => ?_)
    · replace h := ip hc h
      refine lv_iconst (v := 0) hx hb dX11_isByte_30 (by decide) ?_
      obtain rfl := Option.some.inj h
      exact W.zret hx hb hr rfl (fun t ht hW => ⟨⟨_, (), rfl, rfl, ⟨by rw [ht]; exact hP, va_K.moved hW.alike hK, hD⟩⟩, hS.F ht⟩) hS.2.2 dX11_isByte_31
    · replace h := iq hc h
      refine lv_iconst (v := 1) hx hb dX11_isByte_26 (by decide) ?_
      refine lv_goto (tgt := 31) hx hb dX11_isByte_27 (by decide) ?_
      obtain rfl := Option.some.inj h
      exact W.zret hx hb hr rfl (fun t ht hW => ⟨⟨_, (), rfl, rfl, ⟨by rw [ht]; exact hP, va_K.moved hW.alike hK, hD⟩⟩, hS.F ht⟩) hS.2.2 dX11_isByte_31

theorem s_X11_isByte {l : Launch} {dC : Nat → ClassId} {dI : Nat → Nat → Nat} {a : Nat → Nat} {k : Nat → ClassId} {sz : Nat} {p0 : Int32} {p1 : Int32} {σ : ST} {q : Int32 × ST} (h : f_X11_isByte  p0 p1 σ = some q) : Met l yX11_isByte (.code yX11_isByte cX11_isByte 3 (some .boolean) :: pw) ({ frames := 2, cells := 0, slots := 0, locals := 46 } : Room) (va_Pc [.ref (a 0), .int p0, .int p1] (vPre dC dI (wB a k σ) (tB k) sz)) (qBi dC dI a k (va_A (wB a k σ) sz) q) 0 0 (va_A (wB a k σ) sz) := metB (fun A => qBi dC dI a k A q) (plainFor_of_name (by decide)) (Nat.le_of_ble_eq_true rfl) (fun _ _ _ _ _ _ _ _ hC => b_X11_isByte_e hC h)

def f_X11_byteAt__15 (x1 : Int32) (x2 : Int32) (y0 : Int32) (σ : ST) : Option (Int32 × ST) := if ((stI σ 0 0 y0).1 0 0) ≤ 0 then (if 0 ≤ ((400 * x1) + x2).toInt ∧ ((400 * x1) + x2).toInt < 1600 then (some ((((stI σ 0 0 y0).1 34 ((400 * x1) + x2).toNatClampNeg) &&& 255), (stI σ 0 0 y0))) else none) else (some (0, (stI σ 0 0 y0)))
def f_X11_byteAt_ (p0 : Int32) (p1 : Int32) (σ : ST) : Option (Int32 × ST) := (f_X11_isByte  p0 p1 σ).bind fun q1 => if q1.1 = 0 then (f_X11_byteAt__15  p0 p1 1 q1.2) else (f_X11_byteAt__15  p0 p1 0 q1.2)

set_option maxRecDepth 100000 in
set_option maxHeartbeats 4000000 in
theorem b_X11_byteAt__15 {p : Program} {l : Launch} {e : Env} {s : State} {m : MethodId} {args : Array Value} {below : List Frame} {meth : Method} {c : Code} {dC : Nat → ClassId} {dI : Nat → Nat → Nat} {a : Nat → Nat} {k : Nat → ClassId} {A : Nat → Prop} {q : Int32 × ST} (hC : CxB p s m args meth c dC dI k A cX11_byteAt_ RX11 (some .int) 3)   {x1 : Int32} {x2 : Int32} {y0 : Int32} {σ : ST} (h : f_X11_byteAt__15  x1 x2 y0 σ = some q) : GoB p l e ({ frames := 3, cells := 0, slots := 0, locals := 68 } : Room) s m args below meth c (MQ below (qBi dC dI a k A q) args s 0 0 A) dC dI a k A 3 15 σ [(0, .ref (a 0)), (1, .int x1), (2, .int x2)] [.int y0, .ref (a 0)] := by
  have hC0 := hC
  obtain ⟨hx, hb, hr, hml, hown, hts, hlocks, hA, hN, hK⟩ := hC0
  intro H locs ls hP hD hS hl
  have hD0 : ∀ σ1 : ST, va_D A (wB a k σ1) := fun σ1 => wB_D hD
  unfold f_X11_byteAt__15 at h
  refine va_put (D := (dC, dI)) (ci := 11) (ty := .int) (C := RX11) (T := TX11) (N := 95) hx hb hts inlX11 tyX11 tyX11_ok nmX11 hown hK hP hD hS 0 gB_0 rfl 0 (by decide) (hts (.fieldLink RX11 178 "ShapeReaderModel" "thrown" "I") mw_28_22) (fun _ h9 => h9) rfl (by decide +kernel) rfl rfl (Nat.le_of_ble_eq_true rfl) dX11_byteAt__15 (fun H locs hP hD hS => ?_)
  replace hP := uB_0_0 hP
  replace hD := hD0 ((stI σ 0 0 y0))
  refine lv_aload_n hx hb dX11_byteAt__18 rfl (lv_at hl 0 rfl) ?_
  refine va_get (D := (dC, dI)) (ci := 11) (C := RX11) (T := TX11) (N := 95) hx hb hts inlX11 hown hK hP 0 gB_0 rfl 0 (by decide) (hts (.fieldLink RX11 178 "ShapeReaderModel" "thrown" "I") mw_28_22) (fun _ h9 => h9) rfl dX11_byteAt__19 ?_
  refine lv_if_le (tgt := 29) hx hb dX11_byteAt__22 (by decide) (fun hc => ?_) (fun hc => ?_)
  · replace h := ip hc h
    refine lv_aload_n hx hb dX11_byteAt__29 rfl (lv_at hl 0 rfl) ?_
    refine va_get (D := (dC, dI)) (ci := 11) (C := RX11) (T := TX11) (N := 95) hx hb hts inlX11 hown hK hP 0 gB_0 rfl 52 (by decide) (hts (.fieldLink RX11 112 "ShapeReaderModel" "bytes" "[B") mw_28_0) (fun _ h9 => h9) rfl dX11_byteAt__30 ?_
    refine lv_sipush (v := 400) hx hb dX11_byteAt__33 (by decide) ?_
    refine lv_iload_n hx hb dX11_byteAt__36 rfl (lv_at hl 1 rfl) ?_
    refine lv_imul hx hb dX11_byteAt__37 ?_
    refine lv_iload_n hx hb dX11_byteAt__38 rfl (lv_at hl 2 rfl) ?_
    refine lv_iadd hx hb dX11_byteAt__39 ?_
    obtain ⟨hg1, h⟩ := ig h
    refine va_bald hx hb hK hP 34 33 gB_34 yB_34 (vp_in_iff.mpr hg1) dX11_byteAt__40 ?_
    refine lv_sipush (v := 255) hx hb dX11_byteAt__41 (by decide) ?_
    refine lv_iand hx hb dX11_byteAt__44 ?_
    obtain rfl := Option.some.inj h
    exact W.iret hx hb hr (fun t ht hW => ⟨⟨_, (), rfl, rfl, ⟨by rw [ht]; exact hP, va_K.moved hW.alike hK, hD⟩⟩, hS.F ht⟩) hS.2.2 dX11_byteAt__45
  · replace h := iq hc h
    refine lv_iconst (v := 0) hx hb dX11_byteAt__25 (by decide) ?_
    refine lv_goto (tgt := 45) hx hb dX11_byteAt__26 (by decide) ?_
    obtain rfl := Option.some.inj h
    exact W.iret hx hb hr (fun t ht hW => ⟨⟨_, (), rfl, rfl, ⟨by rw [ht]; exact hP, va_K.moved hW.alike hK, hD⟩⟩, hS.F ht⟩) hS.2.2 dX11_byteAt__45

set_option maxRecDepth 100000 in
set_option maxHeartbeats 4000000 in
theorem b_X11_byteAt__e {p : Program} {l : Launch} {e : Env} {s : State} {m : MethodId} {args : Array Value} {below : List Frame} {meth : Method} {c : Code} {dC : Nat → ClassId} {dI : Nat → Nat → Nat} {a : Nat → Nat} {k : Nat → ClassId} {A : Nat → Prop} {q : Int32 × ST} (hC : CxB p s m args meth c dC dI k A cX11_byteAt_ RX11 (some .int) 3)   {p0 : Int32} {p1 : Int32} {σ : ST} (h : f_X11_byteAt_  p0 p1 σ = some q) : GoB p l e ({ frames := 3, cells := 0, slots := 0, locals := 68 } : Room) s m args below meth c (MQ below (qBi dC dI a k A q) args s 0 0 A) dC dI a k A 3 0 σ (lv_args 0 [.ref (a 0), .int p0, .int p1]) [] := by
  have hC0 := hC
  obtain ⟨hx, hb, hr, hml, hown, hts, hlocks, hA, hN, hK⟩ := hC0
  intro H locs ls hP hD hS hl
  have hD0 : ∀ σ1 : ST, va_D A (wB a k σ1) := fun σ1 => wB_D hD
  replace hl : lv_has ls 3 [(0, .ref (a 0)), (1, .int p0), (2, .int p1)] := hl
  unfold f_X11_byteAt_ at h
  refine lv_aload_n hx hb dX11_byteAt__0 rfl (lv_at hl 0 rfl) ?_
  refine lv_aload_n hx hb dX11_byteAt__1 rfl (lv_at hl 0 rfl) ?_
  refine lv_iload_n hx hb dX11_byteAt__2 rfl (lv_at hl 1 rfl) ?_
  refine lv_iload_n hx hb dX11_byteAt__3 rfl (lv_at hl 2 rfl) ?_
  obtain ⟨q1, hc, h⟩ := ib h
  have hF := va_frees hD hS hA
  refine va_calli (va_runV (As := [.int p0, .int p1]) (rest := [.ref (a 0)]) ⟨hx, hb, hml, hown, hts⟩ (s_X11_isByte hc) (cwV 2 hts (gV mw_35_27 mw_35_28 mw_35_29 mw_0_15 mw_56_2) rfl rfl rfl (by decide +kernel) ⟨(Nat.le_of_ble_eq_true rfl), (Nat.le_of_ble_eq_true rfl)⟩) (vV (ci := 11) (q0 := 0) hK hP hD hN rfl gB_0) rfl rfl hl.1 rfl (lv_room (Nat.le_of_ble_eq_true rfl)) dX11_byteAt__4 ⟨(Nat.le_of_ble_eq_true rfl), (Nat.le_of_ble_eq_true rfl)⟩) hS (fun q _ h => hF q h) hF (fun r2 u t H locs ht hvm hw hB _ _ hS => ?_)
  obtain rfl : r2 = q1.1 := hw
  replace hP : va_P (dC, dI) vwCl (wB a k q1.2) H := by rw [← ht]; exact hB.1
  replace hD := hD0 (q1.2)
  clear hB hF
  refine lv_if_eq (tgt := 14) hx hb dX11_byteAt__7 (by decide) (fun hc => ?_) (fun hc => ?_)
  · replace h := ip hc h
    refine lv_iconst (v := 1) hx hb dX11_byteAt__14 (by decide) ?_
    exact b_X11_byteAt__15 hC h _ _ _ hP hD hS (lv_sub hl [0, 1, 2] rfl)
  · replace h := iq hc h
    refine lv_iconst (v := 0) hx hb dX11_byteAt__10 (by decide) ?_
    refine lv_goto (tgt := 15) hx hb dX11_byteAt__11 (by decide) ?_
    exact b_X11_byteAt__15 hC h _ _ _ hP hD hS (lv_sub hl [0, 1, 2] rfl)

theorem s_X11_byteAt_ {l : Launch} {dC : Nat → ClassId} {dI : Nat → Nat → Nat} {a : Nat → Nat} {k : Nat → ClassId} {sz : Nat} {p0 : Int32} {p1 : Int32} {σ : ST} {q : Int32 × ST} (h : f_X11_byteAt_  p0 p1 σ = some q) : Met l yX11_byteAt_ (.code yX11_byteAt_ cX11_byteAt_ 3 (some .int) :: pw) ({ frames := 3, cells := 0, slots := 0, locals := 68 } : Room) (va_Pc [.ref (a 0), .int p0, .int p1] (vPre dC dI (wB a k σ) (tB k) sz)) (qBi dC dI a k (va_A (wB a k σ) sz) q) 0 0 (va_A (wB a k σ) sz) := metB (fun A => qBi dC dI a k A q) (plainFor_of_name (by decide)) (Nat.le_of_ble_eq_true rfl) (fun _ _ _ _ _ _ _ _ hC => b_X11_byteAt__e hC h)

def f_X11_tells_110 (r_X11_tells : Int32 → Int32 → ST → Option (ST)) : Nat → Int32 → Int32 → ST → Option (ST)
  | 0, _, _, _ => none
  | n + 1, x3, x4, σ => if x4 < 0 then (some σ) else ((r_X11_tells  x4 x3 σ).bind fun q1 => if 0 ≤ x4.toInt ∧ x4.toInt < 4096 then (f_X11_tells_110 r_X11_tells n x3 (q1.1 30 x4.toNatClampNeg) q1) else none)
def f_X11_tells_53 (r_X11_tells : Int32 → Int32 → ST → Option (ST)) (x1 : Int32) (x3 : Int32) (y0 : Int32) (y1 : Int32) (σ : ST) : Option (ST) := if 0 ≤ y1.toInt ∧ y1.toInt < 400 then (if 0 ≤ x1.toInt ∧ x1.toInt < 4096 then (if 0 ≤ x3.toInt ∧ x3.toInt < 400 then ((some (stI (stI σ 44 y1.toNatClampNeg y0) 45 x3.toNatClampNeg ((stI σ 44 y1.toNatClampNeg y0).1 23 x1.toNatClampNeg))).bind fun z4 => (some (stL (stI z4 46 x3.toNatClampNeg (vp_nar .boolean (z4.1 27 x1.toNatClampNeg))) 47 x3.toNatClampNeg ((stI z4 46 x3.toNatClampNeg (vp_nar .boolean (z4.1 27 x1.toNatClampNeg))).2.1 21 x1.toNatClampNeg))).bind fun z5 => (some ((stL z5 48 x3.toNatClampNeg (z5.2.1 22 x1.toNatClampNeg)).1 28 x1.toNatClampNeg)).bind fun x6 => f_X11_tells_110 r_X11_tells FU x3 x6 (stL z5 48 x3.toNatClampNeg (z5.2.1 22 x1.toNatClampNeg))) else none) else none) else none
def f_X11_tells (r_X11_tells : Int32 → Int32 → ST → Option (ST)) (p0 : Int32) (p1 : Int32) (σ : ST) : Option (ST) := if 0 ≤ p0.toInt ∧ p0.toInt < 4096 then (if 0 ≤ (σ.1 0 73).toInt ∧ (σ.1 0 73).toInt < 400 then ((some (stI (stI σ 0 73 ((σ.1 0 73) + 1)) 42 (σ.1 0 73).toNatClampNeg ((stI σ 0 73 ((σ.1 0 73) + 1)).1 20 p0.toNatClampNeg))).bind fun z3 => if 0 ≤ p1 then (f_X11_tells_53 r_X11_tells p0 (σ.1 0 73) ((stI z3 43 (σ.1 0 73).toNatClampNeg p1).1 25 p0.toNatClampNeg) (σ.1 0 73) (stI z3 43 (σ.1 0 73).toNatClampNeg p1)) else (f_X11_tells_53 r_X11_tells p0 (σ.1 0 73) 0 (σ.1 0 73) (stI z3 43 (σ.1 0 73).toNatClampNeg p1))) else none) else none

def R_X11_tells : Nat → (Int32 → Int32 → ST → Option (ST))
  | 0 => (fun _ _ _ => none)
  | n + 1 => f_X11_tells ((R_X11_tells n))
def f_T_X11_tells (p0 : Int32) (p1 : Int32) (σ : ST) : Option (ST) := (R_X11_tells FRB) p0 p1 σ

set_option maxRecDepth 100000 in
set_option maxHeartbeats 4000000 in
theorem b_X11_tells_110 {p : Program} {l : Launch} {e : Env} {s : State} {m : MethodId} {args : Array Value} {below : List Frame} {meth : Method} {c : Code} {dC : Nat → ClassId} {dI : Nat → Nat → Nat} {a : Nat → Nat} {k : Nat → ClassId} {A : Nat → Prop} {q : ST} (hC : CxB p s m args meth c dC dI k A cX11_tells RX11 none 5) {nn : Nat} {r_X11_tells : Int32 → Int32 → ST → Option (ST)} (hr_X11_tells : ∀ {sz : Nat} {p0 : Int32} {p1 : Int32} {σ : ST} {q : ST}, r_X11_tells  p0 p1 σ = some q → Met l yX11_tells (.code yX11_tells cX11_tells 5 none :: pw) ({ frames := 2 + nn, cells := 0, slots := 0, locals := 0 + 24 * nn } : Room) (va_Pc [.ref (a 0), .int p0, .int p1] (vPre dC dI (wB a k σ) (tB k) sz)) (qBv dC dI a k (va_A (wB a k σ) sz) q) 0 0 (va_A (wB a k σ) sz))  : ∀ (n : Nat) (x3 : Int32) (x4 : Int32) (σ : ST), f_X11_tells_110 r_X11_tells n x3 x4 σ = some q → GoB p l e ({ frames := 2 + (nn + 1), cells := 0, slots := 0, locals := 0 + 24 * (nn + 1) } : Room) s m args below meth c (MQ below (qBv dC dI a k A q) args s 0 0 A) dC dI a k A 5 110 σ [(0, .ref (a 0)), (3, .int x3), (4, .int x4)] [] := by
  intro n
  induction n with
  | zero =>
    intro x3 x4 σ h
    rw [f_X11_tells_110] at h
    cases h
  | succ n ih =>
    intro x3 x4 σ h
    have hC0 := hC
    obtain ⟨hx, hb, hr, hml, hown, hts, hlocks, hA, hN, hK⟩ := hC0
    intro H locs ls hP hD hS hl
    have hD0 : ∀ σ1 : ST, va_D A (wB a k σ1) := fun σ1 => wB_D hD
    rw [f_X11_tells_110] at h
    refine lv_iload hx hb dX11_tells_110 (lv_at hl 2 rfl) ?_
    refine lv_if_lt (tgt := 134) hx hb dX11_tells_112 (by decide) (fun hc => ?_) (fun hc => ?_)
    · replace h := ip hc h
      obtain rfl := Option.some.inj h
      exact W.vret hx hb hr (fun t ht hW => ⟨⟨(), rfl, trivial, ⟨by rw [ht]; exact hP, va_K.moved hW.alike hK, hD⟩⟩, hS.F ht⟩) hS.2.2 dX11_tells_134
    · replace h := iq hc h
      refine lv_aload_n hx hb dX11_tells_115 rfl (lv_at hl 0 rfl) ?_
      refine lv_iload hx hb dX11_tells_116 (lv_at hl 2 rfl) ?_
      refine lv_iload_n hx hb dX11_tells_118 rfl (lv_at hl 1 rfl) ?_
      obtain ⟨q1, hc, h⟩ := ib h
      have hF := va_frees hD hS hA
      refine va_callv (va_runV (As := [.int x4, .int x3]) (rest := []) ⟨hx, hb, hml, hown, hts⟩ (hr_X11_tells hc) (cwV 2 hts (gV mw_38_27 mw_38_28 mw_38_29 mw_0_15 mw_57_4) rfl rfl rfl (by decide +kernel) ⟨by show (2 + nn) + 1 ≤ 2 + (nn + 1); omega, by show 8 + (5 + 11) + (0 + 24 * nn) ≤ 0 + 24 * (nn + 1); omega⟩) (vV (ci := 11) (q0 := 0) hK hP hD hN rfl gB_0) rfl rfl hl.1 rfl (lv_room (Nat.le_of_ble_eq_true rfl)) dX11_tells_119 ⟨(Nat.le_of_ble_eq_true rfl), (Nat.le_of_ble_eq_true rfl)⟩) hS (fun q _ h => hF q h) hF (fun u t H locs ht hvm hw hB _ _ hS => ?_)
      replace hP : va_P (dC, dI) vwCl (wB a k q1) H := by rw [← ht]; exact hB.1
      replace hD := hD0 (q1)
      clear hB hF
      refine lv_aload_n hx hb dX11_tells_122 rfl (lv_at hl 0 rfl) ?_
      refine va_get (D := (dC, dI)) (ci := 11) (C := RX11) (T := TX11) (N := 95) hx hb hts inlX11 hown hK hP 0 gB_0 rfl 45 (by decide) (hts (.fieldLink RX11 100 "ShapeReaderModel" "nodeNext" "[I") mw_27_26) (fun _ h9 => h9) rfl dX11_tells_123 ?_
      refine lv_iload hx hb dX11_tells_126 (lv_at hl 2 rfl) ?_
      obtain ⟨hg3, h⟩ := ig h
      refine va_iald hx hb hK hP 30 29 gB_30 yB_30 (vp_in_iff.mpr hg3) dX11_tells_128 ?_
      refine lv_istore (lv' := [(4, .int (q1.1 30 x4.toNatClampNeg)), (0, .ref (a 0)), (3, .int x3)]) hx hb dX11_tells_129 hl (by decide) rfl (fun ls hl => ?_)
      refine lv_goto (tgt := 110) hx hb dX11_tells_131 (by decide) ?_
      exact ih _ _ _ h _ _ _ hP hD hS (lv_sub hl [1, 2, 0] rfl)

set_option maxRecDepth 100000 in
set_option maxHeartbeats 4000000 in
theorem b_X11_tells_53 {p : Program} {l : Launch} {e : Env} {s : State} {m : MethodId} {args : Array Value} {below : List Frame} {meth : Method} {c : Code} {dC : Nat → ClassId} {dI : Nat → Nat → Nat} {a : Nat → Nat} {k : Nat → ClassId} {A : Nat → Prop} {q : ST} (hC : CxB p s m args meth c dC dI k A cX11_tells RX11 none 5) {nn : Nat} {r_X11_tells : Int32 → Int32 → ST → Option (ST)} (hr_X11_tells : ∀ {sz : Nat} {p0 : Int32} {p1 : Int32} {σ : ST} {q : ST}, r_X11_tells  p0 p1 σ = some q → Met l yX11_tells (.code yX11_tells cX11_tells 5 none :: pw) ({ frames := 2 + nn, cells := 0, slots := 0, locals := 0 + 24 * nn } : Room) (va_Pc [.ref (a 0), .int p0, .int p1] (vPre dC dI (wB a k σ) (tB k) sz)) (qBv dC dI a k (va_A (wB a k σ) sz) q) 0 0 (va_A (wB a k σ) sz))  {x1 : Int32} {x3 : Int32} {y0 : Int32} {y1 : Int32} {σ : ST} (h : f_X11_tells_53 r_X11_tells x1 x3 y0 y1 σ = some q) : GoB p l e ({ frames := 2 + (nn + 1), cells := 0, slots := 0, locals := 0 + 24 * (nn + 1) } : Room) s m args below meth c (MQ below (qBv dC dI a k A q) args s 0 0 A) dC dI a k A 5 53 σ [(0, .ref (a 0)), (1, .int x1), (3, .int x3)] [.int y0, .int y1, .ref (a 44)] := by
  have hC0 := hC
  obtain ⟨hx, hb, hr, hml, hown, hts, hlocks, hA, hN, hK⟩ := hC0
  intro H locs ls hP hD hS hl
  have hD0 : ∀ σ1 : ST, va_D A (wB a k σ1) := fun σ1 => wB_D hD
  unfold f_X11_tells_53 at h
  obtain ⟨hg1, h⟩ := ig h
  refine va_iast hx hb hK hP hD hS 44 43 gB_44 yB_44 (vp_in_iff.mpr hg1) dX11_tells_53 (fun H locs hP hD hS => ?_)
  replace hP := uB_44 hP
  replace hD := hD0 ((stI σ 44 y1.toNatClampNeg y0))
  refine lv_aload_n hx hb dX11_tells_54 rfl (lv_at hl 0 rfl) ?_
  refine va_get (D := (dC, dI)) (ci := 11) (C := RX11) (T := TX11) (N := 95) hx hb hts inlX11 hown hK hP 0 gB_0 rfl 77 (by decide) (hts (.fieldLink RX11 145 "ShapeReaderModel" "toldHas" "[I") mw_28_11) (fun _ h9 => h9) rfl dX11_tells_55 ?_
  refine lv_iload_n hx hb dX11_tells_58 rfl (lv_at hl 2 rfl) ?_
  refine lv_aload_n hx hb dX11_tells_59 rfl (lv_at hl 0 rfl) ?_
  refine va_get (D := (dC, dI)) (ci := 11) (C := RX11) (T := TX11) (N := 95) hx hb hts inlX11 hown hK hP 0 gB_0 rfl 38 (by decide) (hts (.fieldLink RX11 79 "ShapeReaderModel" "nodeHas" "[I") mw_27_19) (fun _ h9 => h9) rfl dX11_tells_60 ?_
  refine lv_iload_n hx hb dX11_tells_63 rfl (lv_at hl 1 rfl) ?_
  obtain ⟨hg2, h⟩ := ig h
  refine va_iald hx hb hK hP 23 22 gB_23 yB_23 (vp_in_iff.mpr hg2) dX11_tells_64 ?_
  obtain ⟨hg3, h⟩ := ig h
  refine va_iast hx hb hK hP hD hS 45 44 gB_45 yB_45 (vp_in_iff.mpr hg3) dX11_tells_65 (fun H locs hP hD hS => ?_)
  replace hP := uB_45 hP
  replace hD := hD0 ((stI (stI σ 44 y1.toNatClampNeg y0) 45 x3.toNatClampNeg ((stI σ 44 y1.toNatClampNeg y0).1 23 x1.toNatClampNeg)))
  obtain ⟨z4, hs, h⟩ := ib h
  replace hs := Option.some.inj hs
  replace hP : va_P (dC, dI) vwCl (wB a k z4) H := by rw [← hs]; exact hP
  replace hD := hD0 z4
  clear hs
  refine lv_aload_n hx hb dX11_tells_66 rfl (lv_at hl 0 rfl) ?_
  refine va_get (D := (dC, dI)) (ci := 11) (C := RX11) (T := TX11) (N := 95) hx hb hts inlX11 hown hK hP 0 gB_0 rfl 78 (by decide) (hts (.fieldLink RX11 148 "ShapeReaderModel" "toldFilled" "[Z") mw_28_12) (fun _ h9 => h9) rfl dX11_tells_67 ?_
  refine lv_iload_n hx hb dX11_tells_70 rfl (lv_at hl 2 rfl) ?_
  refine lv_aload_n hx hb dX11_tells_71 rfl (lv_at hl 0 rfl) ?_
  refine va_get (D := (dC, dI)) (ci := 11) (C := RX11) (T := TX11) (N := 95) hx hb hts inlX11 hown hK hP 0 gB_0 rfl 42 (by decide) (hts (.fieldLink RX11 91 "ShapeReaderModel" "nodeFilled" "[Z") mw_27_23) (fun _ h9 => h9) rfl dX11_tells_72 ?_
  refine lv_iload_n hx hb dX11_tells_75 rfl (lv_at hl 1 rfl) ?_
  refine va_zald hx hb hK hP 27 26 gB_27 yB_27 (vp_in_iff.mpr hg2) dX11_tells_76 ?_
  refine va_zast hx hb hK hP hD hS 46 45 gB_46 yB_46 (vp_in_iff.mpr hg3) dX11_tells_77 (fun H locs hP hD hS => ?_)
  replace hP := uB_46 hP
  replace hD := hD0 ((stI z4 46 x3.toNatClampNeg (vp_nar .boolean (z4.1 27 x1.toNatClampNeg))))
  refine lv_aload_n hx hb dX11_tells_78 rfl (lv_at hl 0 rfl) ?_
  refine va_get (D := (dC, dI)) (ci := 11) (C := RX11) (T := TX11) (N := 95) hx hb hts inlX11 hown hK hP 0 gB_0 rfl 79 (by decide) (hts (.fieldLink RX11 151 "ShapeReaderModel" "toldBits" "[J") mw_28_13) (fun _ h9 => h9) rfl dX11_tells_79 ?_
  refine lv_iload_n hx hb dX11_tells_82 rfl (lv_at hl 2 rfl) ?_
  refine lv_aload_n hx hb dX11_tells_83 rfl (lv_at hl 0 rfl) ?_
  refine va_get (D := (dC, dI)) (ci := 11) (C := RX11) (T := TX11) (N := 95) hx hb hts inlX11 hown hK hP 0 gB_0 rfl 36 (by decide) (hts (.fieldLink RX11 73 "ShapeReaderModel" "nodeBits" "[J") mw_27_17) (fun _ h9 => h9) rfl dX11_tells_84 ?_
  refine lv_iload_n hx hb dX11_tells_87 rfl (lv_at hl 1 rfl) ?_
  refine va_lald hx hb hK hP 21 20 gB_21 yB_21 (vp_in_iff.mpr hg2) dX11_tells_88 ?_
  refine va_last hx hb hK hP hD hS 47 46 gB_47 yB_47 (vp_in_iff.mpr hg3) dX11_tells_89 (fun H locs hP hD hS => ?_)
  replace hP := uB_47 hP
  replace hD := hD0 ((stL (stI z4 46 x3.toNatClampNeg (vp_nar .boolean (z4.1 27 x1.toNatClampNeg))) 47 x3.toNatClampNeg ((stI z4 46 x3.toNatClampNeg (vp_nar .boolean (z4.1 27 x1.toNatClampNeg))).2.1 21 x1.toNatClampNeg)))
  obtain ⟨z5, hs, h⟩ := ib h
  replace hs := Option.some.inj hs
  replace hP : va_P (dC, dI) vwCl (wB a k z5) H := by rw [← hs]; exact hP
  replace hD := hD0 z5
  clear hs
  refine lv_aload_n hx hb dX11_tells_90 rfl (lv_at hl 0 rfl) ?_
  refine va_get (D := (dC, dI)) (ci := 11) (C := RX11) (T := TX11) (N := 95) hx hb hts inlX11 hown hK hP 0 gB_0 rfl 80 (by decide) (hts (.fieldLink RX11 154 "ShapeReaderModel" "toldText" "[J") mw_28_14) (fun _ h9 => h9) rfl dX11_tells_91 ?_
  refine lv_iload_n hx hb dX11_tells_94 rfl (lv_at hl 2 rfl) ?_
  refine lv_aload_n hx hb dX11_tells_95 rfl (lv_at hl 0 rfl) ?_
  refine va_get (D := (dC, dI)) (ci := 11) (C := RX11) (T := TX11) (N := 95) hx hb hts inlX11 hown hK hP 0 gB_0 rfl 37 (by decide) (hts (.fieldLink RX11 76 "ShapeReaderModel" "nodeText" "[J") mw_27_18) (fun _ h9 => h9) rfl dX11_tells_96 ?_
  refine lv_iload_n hx hb dX11_tells_99 rfl (lv_at hl 1 rfl) ?_
  refine va_lald hx hb hK hP 22 21 gB_22 yB_22 (vp_in_iff.mpr hg2) dX11_tells_100 ?_
  refine va_last hx hb hK hP hD hS 48 47 gB_48 yB_48 (vp_in_iff.mpr hg3) dX11_tells_101 (fun H locs hP hD hS => ?_)
  replace hP := uB_48 hP
  replace hD := hD0 ((stL z5 48 x3.toNatClampNeg (z5.2.1 22 x1.toNatClampNeg)))
  refine lv_aload_n hx hb dX11_tells_102 rfl (lv_at hl 0 rfl) ?_
  refine va_get (D := (dC, dI)) (ci := 11) (C := RX11) (T := TX11) (N := 95) hx hb hts inlX11 hown hK hP 0 gB_0 rfl 43 (by decide) (hts (.fieldLink RX11 94 "ShapeReaderModel" "nodeFirst" "[I") mw_27_24) (fun _ h9 => h9) rfl dX11_tells_103 ?_
  refine lv_iload_n hx hb dX11_tells_106 rfl (lv_at hl 1 rfl) ?_
  refine va_iald hx hb hK hP 28 27 gB_28 yB_28 (vp_in_iff.mpr hg2) dX11_tells_107 ?_
  obtain ⟨x6, hs, h⟩ := ib h
  replace hs := Option.some.inj hs
  refine lv_topi (fun y9 e9 => ?_)
  obtain rfl : x6 = y9 := (e9.trans hs).symm
  clear hs e9
  refine lv_istore (lv' := [(4, .int x6), (0, .ref (a 0)), (1, .int x1), (3, .int x3)]) hx hb dX11_tells_108 hl (by decide) rfl (fun ls hl => ?_)
  exact b_X11_tells_110 hC hr_X11_tells FU _ _ _ h _ _ _ hP hD hS (lv_sub hl [1, 3, 0] rfl)

set_option maxRecDepth 100000 in
set_option maxHeartbeats 4000000 in
theorem b_X11_tells_e {p : Program} {l : Launch} {e : Env} {s : State} {m : MethodId} {args : Array Value} {below : List Frame} {meth : Method} {c : Code} {dC : Nat → ClassId} {dI : Nat → Nat → Nat} {a : Nat → Nat} {k : Nat → ClassId} {A : Nat → Prop} {q : ST} (hC : CxB p s m args meth c dC dI k A cX11_tells RX11 none 5) {nn : Nat} {r_X11_tells : Int32 → Int32 → ST → Option (ST)} (hr_X11_tells : ∀ {sz : Nat} {p0 : Int32} {p1 : Int32} {σ : ST} {q : ST}, r_X11_tells  p0 p1 σ = some q → Met l yX11_tells (.code yX11_tells cX11_tells 5 none :: pw) ({ frames := 2 + nn, cells := 0, slots := 0, locals := 0 + 24 * nn } : Room) (va_Pc [.ref (a 0), .int p0, .int p1] (vPre dC dI (wB a k σ) (tB k) sz)) (qBv dC dI a k (va_A (wB a k σ) sz) q) 0 0 (va_A (wB a k σ) sz))  {p0 : Int32} {p1 : Int32} {σ : ST} (h : f_X11_tells r_X11_tells p0 p1 σ = some q) : GoB p l e ({ frames := 2 + (nn + 1), cells := 0, slots := 0, locals := 0 + 24 * (nn + 1) } : Room) s m args below meth c (MQ below (qBv dC dI a k A q) args s 0 0 A) dC dI a k A 5 0 σ (lv_args 0 [.ref (a 0), .int p0, .int p1]) [] := by
  have hC0 := hC
  obtain ⟨hx, hb, hr, hml, hown, hts, hlocks, hA, hN, hK⟩ := hC0
  intro H locs ls hP hD hS hl
  have hD0 : ∀ σ1 : ST, va_D A (wB a k σ1) := fun σ1 => wB_D hD
  replace hl : lv_has ls 5 [(0, .ref (a 0)), (1, .int p0), (2, .int p1)] := hl
  unfold f_X11_tells at h
  refine lv_aload_n hx hb dX11_tells_0 rfl (lv_at hl 0 rfl) ?_
  refine va_get (D := (dC, dI)) (ci := 11) (C := RX11) (T := TX11) (N := 95) hx hb hts inlX11 hown hK hP 0 gB_0 rfl 73 (by decide) (hts (.fieldLink RX11 392 "ShapeReaderModel" "nodeMany" "I") mw_33_17) (fun _ h9 => h9) rfl dX11_tells_1 ?_
  refine lv_istore_n (lv' := [(3, .int (σ.1 0 73)), (0, .ref (a 0)), (1, .int p0), (2, .int p1)]) hx hb dX11_tells_4 rfl hl (by decide) rfl (fun ls hl => ?_)
  refine lv_aload_n hx hb dX11_tells_5 rfl (lv_at hl 1 rfl) ?_
  refine lv_dup hx hb dX11_tells_6 rfl ?_
  refine va_get (D := (dC, dI)) (ci := 11) (C := RX11) (T := TX11) (N := 95) hx hb hts inlX11 hown hK hP 0 gB_0 rfl 73 (by decide) (hts (.fieldLink RX11 392 "ShapeReaderModel" "nodeMany" "I") mw_33_17) (fun _ h9 => h9) rfl dX11_tells_7 ?_
  refine lv_iconst (v := 1) hx hb dX11_tells_10 (by decide) ?_
  refine lv_iadd hx hb dX11_tells_11 ?_
  refine va_put (D := (dC, dI)) (ci := 11) (ty := .int) (C := RX11) (T := TX11) (N := 95) hx hb hts inlX11 tyX11 tyX11_ok nmX11 hown hK hP hD hS 0 gB_0 rfl 73 (by decide) (hts (.fieldLink RX11 392 "ShapeReaderModel" "nodeMany" "I") mw_33_17) (fun _ h9 => h9) rfl (by decide +kernel) rfl rfl (Nat.le_of_ble_eq_true rfl) dX11_tells_12 (fun H locs hP hD hS => ?_)
  replace hP := uB_0_73 hP
  replace hD := hD0 ((stI σ 0 73 ((σ.1 0 73) + 1)))
  refine lv_aload_n hx hb dX11_tells_15 rfl (lv_at hl 1 rfl) ?_
  refine va_get (D := (dC, dI)) (ci := 11) (C := RX11) (T := TX11) (N := 95) hx hb hts inlX11 hown hK hP 0 gB_0 rfl 74 (by decide) (hts (.fieldLink RX11 136 "ShapeReaderModel" "toldSort" "[I") mw_28_8) (fun _ h9 => h9) rfl dX11_tells_16 ?_
  refine lv_iload_n hx hb dX11_tells_19 rfl (lv_at hl 0 rfl) ?_
  refine lv_aload_n hx hb dX11_tells_20 rfl (lv_at hl 1 rfl) ?_
  refine va_get (D := (dC, dI)) (ci := 11) (C := RX11) (T := TX11) (N := 95) hx hb hts inlX11 hown hK hP 0 gB_0 rfl 35 (by decide) (hts (.fieldLink RX11 70 "ShapeReaderModel" "nodeSort" "[I") mw_27_16) (fun _ h9 => h9) rfl dX11_tells_21 ?_
  refine lv_iload_n hx hb dX11_tells_24 rfl (lv_at hl 2 rfl) ?_
  obtain ⟨hg1, h⟩ := ig h
  refine va_iald hx hb hK hP 20 19 gB_20 yB_20 (vp_in_iff.mpr hg1) dX11_tells_25 ?_
  obtain ⟨hg2, h⟩ := ig h
  refine va_iast hx hb hK hP hD hS 42 41 gB_42 yB_42 (vp_in_iff.mpr hg2) dX11_tells_26 (fun H locs hP hD hS => ?_)
  replace hP := uB_42 hP
  replace hD := hD0 ((stI (stI σ 0 73 ((σ.1 0 73) + 1)) 42 (σ.1 0 73).toNatClampNeg ((stI σ 0 73 ((σ.1 0 73) + 1)).1 20 p0.toNatClampNeg)))
  obtain ⟨z3, hs, h⟩ := ib h
  replace hs := Option.some.inj hs
  replace hP : va_P (dC, dI) vwCl (wB a k z3) H := by rw [← hs]; exact hP
  replace hD := hD0 z3
  clear hs
  refine lv_aload_n hx hb dX11_tells_27 rfl (lv_at hl 1 rfl) ?_
  refine va_get (D := (dC, dI)) (ci := 11) (C := RX11) (T := TX11) (N := 95) hx hb hts inlX11 hown hK hP 0 gB_0 rfl 75 (by decide) (hts (.fieldLink RX11 139 "ShapeReaderModel" "toldParent" "[I") mw_28_9) (fun _ h9 => h9) rfl dX11_tells_28 ?_
  refine lv_iload_n hx hb dX11_tells_31 rfl (lv_at hl 0 rfl) ?_
  refine lv_iload_n hx hb dX11_tells_32 rfl (lv_at hl 3 rfl) ?_
  refine va_iast hx hb hK hP hD hS 43 42 gB_43 yB_43 (vp_in_iff.mpr hg2) dX11_tells_33 (fun H locs hP hD hS => ?_)
  replace hP := uB_43 hP
  replace hD := hD0 ((stI z3 43 (σ.1 0 73).toNatClampNeg p1))
  refine lv_aload_n hx hb dX11_tells_34 rfl (lv_at hl 1 rfl) ?_
  refine va_get (D := (dC, dI)) (ci := 11) (C := RX11) (T := TX11) (N := 95) hx hb hts inlX11 hown hK hP 0 gB_0 rfl 76 (by decide) (hts (.fieldLink RX11 142 "ShapeReaderModel" "toldIndex" "[I") mw_28_10) (fun _ h9 => h9) rfl dX11_tells_35 ?_
  refine lv_iload_n hx hb dX11_tells_38 rfl (lv_at hl 0 rfl) ?_
  refine lv_iload_n hx hb dX11_tells_39 rfl (lv_at hl 3 rfl) ?_
  refine lv_if_ge (tgt := 47) hx hb dX11_tells_40 (by decide) (fun hc => ?_) (fun hc => ?_)
  · replace h := ip hc h
    refine lv_aload_n hx hb dX11_tells_47 rfl (lv_at hl 1 rfl) ?_
    refine va_get (D := (dC, dI)) (ci := 11) (C := RX11) (T := TX11) (N := 95) hx hb hts inlX11 hown hK hP 0 gB_0 rfl 40 (by decide) (hts (.fieldLink RX11 85 "ShapeReaderModel" "nodeIndex" "[I") mw_27_21) (fun _ h9 => h9) rfl dX11_tells_48 ?_
    refine lv_iload_n hx hb dX11_tells_51 rfl (lv_at hl 2 rfl) ?_
    refine va_iald hx hb hK hP 25 24 gB_25 yB_25 (vp_in_iff.mpr hg1) dX11_tells_52 ?_
    exact b_X11_tells_53 hC hr_X11_tells h _ _ _ hP hD hS (lv_sub hl [1, 2, 0] rfl)
  · replace h := iq hc h
    refine lv_iconst (v := 0) hx hb dX11_tells_43 (by decide) ?_
    refine lv_goto (tgt := 53) hx hb dX11_tells_44 (by decide) ?_
    exact b_X11_tells_53 hC hr_X11_tells h _ _ _ hP hD hS (lv_sub hl [1, 2, 0] rfl)


set_option maxRecDepth 100000 in
set_option maxHeartbeats 4000000 in
theorem s_R_X11_tells {l : Launch} {dC : Nat → ClassId} {dI : Nat → Nat → Nat} {a : Nat → Nat} {k : Nat → ClassId} : ∀ n : Nat, (∀ {sz : Nat} {p0 : Int32} {p1 : Int32} {σ : ST} {q : ST}, (R_X11_tells n) p0 p1 σ = some q → Met l yX11_tells (.code yX11_tells cX11_tells 5 none :: pw) ({ frames := 2 + n, cells := 0, slots := 0, locals := 0 + 24 * n } : Room) (va_Pc [.ref (a 0), .int p0, .int p1] (vPre dC dI (wB a k σ) (tB k) sz)) (qBv dC dI a k (va_A (wB a k σ) sz) q) 0 0 (va_A (wB a k σ) sz)) := by
  intro n
  induction n with
  | zero => exact (fun h => nomatch h)
  | succ n ih => exact (fun h => metB (fun A => qBv dC dI a k A _) (plainFor_of_name (by decide)) (Nat.le_of_ble_eq_true rfl) (fun _ _ _ _ _ _ _ _ hC => b_X11_tells_e hC ih h))
theorem s_X11_tells {l : Launch} {dC : Nat → ClassId} {dI : Nat → Nat → Nat} {a : Nat → Nat} {k : Nat → ClassId} {sz : Nat} {p0 : Int32} {p1 : Int32} {σ : ST} {q : ST} (h : f_T_X11_tells p0 p1 σ = some q) : Met l yX11_tells (.code yX11_tells cX11_tells 5 none :: pw) ({ frames := 342, cells := 0, slots := 0, locals := 8160 } : Room) (va_Pc [.ref (a 0), .int p0, .int p1] (vPre dC dI (wB a k σ) (tB k) sz)) (qBv dC dI a k (va_A (wB a k σ) sz) q) 0 0 (va_A (wB a k σ) sz) := (s_R_X11_tells FRB) h

def f_X11_uses_27 (k4 : Int32 → Int32 → Int32 → ST → Option (ST)) (x1 : Int32) (x3 : Int32) (y0 : Int32) (σ : ST) : Option (ST) := k4 x1 y0 (x3 + 1) σ
def f_X11_uses_105  : Nat → Int32 → Int32 → ST → Option (ST)
  | 0, _, _, _ => none
  | n + 1, x1, x3, σ => if x3 ≤ 0 then (some (stI σ 55 (0 : Int32).toNatClampNeg x1)) else (if 0 ≤ (x3 - 1).toInt ∧ (x3 - 1).toInt < 4 then (if 0 ≤ x3.toInt ∧ x3.toInt < 4 then (f_X11_uses_105  n x1 (x3 + (-1)) (stI σ 55 x3.toNatClampNeg (σ.1 55 (x3 - 1).toNatClampNeg))) else none) else none)
def f_X11_uses_103 (x1 : Int32) (x2 : Int32) (σ : ST) : Option (ST) := f_X11_uses_105  FU x1 x2 σ
def f_X11_uses_93 (x1 : Int32) (y0 : Int32) (σ : ST) : Option (ST) := f_X11_uses_103  x1 (((stI σ 0 92 y0).1 0 92) - 1) (stI σ 0 92 y0)
def f_X11_uses_66 (x1 : Int32) (x2 : Int32) (y0 : Int32) (y1 : Int32) (σ : ST) : Option (ST) := if 0 ≤ x2 then (f_X11_uses_103  x1 x2 (stI σ 0 94 (y1 + y0))) else (if 4 ≤ ((stI σ 0 94 (y1 + y0)).1 0 92) then (f_X11_uses_93  x1 4 (stI σ 0 94 (y1 + y0))) else (f_X11_uses_93  x1 (((stI σ 0 94 (y1 + y0)).1 0 92) + 1) (stI σ 0 94 (y1 + y0))))
def f_X11_uses_48 (x1 : Int32) (x2 : Int32) (y0 : Int32) (y1 : Int32) (σ : ST) : Option (ST) := if 0 ≤ x2 then (f_X11_uses_66  x1 x2 0 ((stI σ 0 93 (y1 + y0)).1 0 94) (stI σ 0 93 (y1 + y0))) else (f_X11_uses_66  x1 x2 1 ((stI σ 0 93 (y1 + y0)).1 0 94) (stI σ 0 93 (y1 + y0)))
def f_X11_uses_4  : Nat → Int32 → Int32 → Int32 → ST → Option (ST)
  | 0, _, _, _, _ => none
  | n + 1, x1, x2, x3, σ => if (σ.1 0 92) ≤ x3 then (if x2 < 0 then (f_X11_uses_48  x1 x2 0 (σ.1 0 93) σ) else (f_X11_uses_48  x1 x2 1 (σ.1 0 93) σ)) else (if 0 ≤ x3.toInt ∧ x3.toInt < 4 then (if (σ.1 55 x3.toNatClampNeg) = x1 then (f_X11_uses_27 (f_X11_uses_4  n) x1 x3 x3 σ) else (f_X11_uses_27 (f_X11_uses_4  n) x1 x3 x2 σ)) else none)
def f_X11_uses (p0 : Int32) (σ : ST) : Option (ST) := f_X11_uses_4  FU p0 (-1) 0 σ

set_option maxRecDepth 100000 in
set_option maxHeartbeats 4000000 in
theorem b_X11_uses_27 {p : Program} {l : Launch} {e : Env} {s : State} {m : MethodId} {args : Array Value} {below : List Frame} {meth : Method} {c : Code} {dC : Nat → ClassId} {dI : Nat → Nat → Nat} {a : Nat → Nat} {k : Nat → ClassId} {A : Nat → Prop} {q : ST} (hC : CxB p s m args meth c dC dI k A cX11_uses RX11 none 4)  {k4 : Int32 → Int32 → Int32 → ST → Option (ST)} (hk4 : ∀ (x1 : Int32) (x2 : Int32) (x3 : Int32) (σ : ST), k4 x1 x2 x3 σ = some q → GoB p l e ({ frames := 0, cells := 0, slots := 0, locals := 0 } : Room) s m args below meth c (MQ below (qBv dC dI a k A q) args s 0 0 A) dC dI a k A 4 4 σ [(0, .ref (a 0)), (1, .int x1), (2, .int x2), (3, .int x3)] []) {x1 : Int32} {x3 : Int32} {y0 : Int32} {σ : ST} (h : f_X11_uses_27 k4 x1 x3 y0 σ = some q) : GoB p l e ({ frames := 0, cells := 0, slots := 0, locals := 0 } : Room) s m args below meth c (MQ below (qBv dC dI a k A q) args s 0 0 A) dC dI a k A 4 27 σ [(0, .ref (a 0)), (1, .int x1), (3, .int x3)] [.int y0] := by
  have hC0 := hC
  obtain ⟨hx, hb, hr, hml, hown, hts, hlocks, hA, hN, hK⟩ := hC0
  intro H locs ls hP hD hS hl
  have hD0 : ∀ σ1 : ST, va_D A (wB a k σ1) := fun σ1 => wB_D hD
  unfold f_X11_uses_27 at h
  refine lv_istore_n (lv' := [(2, .int y0), (0, .ref (a 0)), (1, .int x1), (3, .int x3)]) hx hb dX11_uses_27 rfl hl (by decide) rfl (fun ls hl => ?_)
  refine lv_iinc (v := (x3 + 1)) (lv' := [(3, .int (x3 + 1)), (2, .int y0), (0, .ref (a 0)), (1, .int x1)]) hx hb dX11_uses_28 hl (k := 3) rfl rfl (by decide) rfl (fun ls hl => ?_)
  refine lv_goto (tgt := 4) hx hb dX11_uses_31 (by decide) ?_
  exact hk4 _ _ _ _ h _ _ _ hP hD hS (lv_sub hl [2, 3, 1, 0] rfl)

set_option maxRecDepth 100000 in
set_option maxHeartbeats 4000000 in
theorem b_X11_uses_105 {p : Program} {l : Launch} {e : Env} {s : State} {m : MethodId} {args : Array Value} {below : List Frame} {meth : Method} {c : Code} {dC : Nat → ClassId} {dI : Nat → Nat → Nat} {a : Nat → Nat} {k : Nat → ClassId} {A : Nat → Prop} {q : ST} (hC : CxB p s m args meth c dC dI k A cX11_uses RX11 none 4)   : ∀ (n : Nat) (x1 : Int32) (x3 : Int32) (σ : ST), f_X11_uses_105  n x1 x3 σ = some q → GoB p l e ({ frames := 0, cells := 0, slots := 0, locals := 0 } : Room) s m args below meth c (MQ below (qBv dC dI a k A q) args s 0 0 A) dC dI a k A 4 105 σ [(0, .ref (a 0)), (1, .int x1), (3, .int x3)] [] := by
  intro n
  induction n with
  | zero =>
    intro x1 x3 σ h
    rw [f_X11_uses_105] at h
    cases h
  | succ n ih =>
    intro x1 x3 σ h
    have hC0 := hC
    obtain ⟨hx, hb, hr, hml, hown, hts, hlocks, hA, hN, hK⟩ := hC0
    intro H locs ls hP hD hS hl
    have hD0 : ∀ σ1 : ST, va_D A (wB a k σ1) := fun σ1 => wB_D hD
    rw [f_X11_uses_105] at h
    refine lv_iload_n hx hb dX11_uses_105 rfl (lv_at hl 2 rfl) ?_
    refine lv_if_le (tgt := 129) hx hb dX11_uses_106 (by decide) (fun hc => ?_) (fun hc => ?_)
    · replace h := ip hc h
      refine lv_aload_n hx hb dX11_uses_129 rfl (lv_at hl 0 rfl) ?_
      refine va_get (D := (dC, dI)) (ci := 11) (C := RX11) (T := TX11) (N := 95) hx hb hts inlX11 hown hK hP 0 gB_0 rfl 91 (by decide) (hts (.fieldLink RX11 175 "ShapeReaderModel" "keptPair" "[I") mw_28_21) (fun _ h9 => h9) rfl dX11_uses_130 ?_
      refine lv_iconst (v := 0) hx hb dX11_uses_133 (by decide) ?_
      refine lv_iload_n hx hb dX11_uses_134 rfl (lv_at hl 1 rfl) ?_
      refine va_iast hx hb hK hP hD hS 55 54 gB_55 yB_55 (vp_in_iff.mpr (by decide)) dX11_uses_135 (fun H locs hP hD hS => ?_)
      replace hP := uB_55 hP
      replace hD := hD0 ((stI σ 55 (0 : Int32).toNatClampNeg x1))
      obtain rfl := Option.some.inj h
      exact W.vret hx hb hr (fun t ht hW => ⟨⟨(), rfl, trivial, ⟨by rw [ht]; exact hP, va_K.moved hW.alike hK, hD⟩⟩, hS.F ht⟩) hS.2.2 dX11_uses_136
    · replace h := iq hc h
      refine lv_aload_n hx hb dX11_uses_109 rfl (lv_at hl 0 rfl) ?_
      refine va_get (D := (dC, dI)) (ci := 11) (C := RX11) (T := TX11) (N := 95) hx hb hts inlX11 hown hK hP 0 gB_0 rfl 91 (by decide) (hts (.fieldLink RX11 175 "ShapeReaderModel" "keptPair" "[I") mw_28_21) (fun _ h9 => h9) rfl dX11_uses_110 ?_
      refine lv_iload_n hx hb dX11_uses_113 rfl (lv_at hl 2 rfl) ?_
      refine lv_aload_n hx hb dX11_uses_114 rfl (lv_at hl 0 rfl) ?_
      refine va_get (D := (dC, dI)) (ci := 11) (C := RX11) (T := TX11) (N := 95) hx hb hts inlX11 hown hK hP 0 gB_0 rfl 91 (by decide) (hts (.fieldLink RX11 175 "ShapeReaderModel" "keptPair" "[I") mw_28_21) (fun _ h9 => h9) rfl dX11_uses_115 ?_
      refine lv_iload_n hx hb dX11_uses_118 rfl (lv_at hl 2 rfl) ?_
      refine lv_iconst (v := 1) hx hb dX11_uses_119 (by decide) ?_
      refine lv_isub hx hb dX11_uses_120 ?_
      obtain ⟨hg1, h⟩ := ig h
      refine va_iald hx hb hK hP 55 54 gB_55 yB_55 (vp_in_iff.mpr hg1) dX11_uses_121 ?_
      obtain ⟨hg2, h⟩ := ig h
      refine va_iast hx hb hK hP hD hS 55 54 gB_55 yB_55 (vp_in_iff.mpr hg2) dX11_uses_122 (fun H locs hP hD hS => ?_)
      replace hP := uB_55 hP
      replace hD := hD0 ((stI σ 55 x3.toNatClampNeg (σ.1 55 (x3 - 1).toNatClampNeg)))
      refine lv_iinc (v := (x3 + (-1))) (lv' := [(3, .int (x3 + (-1))), (0, .ref (a 0)), (1, .int x1)]) hx hb dX11_uses_123 hl (k := 2) rfl rfl (by decide) rfl (fun ls hl => ?_)
      refine lv_goto (tgt := 105) hx hb dX11_uses_126 (by decide) ?_
      exact ih _ _ _ h _ _ _ hP hD hS (lv_sub hl [1, 2, 0] rfl)

set_option maxRecDepth 100000 in
set_option maxHeartbeats 4000000 in
theorem b_X11_uses_103 {p : Program} {l : Launch} {e : Env} {s : State} {m : MethodId} {args : Array Value} {below : List Frame} {meth : Method} {c : Code} {dC : Nat → ClassId} {dI : Nat → Nat → Nat} {a : Nat → Nat} {k : Nat → ClassId} {A : Nat → Prop} {q : ST} (hC : CxB p s m args meth c dC dI k A cX11_uses RX11 none 4)   {x1 : Int32} {x2 : Int32} {σ : ST} (h : f_X11_uses_103  x1 x2 σ = some q) : GoB p l e ({ frames := 0, cells := 0, slots := 0, locals := 0 } : Room) s m args below meth c (MQ below (qBv dC dI a k A q) args s 0 0 A) dC dI a k A 4 103 σ [(0, .ref (a 0)), (1, .int x1), (2, .int x2)] [] := by
  have hC0 := hC
  obtain ⟨hx, hb, hr, hml, hown, hts, hlocks, hA, hN, hK⟩ := hC0
  intro H locs ls hP hD hS hl
  have hD0 : ∀ σ1 : ST, va_D A (wB a k σ1) := fun σ1 => wB_D hD
  unfold f_X11_uses_103 at h
  refine lv_iload_n hx hb dX11_uses_103 rfl (lv_at hl 2 rfl) ?_
  refine lv_istore_n (lv' := [(3, .int x2), (0, .ref (a 0)), (1, .int x1), (2, .int x2)]) hx hb dX11_uses_104 rfl hl (by decide) rfl (fun ls hl => ?_)
  exact b_X11_uses_105 hC FU _ _ _ h _ _ _ hP hD hS (lv_sub hl [1, 2, 0] rfl)

set_option maxRecDepth 100000 in
set_option maxHeartbeats 4000000 in
theorem b_X11_uses_93 {p : Program} {l : Launch} {e : Env} {s : State} {m : MethodId} {args : Array Value} {below : List Frame} {meth : Method} {c : Code} {dC : Nat → ClassId} {dI : Nat → Nat → Nat} {a : Nat → Nat} {k : Nat → ClassId} {A : Nat → Prop} {q : ST} (hC : CxB p s m args meth c dC dI k A cX11_uses RX11 none 4)   {x1 : Int32} {y0 : Int32} {σ : ST} (h : f_X11_uses_93  x1 y0 σ = some q) : GoB p l e ({ frames := 0, cells := 0, slots := 0, locals := 0 } : Room) s m args below meth c (MQ below (qBv dC dI a k A q) args s 0 0 A) dC dI a k A 4 93 σ [(0, .ref (a 0)), (1, .int x1)] [.int y0, .ref (a 0)] := by
  have hC0 := hC
  obtain ⟨hx, hb, hr, hml, hown, hts, hlocks, hA, hN, hK⟩ := hC0
  intro H locs ls hP hD hS hl
  have hD0 : ∀ σ1 : ST, va_D A (wB a k σ1) := fun σ1 => wB_D hD
  unfold f_X11_uses_93 at h
  refine va_put (D := (dC, dI)) (ci := 11) (ty := .int) (C := RX11) (T := TX11) (N := 95) hx hb hts inlX11 tyX11 tyX11_ok nmX11 hown hK hP hD hS 0 gB_0 rfl 92 (by decide) (hts (.fieldLink RX11 398 "ShapeReaderModel" "keptMany" "I") mw_33_19) (fun _ h9 => h9) rfl (by decide +kernel) rfl rfl (Nat.le_of_ble_eq_true rfl) dX11_uses_93 (fun H locs hP hD hS => ?_)
  replace hP := uB_0_92 hP
  replace hD := hD0 ((stI σ 0 92 y0))
  refine lv_aload_n hx hb dX11_uses_96 rfl (lv_at hl 0 rfl) ?_
  refine va_get (D := (dC, dI)) (ci := 11) (C := RX11) (T := TX11) (N := 95) hx hb hts inlX11 hown hK hP 0 gB_0 rfl 92 (by decide) (hts (.fieldLink RX11 398 "ShapeReaderModel" "keptMany" "I") mw_33_19) (fun _ h9 => h9) rfl dX11_uses_97 ?_
  refine lv_iconst (v := 1) hx hb dX11_uses_100 (by decide) ?_
  refine lv_isub hx hb dX11_uses_101 ?_
  refine lv_istore_n (lv' := [(2, .int (((stI σ 0 92 y0).1 0 92) - 1)), (0, .ref (a 0)), (1, .int x1)]) hx hb dX11_uses_102 rfl hl (by decide) rfl (fun ls hl => ?_)
  exact b_X11_uses_103 hC h _ _ _ hP hD hS (lv_sub hl [1, 2, 0] rfl)

set_option maxRecDepth 100000 in
set_option maxHeartbeats 4000000 in
theorem b_X11_uses_66 {p : Program} {l : Launch} {e : Env} {s : State} {m : MethodId} {args : Array Value} {below : List Frame} {meth : Method} {c : Code} {dC : Nat → ClassId} {dI : Nat → Nat → Nat} {a : Nat → Nat} {k : Nat → ClassId} {A : Nat → Prop} {q : ST} (hC : CxB p s m args meth c dC dI k A cX11_uses RX11 none 4)   {x1 : Int32} {x2 : Int32} {y0 : Int32} {y1 : Int32} {σ : ST} (h : f_X11_uses_66  x1 x2 y0 y1 σ = some q) : GoB p l e ({ frames := 0, cells := 0, slots := 0, locals := 0 } : Room) s m args below meth c (MQ below (qBv dC dI a k A q) args s 0 0 A) dC dI a k A 4 66 σ [(0, .ref (a 0)), (1, .int x1), (2, .int x2)] [.int y0, .int y1, .ref (a 0)] := by
  have hC0 := hC
  obtain ⟨hx, hb, hr, hml, hown, hts, hlocks, hA, hN, hK⟩ := hC0
  intro H locs ls hP hD hS hl
  have hD0 : ∀ σ1 : ST, va_D A (wB a k σ1) := fun σ1 => wB_D hD
  unfold f_X11_uses_66 at h
  refine lv_iadd hx hb dX11_uses_66 ?_
  refine va_put (D := (dC, dI)) (ci := 11) (ty := .int) (C := RX11) (T := TX11) (N := 95) hx hb hts inlX11 tyX11 tyX11_ok nmX11 hown hK hP hD hS 0 gB_0 rfl 94 (by decide) (hts (.fieldLink RX11 404 "ShapeReaderModel" "notFound" "I") mw_33_21) (fun _ h9 => h9) rfl (by decide +kernel) rfl rfl (Nat.le_of_ble_eq_true rfl) dX11_uses_67 (fun H locs hP hD hS => ?_)
  replace hP := uB_0_94 hP
  replace hD := hD0 ((stI σ 0 94 (y1 + y0)))
  refine lv_iload_n hx hb dX11_uses_70 rfl (lv_at hl 2 rfl) ?_
  refine lv_if_ge (tgt := 103) hx hb dX11_uses_71 (by decide) (fun hc => ?_) (fun hc => ?_)
  · replace h := ip hc h
    exact b_X11_uses_103 hC h _ _ _ hP hD hS (lv_sub hl [0, 1, 2] rfl)
  · replace h := iq hc h
    refine lv_aload_n hx hb dX11_uses_74 rfl (lv_at hl 0 rfl) ?_
    refine lv_aload_n hx hb dX11_uses_75 rfl (lv_at hl 0 rfl) ?_
    refine va_get (D := (dC, dI)) (ci := 11) (C := RX11) (T := TX11) (N := 95) hx hb hts inlX11 hown hK hP 0 gB_0 rfl 92 (by decide) (hts (.fieldLink RX11 398 "ShapeReaderModel" "keptMany" "I") mw_33_19) (fun _ h9 => h9) rfl dX11_uses_76 ?_
    refine lv_iconst (v := 4) hx hb dX11_uses_79 (by decide) ?_
    refine lv_icmp_ge (tgt := 92) hx hb dX11_uses_80 (by decide) (fun hc => ?_) (fun hc => ?_)
    · replace h := ip hc h
      refine lv_iconst (v := 4) hx hb dX11_uses_92 (by decide) ?_
      exact b_X11_uses_93 hC h _ _ _ hP hD hS (lv_sub hl [0, 1] rfl)
    · replace h := iq hc h
      refine lv_aload_n hx hb dX11_uses_83 rfl (lv_at hl 0 rfl) ?_
      refine va_get (D := (dC, dI)) (ci := 11) (C := RX11) (T := TX11) (N := 95) hx hb hts inlX11 hown hK hP 0 gB_0 rfl 92 (by decide) (hts (.fieldLink RX11 398 "ShapeReaderModel" "keptMany" "I") mw_33_19) (fun _ h9 => h9) rfl dX11_uses_84 ?_
      refine lv_iconst (v := 1) hx hb dX11_uses_87 (by decide) ?_
      refine lv_iadd hx hb dX11_uses_88 ?_
      refine lv_goto (tgt := 93) hx hb dX11_uses_89 (by decide) ?_
      exact b_X11_uses_93 hC h _ _ _ hP hD hS (lv_sub hl [0, 1] rfl)

set_option maxRecDepth 100000 in
set_option maxHeartbeats 4000000 in
theorem b_X11_uses_48 {p : Program} {l : Launch} {e : Env} {s : State} {m : MethodId} {args : Array Value} {below : List Frame} {meth : Method} {c : Code} {dC : Nat → ClassId} {dI : Nat → Nat → Nat} {a : Nat → Nat} {k : Nat → ClassId} {A : Nat → Prop} {q : ST} (hC : CxB p s m args meth c dC dI k A cX11_uses RX11 none 4)   {x1 : Int32} {x2 : Int32} {y0 : Int32} {y1 : Int32} {σ : ST} (h : f_X11_uses_48  x1 x2 y0 y1 σ = some q) : GoB p l e ({ frames := 0, cells := 0, slots := 0, locals := 0 } : Room) s m args below meth c (MQ below (qBv dC dI a k A q) args s 0 0 A) dC dI a k A 4 48 σ [(0, .ref (a 0)), (1, .int x1), (2, .int x2)] [.int y0, .int y1, .ref (a 0)] := by
  have hC0 := hC
  obtain ⟨hx, hb, hr, hml, hown, hts, hlocks, hA, hN, hK⟩ := hC0
  intro H locs ls hP hD hS hl
  have hD0 : ∀ σ1 : ST, va_D A (wB a k σ1) := fun σ1 => wB_D hD
  unfold f_X11_uses_48 at h
  refine lv_iadd hx hb dX11_uses_48 ?_
  refine va_put (D := (dC, dI)) (ci := 11) (ty := .int) (C := RX11) (T := TX11) (N := 95) hx hb hts inlX11 tyX11 tyX11_ok nmX11 hown hK hP hD hS 0 gB_0 rfl 93 (by decide) (hts (.fieldLink RX11 401 "ShapeReaderModel" "found" "I") mw_33_20) (fun _ h9 => h9) rfl (by decide +kernel) rfl rfl (Nat.le_of_ble_eq_true rfl) dX11_uses_49 (fun H locs hP hD hS => ?_)
  replace hP := uB_0_93 hP
  replace hD := hD0 ((stI σ 0 93 (y1 + y0)))
  refine lv_aload_n hx hb dX11_uses_52 rfl (lv_at hl 0 rfl) ?_
  refine lv_dup hx hb dX11_uses_53 rfl ?_
  refine va_get (D := (dC, dI)) (ci := 11) (C := RX11) (T := TX11) (N := 95) hx hb hts inlX11 hown hK hP 0 gB_0 rfl 94 (by decide) (hts (.fieldLink RX11 404 "ShapeReaderModel" "notFound" "I") mw_33_21) (fun _ h9 => h9) rfl dX11_uses_54 ?_
  refine lv_iload_n hx hb dX11_uses_57 rfl (lv_at hl 2 rfl) ?_
  refine lv_if_ge (tgt := 65) hx hb dX11_uses_58 (by decide) (fun hc => ?_) (fun hc => ?_)
  · replace h := ip hc h
    refine lv_iconst (v := 0) hx hb dX11_uses_65 (by decide) ?_
    exact b_X11_uses_66 hC h _ _ _ hP hD hS (lv_sub hl [0, 1, 2] rfl)
  · replace h := iq hc h
    refine lv_iconst (v := 1) hx hb dX11_uses_61 (by decide) ?_
    refine lv_goto (tgt := 66) hx hb dX11_uses_62 (by decide) ?_
    exact b_X11_uses_66 hC h _ _ _ hP hD hS (lv_sub hl [0, 1, 2] rfl)

set_option maxRecDepth 100000 in
set_option maxHeartbeats 4000000 in
theorem b_X11_uses_4 {p : Program} {l : Launch} {e : Env} {s : State} {m : MethodId} {args : Array Value} {below : List Frame} {meth : Method} {c : Code} {dC : Nat → ClassId} {dI : Nat → Nat → Nat} {a : Nat → Nat} {k : Nat → ClassId} {A : Nat → Prop} {q : ST} (hC : CxB p s m args meth c dC dI k A cX11_uses RX11 none 4)   : ∀ (n : Nat) (x1 : Int32) (x2 : Int32) (x3 : Int32) (σ : ST), f_X11_uses_4  n x1 x2 x3 σ = some q → GoB p l e ({ frames := 0, cells := 0, slots := 0, locals := 0 } : Room) s m args below meth c (MQ below (qBv dC dI a k A q) args s 0 0 A) dC dI a k A 4 4 σ [(0, .ref (a 0)), (1, .int x1), (2, .int x2), (3, .int x3)] [] := by
  intro n
  induction n with
  | zero =>
    intro x1 x2 x3 σ h
    rw [f_X11_uses_4] at h
    cases h
  | succ n ih =>
    intro x1 x2 x3 σ h
    have hC0 := hC
    obtain ⟨hx, hb, hr, hml, hown, hts, hlocks, hA, hN, hK⟩ := hC0
    intro H locs ls hP hD hS hl
    have hD0 : ∀ σ1 : ST, va_D A (wB a k σ1) := fun σ1 => wB_D hD
    rw [f_X11_uses_4] at h
    refine lv_iload_n hx hb dX11_uses_4 rfl (lv_at hl 3 rfl) ?_
    refine lv_aload_n hx hb dX11_uses_5 rfl (lv_at hl 0 rfl) ?_
    refine va_get (D := (dC, dI)) (ci := 11) (C := RX11) (T := TX11) (N := 95) hx hb hts inlX11 hown hK hP 0 gB_0 rfl 92 (by decide) (hts (.fieldLink RX11 398 "ShapeReaderModel" "keptMany" "I") mw_33_19) (fun _ h9 => h9) rfl dX11_uses_6 ?_
    refine lv_icmp_ge (tgt := 34) hx hb dX11_uses_9 (by decide) (fun hc => ?_) (fun hc => ?_)
    · replace h := ip hc h
      refine lv_aload_n hx hb dX11_uses_34 rfl (lv_at hl 0 rfl) ?_
      refine lv_dup hx hb dX11_uses_35 rfl ?_
      refine va_get (D := (dC, dI)) (ci := 11) (C := RX11) (T := TX11) (N := 95) hx hb hts inlX11 hown hK hP 0 gB_0 rfl 93 (by decide) (hts (.fieldLink RX11 401 "ShapeReaderModel" "found" "I") mw_33_20) (fun _ h9 => h9) rfl dX11_uses_36 ?_
      refine lv_iload_n hx hb dX11_uses_39 rfl (lv_at hl 2 rfl) ?_
      refine lv_if_lt (tgt := 47) hx hb dX11_uses_40 (by decide) (fun hc => ?_) (fun hc => ?_)
      · replace h := ip hc h
        refine lv_iconst (v := 0) hx hb dX11_uses_47 (by decide) ?_
        exact b_X11_uses_48 hC h _ _ _ hP hD hS (lv_sub hl [0, 1, 2] rfl)
      · replace h := iq hc h
        refine lv_iconst (v := 1) hx hb dX11_uses_43 (by decide) ?_
        refine lv_goto (tgt := 48) hx hb dX11_uses_44 (by decide) ?_
        exact b_X11_uses_48 hC h _ _ _ hP hD hS (lv_sub hl [0, 1, 2] rfl)
    · replace h := iq hc h
      refine lv_aload_n hx hb dX11_uses_12 rfl (lv_at hl 0 rfl) ?_
      refine va_get (D := (dC, dI)) (ci := 11) (C := RX11) (T := TX11) (N := 95) hx hb hts inlX11 hown hK hP 0 gB_0 rfl 91 (by decide) (hts (.fieldLink RX11 175 "ShapeReaderModel" "keptPair" "[I") mw_28_21) (fun _ h9 => h9) rfl dX11_uses_13 ?_
      refine lv_iload_n hx hb dX11_uses_16 rfl (lv_at hl 3 rfl) ?_
      obtain ⟨hg1, h⟩ := ig h
      refine va_iald hx hb hK hP 55 54 gB_55 yB_55 (vp_in_iff.mpr hg1) dX11_uses_17 ?_
      refine lv_iload_n hx hb dX11_uses_18 rfl (lv_at hl 1 rfl) ?_
      refine lv_icmp_ne (tgt := 26) hx hb dX11_uses_19 (by decide) (fun hc => ?_) (fun hc => ?_)
      · replace h := iq hc h
        refine lv_iload_n hx hb dX11_uses_26 rfl (lv_at hl 2 rfl) ?_
        exact b_X11_uses_27 hC ih h _ _ _ hP hD hS (lv_sub hl [0, 1, 3] rfl)
      · replace h := ip hc h
        refine lv_iload_n hx hb dX11_uses_22 rfl (lv_at hl 3 rfl) ?_
        refine lv_goto (tgt := 27) hx hb dX11_uses_23 (by decide) ?_
        exact b_X11_uses_27 hC ih h _ _ _ hP hD hS (lv_sub hl [0, 1, 3] rfl)

set_option maxRecDepth 100000 in
set_option maxHeartbeats 4000000 in
theorem b_X11_uses_e {p : Program} {l : Launch} {e : Env} {s : State} {m : MethodId} {args : Array Value} {below : List Frame} {meth : Method} {c : Code} {dC : Nat → ClassId} {dI : Nat → Nat → Nat} {a : Nat → Nat} {k : Nat → ClassId} {A : Nat → Prop} {q : ST} (hC : CxB p s m args meth c dC dI k A cX11_uses RX11 none 4)   {p0 : Int32} {σ : ST} (h : f_X11_uses  p0 σ = some q) : GoB p l e ({ frames := 0, cells := 0, slots := 0, locals := 0 } : Room) s m args below meth c (MQ below (qBv dC dI a k A q) args s 0 0 A) dC dI a k A 4 0 σ (lv_args 0 [.ref (a 0), .int p0]) [] := by
  have hC0 := hC
  obtain ⟨hx, hb, hr, hml, hown, hts, hlocks, hA, hN, hK⟩ := hC0
  intro H locs ls hP hD hS hl
  have hD0 : ∀ σ1 : ST, va_D A (wB a k σ1) := fun σ1 => wB_D hD
  replace hl : lv_has ls 4 [(0, .ref (a 0)), (1, .int p0)] := hl
  unfold f_X11_uses at h
  refine lv_iconst (v := (-1)) hx hb dX11_uses_0 (by decide) ?_
  refine lv_istore_n (lv' := [(2, .int (-1)), (0, .ref (a 0)), (1, .int p0)]) hx hb dX11_uses_1 rfl hl (by decide) rfl (fun ls hl => ?_)
  refine lv_iconst (v := 0) hx hb dX11_uses_2 (by decide) ?_
  refine lv_istore_n (lv' := [(3, .int 0), (2, .int (-1)), (0, .ref (a 0)), (1, .int p0)]) hx hb dX11_uses_3 rfl hl (by decide) rfl (fun ls hl => ?_)
  exact b_X11_uses_4 hC FU _ _ _ _ h _ _ _ hP hD hS (lv_sub hl [2, 3, 1, 0] rfl)

theorem s_X11_uses {l : Launch} {dC : Nat → ClassId} {dI : Nat → Nat → Nat} {a : Nat → Nat} {k : Nat → ClassId} {sz : Nat} {p0 : Int32} {σ : ST} {q : ST} (h : f_X11_uses  p0 σ = some q) : Met l yX11_uses (.code yX11_uses cX11_uses 4 none :: pw) ({ frames := 0, cells := 0, slots := 0, locals := 0 } : Room) (va_Pc [.ref (a 0), .int p0] (vPre dC dI (wB a k σ) (tB k) sz)) (qBv dC dI a k (va_A (wB a k σ) sz) q) 0 0 (va_A (wB a k σ) sz) := metB (fun A => qBv dC dI a k A q) (plainFor_of_name (by decide)) (Nat.le_of_ble_eq_true rfl) (fun _ _ _ _ _ _ _ _ hC => b_X11_uses_e hC h)

def f_X11_writesByte (p0 : Int64) (σ : ST) : Option (ST) := if (σ.1 0 48) = 400 then (some (stI σ 0 49 1)) else (if 0 ≤ (σ.1 0 48).toInt ∧ (σ.1 0 48).toInt < 400 then ((some (stI (stI σ 31 (σ.1 0 48).toNatClampNeg (vp_nar .byte ((p0.toInt32).toInt8.toInt32))) 0 48 (((stI σ 31 (σ.1 0 48).toNatClampNeg (vp_nar .byte ((p0.toInt32).toInt8.toInt32))).1 0 48) + 1))).bind fun z2 => some z2) else none)

set_option maxRecDepth 100000 in
set_option maxHeartbeats 4000000 in
theorem b_X11_writesByte_e {p : Program} {l : Launch} {e : Env} {s : State} {m : MethodId} {args : Array Value} {below : List Frame} {meth : Method} {c : Code} {dC : Nat → ClassId} {dI : Nat → Nat → Nat} {a : Nat → Nat} {k : Nat → ClassId} {A : Nat → Prop} {q : ST} (hC : CxB p s m args meth c dC dI k A cX11_writesByte RX11 none 3)   {p0 : Int64} {σ : ST} (h : f_X11_writesByte  p0 σ = some q) : GoB p l e ({ frames := 0, cells := 0, slots := 0, locals := 0 } : Room) s m args below meth c (MQ below (qBv dC dI a k A q) args s 0 0 A) dC dI a k A 3 0 σ (lv_args 0 [.ref (a 0), .long p0]) [] := by
  have hC0 := hC
  obtain ⟨hx, hb, hr, hml, hown, hts, hlocks, hA, hN, hK⟩ := hC0
  intro H locs ls hP hD hS hl
  have hD0 : ∀ σ1 : ST, va_D A (wB a k σ1) := fun σ1 => wB_D hD
  replace hl : lv_has ls 3 [(0, .ref (a 0)), (1, .long p0)] := hl
  unfold f_X11_writesByte at h
  refine lv_aload_n hx hb dX11_writesByte_0 rfl (lv_at hl 0 rfl) ?_
  refine va_get (D := (dC, dI)) (ci := 11) (C := RX11) (T := TX11) (N := 95) hx hb hts inlX11 hown hK hP 0 gB_0 rfl 48 (by decide) (hts (.fieldLink RX11 448 "ShapeReaderModel" "writtenMany" "I") mw_34_26) (fun _ h9 => h9) rfl dX11_writesByte_1 ?_
  refine lv_sipush (v := 400) hx hb dX11_writesByte_4 (by decide) ?_
  refine lv_icmp_ne (tgt := 18) hx hb dX11_writesByte_7 (by decide) (fun hc => ?_) (fun hc => ?_)
  · replace h := iq hc h
    refine lv_aload_n hx hb dX11_writesByte_18 rfl (lv_at hl 0 rfl) ?_
    refine va_get (D := (dC, dI)) (ci := 11) (C := RX11) (T := TX11) (N := 95) hx hb hts inlX11 hown hK hP 0 gB_0 rfl 47 (by decide) (hts (.fieldLink RX11 103 "ShapeReaderModel" "written" "[B") mw_27_27) (fun _ h9 => h9) rfl dX11_writesByte_19 ?_
    refine lv_aload_n hx hb dX11_writesByte_22 rfl (lv_at hl 0 rfl) ?_
    refine va_get (D := (dC, dI)) (ci := 11) (C := RX11) (T := TX11) (N := 95) hx hb hts inlX11 hown hK hP 0 gB_0 rfl 48 (by decide) (hts (.fieldLink RX11 448 "ShapeReaderModel" "writtenMany" "I") mw_34_26) (fun _ h9 => h9) rfl dX11_writesByte_23 ?_
    refine lv_lload_n hx hb dX11_writesByte_26 rfl (lv_at hl 1 rfl) ?_
    refine lv_l2i (v := p0.toInt32) hx hb dX11_writesByte_27 rfl ?_
    refine lv_i2b (v := (p0.toInt32).toInt8.toInt32) hx hb dX11_writesByte_28 rfl ?_
    obtain ⟨hg1, h⟩ := ig h
    refine va_bast hx hb hK hP hD hS 31 30 gB_31 yB_31 (vp_in_iff.mpr hg1) dX11_writesByte_29 (fun H locs hP hD hS => ?_)
    replace hP := uB_31 hP
    replace hD := hD0 ((stI σ 31 (σ.1 0 48).toNatClampNeg (vp_nar .byte ((p0.toInt32).toInt8.toInt32))))
    refine lv_aload_n hx hb dX11_writesByte_30 rfl (lv_at hl 0 rfl) ?_
    refine lv_dup hx hb dX11_writesByte_31 rfl ?_
    refine va_get (D := (dC, dI)) (ci := 11) (C := RX11) (T := TX11) (N := 95) hx hb hts inlX11 hown hK hP 0 gB_0 rfl 48 (by decide) (hts (.fieldLink RX11 448 "ShapeReaderModel" "writtenMany" "I") mw_34_26) (fun _ h9 => h9) rfl dX11_writesByte_32 ?_
    refine lv_iconst (v := 1) hx hb dX11_writesByte_35 (by decide) ?_
    refine lv_iadd hx hb dX11_writesByte_36 ?_
    refine va_put (D := (dC, dI)) (ci := 11) (ty := .int) (C := RX11) (T := TX11) (N := 95) hx hb hts inlX11 tyX11 tyX11_ok nmX11 hown hK hP hD hS 0 gB_0 rfl 48 (by decide) (hts (.fieldLink RX11 448 "ShapeReaderModel" "writtenMany" "I") mw_34_26) (fun _ h9 => h9) rfl (by decide +kernel) rfl rfl (Nat.le_of_ble_eq_true rfl) dX11_writesByte_37 (fun H locs hP hD hS => ?_)
    replace hP := uB_0_48 hP
    replace hD := hD0 ((stI (stI σ 31 (σ.1 0 48).toNatClampNeg (vp_nar .byte ((p0.toInt32).toInt8.toInt32))) 0 48 (((stI σ 31 (σ.1 0 48).toNatClampNeg (vp_nar .byte ((p0.toInt32).toInt8.toInt32))).1 0 48) + 1)))
    obtain ⟨z2, hs, h⟩ := ib h
    replace hs := Option.some.inj hs
    replace hP : va_P (dC, dI) vwCl (wB a k z2) H := by rw [← hs]; exact hP
    replace hD := hD0 z2
    clear hs
    obtain rfl := Option.some.inj h
    exact W.vret hx hb hr (fun t ht hW => ⟨⟨(), rfl, trivial, ⟨by rw [ht]; exact hP, va_K.moved hW.alike hK, hD⟩⟩, hS.F ht⟩) hS.2.2 dX11_writesByte_40
  · replace h := ip hc h
    refine lv_aload_n hx hb dX11_writesByte_10 rfl (lv_at hl 0 rfl) ?_
    refine lv_iconst (v := 1) hx hb dX11_writesByte_11 (by decide) ?_
    refine va_put (D := (dC, dI)) (ci := 11) (ty := .boolean) (C := RX11) (T := TX11) (N := 95) hx hb hts inlX11 tyX11 tyX11_ok nmX11 hown hK hP hD hS 0 gB_0 rfl 49 (by decide) (hts (.fieldLink RX11 451 "ShapeReaderModel" "isTooLong" "Z") mw_34_27) (fun _ h9 => h9) rfl (by decide +kernel) rfl rfl (Nat.le_of_ble_eq_true rfl) dX11_writesByte_12 (fun H locs hP hD hS => ?_)
    replace hP := uB_0_49 hP
    replace hD := hD0 ((stI σ 0 49 1))
    refine lv_goto (tgt := 40) hx hb dX11_writesByte_15 (by decide) ?_
    obtain rfl := Option.some.inj h
    exact W.vret hx hb hr (fun t ht hW => ⟨⟨(), rfl, trivial, ⟨by rw [ht]; exact hP, va_K.moved hW.alike hK, hD⟩⟩, hS.F ht⟩) hS.2.2 dX11_writesByte_40

theorem s_X11_writesByte {l : Launch} {dC : Nat → ClassId} {dI : Nat → Nat → Nat} {a : Nat → Nat} {k : Nat → ClassId} {sz : Nat} {p0 : Int64} {σ : ST} {q : ST} (h : f_X11_writesByte  p0 σ = some q) : Met l yX11_writesByte (.code yX11_writesByte cX11_writesByte 3 none :: pw) ({ frames := 0, cells := 0, slots := 0, locals := 0 } : Room) (va_Pc [.ref (a 0), .long p0] (vPre dC dI (wB a k σ) (tB k) sz)) (qBv dC dI a k (va_A (wB a k σ) sz) q) 0 0 (va_A (wB a k σ) sz) := metB (fun A => qBv dC dI a k A q) (plainFor_of_name (by decide)) (Nat.le_of_ble_eq_true rfl) (fun _ _ _ _ _ _ _ _ hC => b_X11_writesByte_e hC h)
