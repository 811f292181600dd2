theorem dX11_count_0 : decode cX11_count 0 = .ok (.aload_n 0, 1) := by decide +kernel
theorem dX11_count_1 : decode cX11_count 1 = .ok (.iconst 0, 1) := by decide +kernel
theorem dX11_count_2 : decode cX11_count 2 = .ok (.putfield 178, 3) := by decide +kernel
theorem dX11_count_5 : decode cX11_count 5 = .ok (.iload_n 1, 1) := by decide +kernel
theorem dX11_count_6 : decode cX11_count 6 = .ok (.tableswitch 68 0 5 #[38, 43, 48, 53, 58, 63], 38) := by decide +kernel
theorem dX11_count_44 : decode cX11_count 44 = .ok (.aload_n 0, 1) := by decide +kernel
theorem dX11_count_45 : decode cX11_count 45 = .ok (.getfield 377, 3) := by decide +kernel
theorem dX11_count_48 : decode cX11_count 48 = .ok (.ireturn, 1) := by decide +kernel
theorem dX11_count_49 : decode cX11_count 49 = .ok (.aload_n 0, 1) := by decide +kernel
theorem dX11_count_50 : decode cX11_count 50 = .ok (.invokevirtual 635, 3) := by decide +kernel
theorem dX11_count_53 : decode cX11_count 53 = .ok (.ireturn, 1) := by decide +kernel
theorem dX11_count_54 : decode cX11_count 54 = .ok (.aload_n 0, 1) := by decide +kernel
theorem dX11_count_55 : decode cX11_count 55 = .ok (.getfield 392, 3) := by decide +kernel
theorem dX11_count_58 : decode cX11_count 58 = .ok (.ireturn, 1) := by decide +kernel
theorem dX11_count_59 : decode cX11_count 59 = .ok (.aload_n 0, 1) := by decide +kernel
theorem dX11_count_60 : decode cX11_count 60 = .ok (.getfield 401, 3) := by decide +kernel
theorem dX11_count_63 : decode cX11_count 63 = .ok (.ireturn, 1) := by decide +kernel
theorem dX11_count_64 : decode cX11_count 64 = .ok (.aload_n 0, 1) := by decide +kernel
theorem dX11_count_65 : decode cX11_count 65 = .ok (.getfield 404, 3) := by decide +kernel
theorem dX11_count_68 : decode cX11_count 68 = .ok (.ireturn, 1) := by decide +kernel
theorem dX11_count_69 : decode cX11_count 69 = .ok (.aload_n 0, 1) := by decide +kernel
theorem dX11_count_70 : decode cX11_count 70 = .ok (.getfield 182, 3) := by decide +kernel
theorem dX11_count_73 : decode cX11_count 73 = .ok (.ireturn, 1) := by decide +kernel
theorem dX11_count_74 : decode cX11_count 74 = .ok (.iconst (-1), 1) := by decide +kernel
theorem dX11_count_75 : decode cX11_count 75 = .ok (.ireturn, 1) := by decide +kernel
theorem dX11_cut_0 : decode cX11_cut 0 = .ok (.aload_n 0, 1) := by decide +kernel
theorem dX11_cut_1 : decode cX11_cut 1 = .ok (.iconst 0, 1) := by decide +kernel
theorem dX11_cut_2 : decode cX11_cut 2 = .ok (.putfield 178, 3) := by decide +kernel
theorem dX11_cut_5 : decode cX11_cut 5 = .ok (.aload_n 0, 1) := by decide +kernel
theorem dX11_cut_6 : decode cX11_cut 6 = .ok (.iload_n 1, 1) := by decide +kernel
theorem dX11_cut_7 : decode cX11_cut 7 = .ok (.invokevirtual 486, 3) := by decide +kernel
theorem dX11_cut_10 : decode cX11_cut 10 = .ok (.ifCond .eq 19, 3) := by decide +kernel
theorem dX11_cut_13 : decode cX11_cut 13 = .ok (.iload_n 2, 1) := by decide +kernel
theorem dX11_cut_14 : decode cX11_cut 14 = .ok (.i2l, 1) := by decide +kernel
theorem dX11_cut_15 : decode cX11_cut 15 = .ok (.lconst 0, 1) := by decide +kernel
theorem dX11_cut_16 : decode cX11_cut 16 = .ok (.aload_n 0, 1) := by decide +kernel
theorem dX11_cut_17 : decode cX11_cut 17 = .ok (.getfield 109, 3) := by decide +kernel
theorem dX11_cut_20 : decode cX11_cut 20 = .ok (.iload_n 1, 1) := by decide +kernel
theorem dX11_cut_21 : decode cX11_cut 21 = .ok (.iaload, 1) := by decide +kernel
theorem dX11_cut_22 : decode cX11_cut 22 = .ok (.i2l, 1) := by decide +kernel
theorem dX11_cut_23 : decode cX11_cut 23 = .ok (.invokestatic 196, 3) := by decide +kernel
theorem dX11_cut_26 : decode cX11_cut 26 = .ok (.ifCond .ne 5, 3) := by decide +kernel
theorem dX11_cut_29 : decode cX11_cut 29 = .ok (.iconst (-1), 1) := by decide +kernel
theorem dX11_cut_30 : decode cX11_cut 30 = .ok (.ireturn, 1) := by decide +kernel
theorem dX11_cut_31 : decode cX11_cut 31 = .ok (.aload_n 0, 1) := by decide +kernel
theorem dX11_cut_32 : decode cX11_cut 32 = .ok (.getfield 109, 3) := by decide +kernel
theorem dX11_cut_35 : decode cX11_cut 35 = .ok (.iload_n 1, 1) := by decide +kernel
theorem dX11_cut_36 : decode cX11_cut 36 = .ok (.iaload, 1) := by decide +kernel
theorem dX11_cut_37 : decode cX11_cut 37 = .ok (.istore_n 3, 1) := by decide +kernel
theorem dX11_cut_38 : decode cX11_cut 38 = .ok (.aload_n 0, 1) := by decide +kernel
theorem dX11_cut_39 : decode cX11_cut 39 = .ok (.getfield 109, 3) := by decide +kernel
theorem dX11_cut_42 : decode cX11_cut 42 = .ok (.iload_n 1, 1) := by decide +kernel
theorem dX11_cut_43 : decode cX11_cut 43 = .ok (.iload_n 2, 1) := by decide +kernel
theorem dX11_cut_44 : decode cX11_cut 44 = .ok (.iastore, 1) := by decide +kernel
theorem dX11_cut_45 : decode cX11_cut 45 = .ok (.iload_n 3, 1) := by decide +kernel
theorem dX11_cut_46 : decode cX11_cut 46 = .ok (.ireturn, 1) := by decide +kernel
theorem dX11_elseOf_0 : decode cX11_elseOf 0 = .ok (.aload_n 0, 1) := by decide +kernel
theorem dX11_elseOf_1 : decode cX11_elseOf 1 = .ok (.invokevirtual 338, 3) := by decide +kernel
theorem dX11_elseOf_4 : decode cX11_elseOf 4 = .ok (.ifCond .ne 9, 3) := by decide +kernel
theorem dX11_elseOf_7 : decode cX11_elseOf 7 = .ok (.aload_n 0, 1) := by decide +kernel
theorem dX11_elseOf_8 : decode cX11_elseOf 8 = .ok (.iconst 1, 1) := by decide +kernel
theorem dX11_elseOf_9 : decode cX11_elseOf 9 = .ok (.invokevirtual 272, 3) := by decide +kernel
theorem dX11_elseOf_12 : decode cX11_elseOf 12 = .ok (.ireturn, 1) := by decide +kernel
theorem dX11_elseOf_13 : decode cX11_elseOf 13 = .ok (.aload_n 0, 1) := by decide +kernel
theorem dX11_elseOf_14 : decode cX11_elseOf 14 = .ok (.getfield 54, 3) := by decide +kernel
theorem dX11_elseOf_17 : decode cX11_elseOf 17 = .ok (.iload_n 1, 1) := by decide +kernel
theorem dX11_elseOf_18 : decode cX11_elseOf 18 = .ok (.iaload, 1) := by decide +kernel
theorem dX11_elseOf_19 : decode cX11_elseOf 19 = .ok (.aload_n 0, 1) := by decide +kernel
theorem dX11_elseOf_20 : decode cX11_elseOf 20 = .ok (.getfield 13, 3) := by decide +kernel
theorem dX11_elseOf_23 : decode cX11_elseOf 23 = .ok (.aload_n 0, 1) := by decide +kernel
theorem dX11_elseOf_24 : decode cX11_elseOf 24 = .ok (.getfield 23, 3) := by decide +kernel
theorem dX11_elseOf_27 : decode cX11_elseOf 27 = .ok (.invokestatic 341, 3) := by decide +kernel
theorem dX11_elseOf_30 : decode cX11_elseOf 30 = .ok (.istore_n 2, 1) := by decide +kernel
theorem dX11_elseOf_31 : decode cX11_elseOf 31 = .ok (.aload_n 0, 1) := by decide +kernel
theorem dX11_elseOf_32 : decode cX11_elseOf 32 = .ok (.iload_n 2, 1) := by decide +kernel
theorem dX11_elseOf_33 : decode cX11_elseOf 33 = .ok (.invokevirtual 345, 3) := by decide +kernel
theorem dX11_elseOf_36 : decode cX11_elseOf 36 = .ok (.ifCond .ne 9, 3) := by decide +kernel
theorem dX11_elseOf_39 : decode cX11_elseOf 39 = .ok (.aload_n 0, 1) := by decide +kernel
theorem dX11_elseOf_40 : decode cX11_elseOf 40 = .ok (.iconst 2, 1) := by decide +kernel
theorem dX11_elseOf_41 : decode cX11_elseOf 41 = .ok (.invokevirtual 272, 3) := by decide +kernel
theorem dX11_elseOf_44 : decode cX11_elseOf 44 = .ok (.ireturn, 1) := by decide +kernel
theorem dX11_elseOf_45 : decode cX11_elseOf 45 = .ok (.aload_n 0, 1) := by decide +kernel
theorem dX11_elseOf_46 : decode cX11_elseOf 46 = .ok (.getfield 57, 3) := by decide +kernel
theorem dX11_elseOf_49 : decode cX11_elseOf 49 = .ok (.iload_n 1, 1) := by decide +kernel
theorem dX11_elseOf_50 : decode cX11_elseOf 50 = .ok (.iconst 1, 1) := by decide +kernel
theorem dX11_elseOf_51 : decode cX11_elseOf 51 = .ok (.bastore, 1) := by decide +kernel
theorem dX11_elseOf_52 : decode cX11_elseOf 52 = .ok (.aload_n 0, 1) := by decide +kernel
theorem dX11_elseOf_53 : decode cX11_elseOf 53 = .ok (.getfield 61, 3) := by decide +kernel
theorem dX11_elseOf_56 : decode cX11_elseOf 56 = .ok (.iload_n 1, 1) := by decide +kernel
theorem dX11_elseOf_57 : decode cX11_elseOf 57 = .ok (.aload_n 0, 1) := by decide +kernel
theorem dX11_elseOf_58 : decode cX11_elseOf 58 = .ok (.iload_n 2, 1) := by decide +kernel
theorem dX11_elseOf_59 : decode cX11_elseOf 59 = .ok (.invokevirtual 348, 3) := by decide +kernel
theorem dX11_elseOf_62 : decode cX11_elseOf 62 = .ok (.lastore, 1) := by decide +kernel
theorem dX11_elseOf_63 : decode cX11_elseOf 63 = .ok (.aload_n 0, 1) := by decide +kernel
theorem dX11_elseOf_64 : decode cX11_elseOf 64 = .ok (.getfield 64, 3) := by decide +kernel
theorem dX11_elseOf_67 : decode cX11_elseOf 67 = .ok (.iload_n 1, 1) := by decide +kernel
theorem dX11_elseOf_68 : decode cX11_elseOf 68 = .ok (.aload_n 0, 1) := by decide +kernel
theorem dX11_elseOf_69 : decode cX11_elseOf 69 = .ok (.getfield 244, 3) := by decide +kernel
theorem dX11_elseOf_72 : decode cX11_elseOf 72 = .ok (.iconst 3, 1) := by decide +kernel
theorem dX11_elseOf_73 : decode cX11_elseOf 73 = .ok (.if_icmp .ne 10, 3) := by decide +kernel
theorem dX11_elseOf_76 : decode cX11_elseOf 76 = .ok (.aload_n 0, 1) := by decide +kernel
theorem dX11_elseOf_77 : decode cX11_elseOf 77 = .ok (.getfield 204, 3) := by decide +kernel
theorem dX11_elseOf_80 : decode cX11_elseOf 80 = .ok (.goto 4, 3) := by decide +kernel
theorem dX11_elseOf_83 : decode cX11_elseOf 83 = .ok (.lconst 0, 1) := by decide +kernel
theorem dX11_elseOf_84 : decode cX11_elseOf 84 = .ok (.lastore, 1) := by decide +kernel
theorem dX11_elseOf_85 : decode cX11_elseOf 85 = .ok (.aload_n 0, 1) := by decide +kernel
theorem dX11_elseOf_86 : decode cX11_elseOf 86 = .ok (.getfield 67, 3) := by decide +kernel
theorem dX11_elseOf_89 : decode cX11_elseOf 89 = .ok (.iload_n 1, 1) := by decide +kernel
theorem dX11_elseOf_90 : decode cX11_elseOf 90 = .ok (.aload_n 0, 1) := by decide +kernel
theorem dX11_elseOf_91 : decode cX11_elseOf 91 = .ok (.getfield 244, 3) := by decide +kernel
theorem dX11_elseOf_94 : decode cX11_elseOf 94 = .ok (.iconst 3, 1) := by decide +kernel
theorem dX11_elseOf_95 : decode cX11_elseOf 95 = .ok (.if_icmp .ne 10, 3) := by decide +kernel
theorem dX11_elseOf_98 : decode cX11_elseOf 98 = .ok (.aload_n 0, 1) := by decide +kernel
theorem dX11_elseOf_99 : decode cX11_elseOf 99 = .ok (.getfield 208, 3) := by decide +kernel
theorem dX11_elseOf_102 : decode cX11_elseOf 102 = .ok (.goto 4, 3) := by decide +kernel
theorem dX11_elseOf_105 : decode cX11_elseOf 105 = .ok (.iconst 0, 1) := by decide +kernel
theorem dX11_elseOf_106 : decode cX11_elseOf 106 = .ok (.iastore, 1) := by decide +kernel
theorem dX11_elseOf_107 : decode cX11_elseOf 107 = .ok (.aload_n 0, 1) := by decide +kernel
theorem dX11_elseOf_108 : decode cX11_elseOf 108 = .ok (.getfield 253, 3) := by decide +kernel
theorem dX11_elseOf_111 : decode cX11_elseOf 111 = .ok (.bipush 91, 2) := by decide +kernel
theorem dX11_elseOf_113 : decode cX11_elseOf 113 = .ok (.if_icmp .ne 7, 3) := by decide +kernel
theorem dX11_elseOf_116 : decode cX11_elseOf 116 = .ok (.iconst 1, 1) := by decide +kernel
theorem dX11_elseOf_117 : decode cX11_elseOf 117 = .ok (.goto 4, 3) := by decide +kernel
theorem dX11_elseOf_120 : decode cX11_elseOf 120 = .ok (.iconst 0, 1) := by decide +kernel
theorem dX11_elseOf_121 : decode cX11_elseOf 121 = .ok (.istore_n 3, 1) := by decide +kernel
theorem dX11_elseOf_122 : decode cX11_elseOf 122 = .ok (.aload_n 0, 1) := by decide +kernel
theorem dX11_elseOf_123 : decode cX11_elseOf 123 = .ok (.invokevirtual 275, 3) := by decide +kernel
theorem dX11_elseOf_126 : decode cX11_elseOf 126 = .ok (.iload_n 3, 1) := by decide +kernel
theorem dX11_elseOf_127 : decode cX11_elseOf 127 = .ok (.ifCond .eq 12, 3) := by decide +kernel
theorem dX11_elseOf_130 : decode cX11_elseOf 130 = .ok (.aload_n 0, 1) := by decide +kernel
theorem dX11_elseOf_131 : decode cX11_elseOf 131 = .ok (.bipush 93, 2) := by decide +kernel
theorem dX11_elseOf_133 : decode cX11_elseOf 133 = .ok (.invokevirtual 352, 3) := by decide +kernel
theorem dX11_elseOf_136 : decode cX11_elseOf 136 = .ok (.ifCond .eq 7, 3) := by decide +kernel
theorem dX11_elseOf_139 : decode cX11_elseOf 139 = .ok (.iconst 1, 1) := by decide +kernel
theorem dX11_elseOf_140 : decode cX11_elseOf 140 = .ok (.goto 4, 3) := by decide +kernel
theorem dX11_elseOf_143 : decode cX11_elseOf 143 = .ok (.iconst 0, 1) := by decide +kernel
theorem dX11_elseOf_144 : decode cX11_elseOf 144 = .ok (.ireturn, 1) := by decide +kernel
theorem dX11_ends_0 : decode cX11_ends 0 = .ok (.iload_n 2, 1) := by decide +kernel
theorem dX11_ends_1 : decode cX11_ends 1 = .ok (.istore_n 3, 1) := by decide +kernel
theorem dX11_ends_2 : decode cX11_ends 2 = .ok (.iload_n 3, 1) := by decide +kernel
theorem dX11_ends_3 : decode cX11_ends 3 = .ok (.aload_n 0, 1) := by decide +kernel
theorem dX11_ends_4 : decode cX11_ends 4 = .ok (.getfield 318, 3) := by decide +kernel
theorem dX11_ends_7 : decode cX11_ends 7 = .ok (.if_icmp .ge 58, 3) := by decide +kernel
theorem dX11_ends_10 : decode cX11_ends 10 = .ok (.aload_n 0, 1) := by decide +kernel
theorem dX11_ends_11 : decode cX11_ends 11 = .ok (.getfield 13, 3) := by decide +kernel
theorem dX11_ends_14 : decode cX11_ends 14 = .ok (.iload_n 3, 1) := by decide +kernel
theorem dX11_ends_15 : decode cX11_ends 15 = .ok (.iaload, 1) := by decide +kernel
theorem dX11_ends_16 : decode cX11_ends 16 = .ok (.bipush 7, 2) := by decide +kernel
theorem dX11_ends_18 : decode cX11_ends 18 = .ok (.if_icmp .ne 41, 3) := by decide +kernel
theorem dX11_ends_21 : decode cX11_ends 21 = .ok (.aload_n 0, 1) := by decide +kernel
theorem dX11_ends_22 : decode cX11_ends 22 = .ok (.getfield 17, 3) := by decide +kernel
theorem dX11_ends_25 : decode cX11_ends 25 = .ok (.iload_n 3, 1) := by decide +kernel
theorem dX11_ends_26 : decode cX11_ends 26 = .ok (.aload_n 0, 1) := by decide +kernel
theorem dX11_ends_27 : decode cX11_ends 27 = .ok (.iload_n 1, 1) := by decide +kernel
theorem dX11_ends_28 : decode cX11_ends 28 = .ok (.aload_n 0, 1) := by decide +kernel
theorem dX11_ends_29 : decode cX11_ends 29 = .ok (.getfield 26, 3) := by decide +kernel
theorem dX11_ends_32 : decode cX11_ends 32 = .ok (.iload_n 3, 1) := by decide +kernel
theorem dX11_ends_33 : decode cX11_ends 33 = .ok (.laload, 1) := by decide +kernel
theorem dX11_ends_34 : decode cX11_ends 34 = .ok (.invokevirtual 362, 3) := by decide +kernel
theorem dX11_ends_37 : decode cX11_ends 37 = .ok (.iastore, 1) := by decide +kernel
theorem dX11_ends_38 : decode cX11_ends 38 = .ok (.aload_n 0, 1) := by decide +kernel
theorem dX11_ends_39 : decode cX11_ends 39 = .ok (.getfield 17, 3) := by decide +kernel
theorem dX11_ends_42 : decode cX11_ends 42 = .ok (.iload_n 3, 1) := by decide +kernel
theorem dX11_ends_43 : decode cX11_ends 43 = .ok (.iaload, 1) := by decide +kernel
theorem dX11_ends_44 : decode cX11_ends 44 = .ok (.ifCond .ge 15, 3) := by decide +kernel
theorem dX11_ends_47 : decode cX11_ends 47 = .ok (.aload_n 0, 1) := by decide +kernel
theorem dX11_ends_48 : decode cX11_ends 48 = .ok (.iconst 3, 1) := by decide +kernel
theorem dX11_ends_49 : decode cX11_ends 49 = .ok (.aload_n 0, 1) := by decide +kernel
theorem dX11_ends_50 : decode cX11_ends 50 = .ok (.getfield 30, 3) := by decide +kernel
theorem dX11_ends_53 : decode cX11_ends 53 = .ok (.iload_n 3, 1) := by decide +kernel
theorem dX11_ends_54 : decode cX11_ends 54 = .ok (.iaload, 1) := by decide +kernel
theorem dX11_ends_55 : decode cX11_ends 55 = .ok (.invokevirtual 268, 3) := by decide +kernel
theorem dX11_ends_58 : decode cX11_ends 58 = .ok (.ireturn, 1) := by decide +kernel
theorem dX11_ends_59 : decode cX11_ends 59 = .ok (.iinc 3 1, 3) := by decide +kernel
theorem dX11_ends_62 : decode cX11_ends 62 = .ok (.goto (-60), 3) := by decide +kernel
theorem dX11_ends_65 : decode cX11_ends 65 = .ok (.iconst 1, 1) := by decide +kernel
theorem dX11_ends_66 : decode cX11_ends 66 = .ok (.ireturn, 1) := by decide +kernel
theorem dX11_failure_0 : decode cX11_failure 0 = .ok (.aload_n 0, 1) := by decide +kernel
theorem dX11_failure_1 : decode cX11_failure 1 = .ok (.iconst 0, 1) := by decide +kernel
theorem dX11_failure_2 : decode cX11_failure 2 = .ok (.putfield 178, 3) := by decide +kernel
theorem dX11_failure_5 : decode cX11_failure 5 = .ok (.aload_n 0, 1) := by decide +kernel
theorem dX11_failure_6 : decode cX11_failure 6 = .ok (.getfield 395, 3) := by decide +kernel
theorem dX11_failure_9 : decode cX11_failure 9 = .ok (.ifCond .ne 5, 3) := by decide +kernel
theorem dX11_failure_12 : decode cX11_failure 12 = .ok (.iconst (-1), 1) := by decide +kernel
theorem dX11_failure_13 : decode cX11_failure 13 = .ok (.ireturn, 1) := by decide +kernel
theorem dX11_failure_14 : decode cX11_failure 14 = .ok (.iload_n 1, 1) := by decide +kernel
theorem dX11_failure_15 : decode cX11_failure 15 = .ok (.tableswitch 40 0 2 #[25, 30, 35], 25) := by decide +kernel
theorem dX11_failure_40 : decode cX11_failure 40 = .ok (.aload_n 0, 1) := by decide +kernel
theorem dX11_failure_41 : decode cX11_failure 41 = .ok (.getfield 395, 3) := by decide +kernel
theorem dX11_failure_44 : decode cX11_failure 44 = .ok (.ireturn, 1) := by decide +kernel
theorem dX11_failure_45 : decode cX11_failure 45 = .ok (.aload_n 0, 1) := by decide +kernel
theorem dX11_failure_46 : decode cX11_failure 46 = .ok (.getfield 621, 3) := by decide +kernel
theorem dX11_failure_49 : decode cX11_failure 49 = .ok (.ireturn, 1) := by decide +kernel
theorem dX11_failure_50 : decode cX11_failure 50 = .ok (.aload_n 0, 1) := by decide +kernel
theorem dX11_failure_51 : decode cX11_failure 51 = .ok (.getfield 618, 3) := by decide +kernel
theorem dX11_failure_54 : decode cX11_failure 54 = .ok (.ireturn, 1) := by decide +kernel
theorem dX11_failure_55 : decode cX11_failure 55 = .ok (.iconst (-1), 1) := by decide +kernel
theorem dX11_failure_56 : decode cX11_failure 56 = .ok (.ireturn, 1) := by decide +kernel
theorem dX11_failureStep_0 : decode cX11_failureStep 0 = .ok (.aload_n 0, 1) := by decide +kernel
theorem dX11_failureStep_1 : decode cX11_failureStep 1 = .ok (.iconst 0, 1) := by decide +kernel
theorem dX11_failureStep_2 : decode cX11_failureStep 2 = .ok (.putfield 178, 3) := by decide +kernel
theorem dX11_failureStep_5 : decode cX11_failureStep 5 = .ok (.aload_n 0, 1) := by decide +kernel
theorem dX11_failureStep_6 : decode cX11_failureStep 6 = .ok (.getfield 395, 3) := by decide +kernel
theorem dX11_failureStep_9 : decode cX11_failureStep 9 = .ok (.ifCond .le 28, 3) := by decide +kernel
theorem dX11_failureStep_12 : decode cX11_failureStep 12 = .ok (.iload_n 1, 1) := by decide +kernel
theorem dX11_failureStep_13 : decode cX11_failureStep 13 = .ok (.i2l, 1) := by decide +kernel
theorem dX11_failureStep_14 : decode cX11_failureStep 14 = .ok (.lconst 0, 1) := by decide +kernel
theorem dX11_failureStep_15 : decode cX11_failureStep 15 = .ok (.aload_n 0, 1) := by decide +kernel
theorem dX11_failureStep_16 : decode cX11_failureStep 16 = .ok (.getfield 621, 3) := by decide +kernel
theorem dX11_failureStep_19 : decode cX11_failureStep 19 = .ok (.iconst 1, 1) := by decide +kernel
theorem dX11_failureStep_20 : decode cX11_failureStep 20 = .ok (.isub, 1) := by decide +kernel
theorem dX11_failureStep_21 : decode cX11_failureStep 21 = .ok (.i2l, 1) := by decide +kernel
theorem dX11_failureStep_22 : decode cX11_failureStep 22 = .ok (.invokestatic 196, 3) := by decide +kernel
theorem dX11_failureStep_25 : decode cX11_failureStep 25 = .ok (.ifCond .eq 12, 3) := by decide +kernel
theorem dX11_failureStep_28 : decode cX11_failureStep 28 = .ok (.aload_n 0, 1) := by decide +kernel
theorem dX11_failureStep_29 : decode cX11_failureStep 29 = .ok (.getfield 157, 3) := by decide +kernel
theorem dX11_failureStep_32 : decode cX11_failureStep 32 = .ok (.iload_n 1, 1) := by decide +kernel
theorem dX11_failureStep_33 : decode cX11_failureStep 33 = .ok (.iaload, 1) := by decide +kernel
theorem dX11_failureStep_34 : decode cX11_failureStep 34 = .ok (.goto 4, 3) := by decide +kernel
theorem dX11_failureStep_37 : decode cX11_failureStep 37 = .ok (.iconst (-1), 1) := by decide +kernel
theorem dX11_failureStep_38 : decode cX11_failureStep 38 = .ok (.ireturn, 1) := by decide +kernel
theorem dX11_isLiteral_0 : decode cX11_isLiteral 0 = .ok (.aload_n 0, 1) := by decide +kernel
theorem dX11_isLiteral_1 : decode cX11_isLiteral 1 = .ok (.invokevirtual 286, 3) := by decide +kernel
theorem dX11_isLiteral_4 : decode cX11_isLiteral 4 = .ok (.ifCond .eq 42, 3) := by decide +kernel
theorem dX11_isLiteral_7 : decode cX11_isLiteral 7 = .ok (.aload_n 0, 1) := by decide +kernel
theorem dX11_isLiteral_8 : decode cX11_isLiteral 8 = .ok (.invokevirtual 306, 3) := by decide +kernel
theorem dX11_isLiteral_11 : decode cX11_isLiteral 11 = .ok (.ifCond .ne 35, 3) := by decide +kernel
theorem dX11_isLiteral_14 : decode cX11_isLiteral 14 = .ok (.aload_n 0, 1) := by decide +kernel
theorem dX11_isLiteral_15 : decode cX11_isLiteral 15 = .ok (.invokevirtual 309, 3) := by decide +kernel
theorem dX11_isLiteral_18 : decode cX11_isLiteral 18 = .ok (.ifCond .ne 28, 3) := by decide +kernel
theorem dX11_isLiteral_21 : decode cX11_isLiteral 21 = .ok (.aload_n 0, 1) := by decide +kernel
theorem dX11_isLiteral_22 : decode cX11_isLiteral 22 = .ok (.getfield 244, 3) := by decide +kernel
theorem dX11_isLiteral_25 : decode cX11_isLiteral 25 = .ok (.iconst 2, 1) := by decide +kernel
theorem dX11_isLiteral_26 : decode cX11_isLiteral 26 = .ok (.if_icmp .eq 20, 3) := by decide +kernel
theorem dX11_isLiteral_29 : decode cX11_isLiteral 29 = .ok (.aload_n 0, 1) := by decide +kernel
theorem dX11_isLiteral_30 : decode cX11_isLiteral 30 = .ok (.getfield 244, 3) := by decide +kernel
theorem dX11_isLiteral_33 : decode cX11_isLiteral 33 = .ok (.iconst 3, 1) := by decide +kernel
theorem dX11_isLiteral_34 : decode cX11_isLiteral 34 = .ok (.if_icmp .eq 12, 3) := by decide +kernel
theorem dX11_isLiteral_37 : decode cX11_isLiteral 37 = .ok (.aload_n 0, 1) := by decide +kernel
theorem dX11_isLiteral_38 : decode cX11_isLiteral 38 = .ok (.getfield 253, 3) := by decide +kernel
theorem dX11_isLiteral_41 : decode cX11_isLiteral 41 = .ok (.bipush 91, 2) := by decide +kernel
theorem dX11_isLiteral_43 : decode cX11_isLiteral 43 = .ok (.if_icmp .ne 7, 3) := by decide +kernel
theorem dX11_isLiteral_46 : decode cX11_isLiteral 46 = .ok (.iconst 1, 1) := by decide +kernel
theorem dX11_isLiteral_47 : decode cX11_isLiteral 47 = .ok (.goto 4, 3) := by decide +kernel
theorem dX11_isLiteral_50 : decode cX11_isLiteral 50 = .ok (.iconst 0, 1) := by decide +kernel
theorem dX11_isLiteral_51 : decode cX11_isLiteral 51 = .ok (.ireturn, 1) := by decide +kernel
theorem dX11_mark_0 : decode cX11_mark 0 = .ok (.aload_n 0, 1) := by decide +kernel
theorem dX11_mark_1 : decode cX11_mark 1 = .ok (.getfield 253, 3) := by decide +kernel
theorem dX11_mark_4 : decode cX11_mark 4 = .ok (.iload_n 1, 1) := by decide +kernel
theorem dX11_mark_5 : decode cX11_mark 5 = .ok (.if_icmp .eq 9, 3) := by decide +kernel
theorem dX11_mark_8 : decode cX11_mark 8 = .ok (.aload_n 0, 1) := by decide +kernel
theorem dX11_mark_9 : decode cX11_mark 9 = .ok (.iconst 1, 1) := by decide +kernel
theorem dX11_mark_10 : decode cX11_mark 10 = .ok (.invokevirtual 272, 3) := by decide +kernel
theorem dX11_mark_13 : decode cX11_mark 13 = .ok (.ireturn, 1) := by decide +kernel
theorem dX11_mark_14 : decode cX11_mark 14 = .ok (.aload_n 0, 1) := by decide +kernel
theorem dX11_mark_15 : decode cX11_mark 15 = .ok (.invokevirtual 275, 3) := by decide +kernel
theorem dX11_mark_18 : decode cX11_mark 18 = .ok (.iconst 1, 1) := by decide +kernel
theorem dX11_mark_19 : decode cX11_mark 19 = .ok (.ireturn, 1) := by decide +kernel
theorem dX11_messageSet_0 : decode cX11_messageSet 0 = .ok (.iconst 0, 1) := by decide +kernel
theorem dX11_messageSet_1 : decode cX11_messageSet 1 = .ok (.istore_n 1, 1) := by decide +kernel
theorem dX11_messageSet_2 : decode cX11_messageSet 2 = .ok (.iconst 0, 1) := by decide +kernel
theorem dX11_messageSet_3 : decode cX11_messageSet 3 = .ok (.istore_n 2, 1) := by decide +kernel
theorem dX11_messageSet_4 : decode cX11_messageSet 4 = .ok (.iload_n 2, 1) := by decide +kernel
theorem dX11_messageSet_5 : decode cX11_messageSet 5 = .ok (.iconst 4, 1) := by decide +kernel
theorem dX11_messageSet_6 : decode cX11_messageSet 6 = .ok (.if_icmp .ge 28, 3) := by decide +kernel
theorem dX11_messageSet_9 : decode cX11_messageSet 9 = .ok (.iload_n 1, 1) := by decide +kernel
theorem dX11_messageSet_10 : decode cX11_messageSet 10 = .ok (.aload_n 0, 1) := by decide +kernel
theorem dX11_messageSet_11 : decode cX11_messageSet 11 = .ok (.getfield 106, 3) := by decide +kernel
theorem dX11_messageSet_14 : decode cX11_messageSet 14 = .ok (.iload_n 2, 1) := by decide +kernel
theorem dX11_messageSet_15 : decode cX11_messageSet 15 = .ok (.iaload, 1) := by decide +kernel
theorem dX11_messageSet_16 : decode cX11_messageSet 16 = .ok (.ifCond .lt 9, 3) := by decide +kernel
theorem dX11_messageSet_19 : decode cX11_messageSet 19 = .ok (.iconst 1, 1) := by decide +kernel
theorem dX11_messageSet_20 : decode cX11_messageSet 20 = .ok (.iload_n 2, 1) := by decide +kernel
theorem dX11_messageSet_21 : decode cX11_messageSet 21 = .ok (.ishl, 1) := by decide +kernel
theorem dX11_messageSet_22 : decode cX11_messageSet 22 = .ok (.goto 4, 3) := by decide +kernel
theorem dX11_messageSet_25 : decode cX11_messageSet 25 = .ok (.iconst 0, 1) := by decide +kernel
theorem dX11_messageSet_26 : decode cX11_messageSet 26 = .ok (.ior, 1) := by decide +kernel
theorem dX11_messageSet_27 : decode cX11_messageSet 27 = .ok (.istore_n 1, 1) := by decide +kernel
theorem dX11_messageSet_28 : decode cX11_messageSet 28 = .ok (.iinc 2 1, 3) := by decide +kernel
theorem dX11_messageSet_31 : decode cX11_messageSet 31 = .ok (.goto (-27), 3) := by decide +kernel
theorem dX11_messageSet_34 : decode cX11_messageSet 34 = .ok (.iload_n 1, 1) := by decide +kernel
theorem dX11_messageSet_35 : decode cX11_messageSet 35 = .ok (.ireturn, 1) := by decide +kernel
theorem dX11_recordOf_0 : decode cX11_recordOf 0 = .ok (.iconst 0, 1) := by decide +kernel
theorem dX11_recordOf_1 : decode cX11_recordOf 1 = .ok (.istore 4, 2) := by decide +kernel
theorem dX11_recordOf_3 : decode cX11_recordOf 3 = .ok (.iload 4, 2) := by decide +kernel
theorem dX11_recordOf_5 : decode cX11_recordOf 5 = .ok (.aload_n 0, 1) := by decide +kernel
theorem dX11_recordOf_6 : decode cX11_recordOf 6 = .ok (.getfield 33, 3) := by decide +kernel
theorem dX11_recordOf_9 : decode cX11_recordOf 9 = .ok (.iload_n 1, 1) := by decide +kernel
theorem dX11_recordOf_10 : decode cX11_recordOf 10 = .ok (.iaload, 1) := by decide +kernel
theorem dX11_recordOf_11 : decode cX11_recordOf 11 = .ok (.if_icmp .ge 29, 3) := by decide +kernel
theorem dX11_recordOf_14 : decode cX11_recordOf 14 = .ok (.aload_n 0, 1) := by decide +kernel
theorem dX11_recordOf_15 : decode cX11_recordOf 15 = .ok (.getfield 36, 3) := by decide +kernel
theorem dX11_recordOf_18 : decode cX11_recordOf 18 = .ok (.bipush 6, 2) := by decide +kernel
theorem dX11_recordOf_20 : decode cX11_recordOf 20 = .ok (.iload_n 1, 1) := by decide +kernel
theorem dX11_recordOf_21 : decode cX11_recordOf 21 = .ok (.imul, 1) := by decide +kernel
theorem dX11_recordOf_22 : decode cX11_recordOf 22 = .ok (.iload 4, 2) := by decide +kernel
theorem dX11_recordOf_24 : decode cX11_recordOf 24 = .ok (.iadd, 1) := by decide +kernel
theorem dX11_recordOf_25 : decode cX11_recordOf 25 = .ok (.laload, 1) := by decide +kernel
theorem dX11_recordOf_26 : decode cX11_recordOf 26 = .ok (.lload_n 2, 1) := by decide +kernel
theorem dX11_recordOf_27 : decode cX11_recordOf 27 = .ok (.lcmp, 1) := by decide +kernel
theorem dX11_recordOf_28 : decode cX11_recordOf 28 = .ok (.ifCond .ne 6, 3) := by decide +kernel
theorem dX11_recordOf_31 : decode cX11_recordOf 31 = .ok (.iload 4, 2) := by decide +kernel
theorem dX11_recordOf_33 : decode cX11_recordOf 33 = .ok (.ireturn, 1) := by decide +kernel
theorem dX11_recordOf_34 : decode cX11_recordOf 34 = .ok (.iinc 4 1, 3) := by decide +kernel
theorem dX11_recordOf_37 : decode cX11_recordOf 37 = .ok (.goto (-34), 3) := by decide +kernel
theorem dX11_recordOf_40 : decode cX11_recordOf 40 = .ok (.iconst (-1), 1) := by decide +kernel
theorem dX11_recordOf_41 : decode cX11_recordOf 41 = .ok (.ireturn, 1) := by decide +kernel
theorem dX11_writes_0 : decode cX11_writes 0 = .ok (.aload_n 0, 1) := by decide +kernel
theorem dX11_writes_1 : decode cX11_writes 1 = .ok (.getfield 88, 3) := by decide +kernel
theorem dX11_writes_4 : decode cX11_writes 4 = .ok (.iload_n 1, 1) := by decide +kernel
theorem dX11_writes_5 : decode cX11_writes 5 = .ok (.iaload, 1) := by decide +kernel
theorem dX11_writes_6 : decode cX11_writes 6 = .ok (.ifCond .lt 14, 3) := by decide +kernel
theorem dX11_writes_9 : decode cX11_writes 9 = .ok (.aload_n 0, 1) := by decide +kernel
theorem dX11_writes_10 : decode cX11_writes 10 = .ok (.aload_n 0, 1) := by decide +kernel
theorem dX11_writes_11 : decode cX11_writes 11 = .ok (.getfield 88, 3) := by decide +kernel
theorem dX11_writes_14 : decode cX11_writes 14 = .ok (.iload_n 1, 1) := by decide +kernel
theorem dX11_writes_15 : decode cX11_writes 15 = .ok (.iaload, 1) := by decide +kernel
theorem dX11_writes_16 : decode cX11_writes 16 = .ok (.i2l, 1) := by decide +kernel
theorem dX11_writes_17 : decode cX11_writes 17 = .ok (.invokevirtual 464, 3) := by decide +kernel
theorem dX11_writes_20 : decode cX11_writes 20 = .ok (.aload_n 0, 1) := by decide +kernel
theorem dX11_writes_21 : decode cX11_writes 21 = .ok (.getfield 70, 3) := by decide +kernel
theorem dX11_writes_24 : decode cX11_writes 24 = .ok (.iload_n 1, 1) := by decide +kernel
theorem dX11_writes_25 : decode cX11_writes 25 = .ok (.iaload, 1) := by decide +kernel
theorem dX11_writes_26 : decode cX11_writes 26 = .ok (.tableswitch 100 1 5 #[34, 47, 47, 60, 92], 34) := by decide +kernel
theorem dX11_writes_60 : decode cX11_writes 60 = .ok (.aload_n 0, 1) := by decide +kernel
theorem dX11_writes_61 : decode cX11_writes 61 = .ok (.aload_n 0, 1) := by decide +kernel
theorem dX11_writes_62 : decode cX11_writes 62 = .ok (.getfield 73, 3) := by decide +kernel
theorem dX11_writes_65 : decode cX11_writes 65 = .ok (.iload_n 1, 1) := by decide +kernel
theorem dX11_writes_66 : decode cX11_writes 66 = .ok (.laload, 1) := by decide +kernel
theorem dX11_writes_67 : decode cX11_writes 67 = .ok (.invokevirtual 460, 3) := by decide +kernel
theorem dX11_writes_70 : decode cX11_writes 70 = .ok (.goto 111, 3) := by decide +kernel
theorem dX11_writes_73 : decode cX11_writes 73 = .ok (.aload_n 0, 1) := by decide +kernel
theorem dX11_writes_74 : decode cX11_writes 74 = .ok (.aload_n 0, 1) := by decide +kernel
theorem dX11_writes_75 : decode cX11_writes 75 = .ok (.getfield 73, 3) := by decide +kernel
theorem dX11_writes_78 : decode cX11_writes 78 = .ok (.iload_n 1, 1) := by decide +kernel
theorem dX11_writes_79 : decode cX11_writes 79 = .ok (.laload, 1) := by decide +kernel
theorem dX11_writes_80 : decode cX11_writes 80 = .ok (.invokevirtual 464, 3) := by decide +kernel
theorem dX11_writes_83 : decode cX11_writes 83 = .ok (.goto 98, 3) := by decide +kernel
theorem dX11_writes_86 : decode cX11_writes 86 = .ok (.bipush 56, 2) := by decide +kernel
theorem dX11_writes_88 : decode cX11_writes 88 = .ok (.istore_n 2, 1) := by decide +kernel
theorem dX11_writes_89 : decode cX11_writes 89 = .ok (.iload_n 2, 1) := by decide +kernel
theorem dX11_writes_90 : decode cX11_writes 90 = .ok (.ifCond .lt 25, 3) := by decide +kernel
theorem dX11_writes_93 : decode cX11_writes 93 = .ok (.aload_n 0, 1) := by decide +kernel
theorem dX11_writes_94 : decode cX11_writes 94 = .ok (.aload_n 0, 1) := by decide +kernel
theorem dX11_writes_95 : decode cX11_writes 95 = .ok (.getfield 73, 3) := by decide +kernel
theorem dX11_writes_98 : decode cX11_writes 98 = .ok (.iload_n 1, 1) := by decide +kernel
theorem dX11_writes_99 : decode cX11_writes 99 = .ok (.laload, 1) := by decide +kernel
theorem dX11_writes_100 : decode cX11_writes 100 = .ok (.iload_n 2, 1) := by decide +kernel
theorem dX11_writes_101 : decode cX11_writes 101 = .ok (.lshr, 1) := by decide +kernel
theorem dX11_writes_102 : decode cX11_writes 102 = .ok (.ldc2_w 467, 3) := by decide +kernel
theorem dX11_writes_105 : decode cX11_writes 105 = .ok (.land, 1) := by decide +kernel
theorem dX11_writes_106 : decode cX11_writes 106 = .ok (.invokevirtual 460, 3) := by decide +kernel
theorem dX11_writes_109 : decode cX11_writes 109 = .ok (.iinc 2 (-8), 3) := by decide +kernel
theorem dX11_writes_112 : decode cX11_writes 112 = .ok (.goto (-23), 3) := by decide +kernel
theorem dX11_writes_115 : decode cX11_writes 115 = .ok (.goto 66, 3) := by decide +kernel
theorem dX11_writes_118 : decode cX11_writes 118 = .ok (.aload_n 0, 1) := by decide +kernel
theorem dX11_writes_119 : decode cX11_writes 119 = .ok (.iload_n 1, 1) := by decide +kernel
theorem dX11_writes_120 : decode cX11_writes 120 = .ok (.invokevirtual 469, 3) := by decide +kernel
theorem dX11_writes_123 : decode cX11_writes 123 = .ok (.goto 58, 3) := by decide +kernel
theorem dX11_writes_126 : decode cX11_writes 126 = .ok (.aload_n 0, 1) := by decide +kernel
theorem dX11_writes_127 : decode cX11_writes 127 = .ok (.getfield 70, 3) := by decide +kernel
theorem dX11_writes_130 : decode cX11_writes 130 = .ok (.iload_n 1, 1) := by decide +kernel
theorem dX11_writes_131 : decode cX11_writes 131 = .ok (.iaload, 1) := by decide +kernel
theorem dX11_writes_132 : decode cX11_writes 132 = .ok (.bipush 6, 2) := by decide +kernel
theorem dX11_writes_134 : decode cX11_writes 134 = .ok (.if_icmp .ne 14, 3) := by decide +kernel
theorem dX11_writes_137 : decode cX11_writes 137 = .ok (.aload_n 0, 1) := by decide +kernel
theorem dX11_writes_138 : decode cX11_writes 138 = .ok (.aload_n 0, 1) := by decide +kernel
theorem dX11_writes_139 : decode cX11_writes 139 = .ok (.getfield 79, 3) := by decide +kernel
theorem dX11_writes_142 : decode cX11_writes 142 = .ok (.iload_n 1, 1) := by decide +kernel
theorem dX11_writes_143 : decode cX11_writes 143 = .ok (.iaload, 1) := by decide +kernel
theorem dX11_writes_144 : decode cX11_writes 144 = .ok (.i2l, 1) := by decide +kernel
theorem dX11_writes_145 : decode cX11_writes 145 = .ok (.invokevirtual 464, 3) := by decide +kernel
theorem dX11_writes_148 : decode cX11_writes 148 = .ok (.aload_n 0, 1) := by decide +kernel
theorem dX11_writes_149 : decode cX11_writes 149 = .ok (.getfield 94, 3) := by decide +kernel
theorem dX11_writes_152 : decode cX11_writes 152 = .ok (.iload_n 1, 1) := by decide +kernel
theorem dX11_writes_153 : decode cX11_writes 153 = .ok (.iaload, 1) := by decide +kernel
theorem dX11_writes_154 : decode cX11_writes 154 = .ok (.istore_n 2, 1) := by decide +kernel
theorem dX11_writes_155 : decode cX11_writes 155 = .ok (.iload_n 2, 1) := by decide +kernel
theorem dX11_writes_156 : decode cX11_writes 156 = .ok (.ifCond .lt 25, 3) := by decide +kernel
theorem dX11_writes_159 : decode cX11_writes 159 = .ok (.aload_n 0, 1) := by decide +kernel
theorem dX11_writes_160 : decode cX11_writes 160 = .ok (.getfield 451, 3) := by decide +kernel
theorem dX11_writes_163 : decode cX11_writes 163 = .ok (.ifCond .ne 18, 3) := by decide +kernel
theorem dX11_writes_166 : decode cX11_writes 166 = .ok (.aload_n 0, 1) := by decide +kernel
theorem dX11_writes_167 : decode cX11_writes 167 = .ok (.iload_n 2, 1) := by decide +kernel
theorem dX11_writes_168 : decode cX11_writes 168 = .ok (.invokevirtual 472, 3) := by decide +kernel
theorem dX11_writes_171 : decode cX11_writes 171 = .ok (.aload_n 0, 1) := by decide +kernel
theorem dX11_writes_172 : decode cX11_writes 172 = .ok (.getfield 100, 3) := by decide +kernel
theorem dX11_writes_175 : decode cX11_writes 175 = .ok (.iload_n 2, 1) := by decide +kernel
theorem dX11_writes_176 : decode cX11_writes 176 = .ok (.iaload, 1) := by decide +kernel
theorem dX11_writes_177 : decode cX11_writes 177 = .ok (.istore_n 2, 1) := by decide +kernel
theorem dX11_writes_178 : decode cX11_writes 178 = .ok (.goto (-23), 3) := by decide +kernel
theorem dX11_writes_181 : decode cX11_writes 181 = .ok (.return_, 1) := by decide +kernel
theorem dX11_writesText_0 : decode cX11_writesText 0 = .ok (.aload_n 0, 1) := by decide +kernel
theorem dX11_writesText_1 : decode cX11_writesText 1 = .ok (.aload_n 0, 1) := by decide +kernel
theorem dX11_writesText_2 : decode cX11_writesText 2 = .ok (.getfield 79, 3) := by decide +kernel
theorem dX11_writesText_5 : decode cX11_writesText 5 = .ok (.iload_n 1, 1) := by decide +kernel
theorem dX11_writesText_6 : decode cX11_writesText 6 = .ok (.iaload, 1) := by decide +kernel
theorem dX11_writesText_7 : decode cX11_writesText 7 = .ok (.i2l, 1) := by decide +kernel
theorem dX11_writesText_8 : decode cX11_writesText 8 = .ok (.invokevirtual 464, 3) := by decide +kernel
theorem dX11_writesText_11 : decode cX11_writesText 11 = .ok (.lconst 1, 1) := by decide +kernel
theorem dX11_writesText_12 : decode cX11_writesText 12 = .ok (.lstore_n 2, 1) := by decide +kernel
theorem dX11_writesText_13 : decode cX11_writesText 13 = .ok (.iconst 1, 1) := by decide +kernel
theorem dX11_writesText_14 : decode cX11_writesText 14 = .ok (.istore 4, 2) := by decide +kernel
theorem dX11_writesText_16 : decode cX11_writesText 16 = .ok (.iload 4, 2) := by decide +kernel
theorem dX11_writesText_18 : decode cX11_writesText 18 = .ok (.aload_n 0, 1) := by decide +kernel
theorem dX11_writesText_19 : decode cX11_writesText 19 = .ok (.getfield 79, 3) := by decide +kernel
theorem dX11_writesText_22 : decode cX11_writesText 22 = .ok (.iload_n 1, 1) := by decide +kernel
theorem dX11_writesText_23 : decode cX11_writesText 23 = .ok (.iaload, 1) := by decide +kernel
theorem dX11_writesText_24 : decode cX11_writesText 24 = .ok (.if_icmp .ge 15, 3) := by decide +kernel
theorem dX11_writesText_27 : decode cX11_writesText 27 = .ok (.lload_n 2, 1) := by decide +kernel
theorem dX11_writesText_28 : decode cX11_writesText 28 = .ok (.ldc2_w 222, 3) := by decide +kernel
theorem dX11_writesText_31 : decode cX11_writesText 31 = .ok (.lmul, 1) := by decide +kernel
theorem dX11_writesText_32 : decode cX11_writesText 32 = .ok (.lstore_n 2, 1) := by decide +kernel
theorem dX11_writesText_33 : decode cX11_writesText 33 = .ok (.iinc 4 1, 3) := by decide +kernel
theorem dX11_writesText_36 : decode cX11_writesText 36 = .ok (.goto (-20), 3) := by decide +kernel
theorem dX11_writesText_39 : decode cX11_writesText 39 = .ok (.iconst 0, 1) := by decide +kernel
theorem dX11_writesText_40 : decode cX11_writesText 40 = .ok (.istore 4, 2) := by decide +kernel
theorem dX11_writesText_42 : decode cX11_writesText 42 = .ok (.iload 4, 2) := by decide +kernel
theorem dX11_writesText_44 : decode cX11_writesText 44 = .ok (.aload_n 0, 1) := by decide +kernel
theorem dX11_writesText_45 : decode cX11_writesText 45 = .ok (.getfield 79, 3) := by decide +kernel
theorem dX11_writesText_48 : decode cX11_writesText 48 = .ok (.iload_n 1, 1) := by decide +kernel
theorem dX11_writesText_49 : decode cX11_writesText 49 = .ok (.iaload, 1) := by decide +kernel
theorem dX11_writesText_50 : decode cX11_writesText 50 = .ok (.if_icmp .ge 45, 3) := by decide +kernel
theorem dX11_writesText_53 : decode cX11_writesText 53 = .ok (.aload_n 0, 1) := by decide +kernel
theorem dX11_writesText_54 : decode cX11_writesText 54 = .ok (.ldc2_w 224, 3) := by decide +kernel
theorem dX11_writesText_57 : decode cX11_writesText 57 = .ok (.aload_n 0, 1) := by decide +kernel
theorem dX11_writesText_58 : decode cX11_writesText 58 = .ok (.getfield 76, 3) := by decide +kernel
theorem dX11_writesText_61 : decode cX11_writesText 61 = .ok (.iload_n 1, 1) := by decide +kernel
theorem dX11_writesText_62 : decode cX11_writesText 62 = .ok (.laload, 1) := by decide +kernel
theorem dX11_writesText_63 : decode cX11_writesText 63 = .ok (.lload_n 2, 1) := by decide +kernel
theorem dX11_writesText_64 : decode cX11_writesText 64 = .ok (.ldiv, 1) := by decide +kernel
theorem dX11_writesText_65 : decode cX11_writesText 65 = .ok (.ldc2_w 222, 3) := by decide +kernel
theorem dX11_writesText_68 : decode cX11_writesText 68 = .ok (.lrem, 1) := by decide +kernel
theorem dX11_writesText_69 : decode cX11_writesText 69 = .ok (.ladd, 1) := by decide +kernel
theorem dX11_writesText_70 : decode cX11_writesText 70 = .ok (.invokevirtual 460, 3) := by decide +kernel
theorem dX11_writesText_73 : decode cX11_writesText 73 = .ok (.lload_n 2, 1) := by decide +kernel
theorem dX11_writesText_74 : decode cX11_writesText 74 = .ok (.lload_n 2, 1) := by decide +kernel
theorem dX11_writesText_75 : decode cX11_writesText 75 = .ok (.lconst 1, 1) := by decide +kernel
theorem dX11_writesText_76 : decode cX11_writesText 76 = .ok (.lcmp, 1) := by decide +kernel
theorem dX11_writesText_77 : decode cX11_writesText 77 = .ok (.ifCond .le 9, 3) := by decide +kernel
theorem dX11_writesText_80 : decode cX11_writesText 80 = .ok (.ldc2_w 222, 3) := by decide +kernel
theorem dX11_writesText_83 : decode cX11_writesText 83 = .ok (.goto 4, 3) := by decide +kernel
theorem dX11_writesText_86 : decode cX11_writesText 86 = .ok (.lconst 1, 1) := by decide +kernel
theorem dX11_writesText_87 : decode cX11_writesText 87 = .ok (.ldiv, 1) := by decide +kernel
theorem dX11_writesText_88 : decode cX11_writesText 88 = .ok (.lstore_n 2, 1) := by decide +kernel
theorem dX11_writesText_89 : decode cX11_writesText 89 = .ok (.iinc 4 1, 3) := by decide +kernel
theorem dX11_writesText_92 : decode cX11_writesText 92 = .ok (.goto (-50), 3) := by decide +kernel
theorem dX11_writesText_95 : decode cX11_writesText 95 = .ok (.return_, 1) := by decide +kernel
theorem dX11_writesTree_0 : decode cX11_writesTree 0 = .ok (.aload_n 0, 1) := by decide +kernel
theorem dX11_writesTree_1 : decode cX11_writesTree 1 = .ok (.iconst 0, 1) := by decide +kernel
theorem dX11_writesTree_2 : decode cX11_writesTree 2 = .ok (.putfield 448, 3) := by decide +kernel
theorem dX11_writesTree_5 : decode cX11_writesTree 5 = .ok (.aload_n 0, 1) := by decide +kernel
theorem dX11_writesTree_6 : decode cX11_writesTree 6 = .ok (.iconst 0, 1) := by decide +kernel
theorem dX11_writesTree_7 : decode cX11_writesTree 7 = .ok (.putfield 451, 3) := by decide +kernel
theorem dX11_writesTree_10 : decode cX11_writesTree 10 = .ok (.aload_n 0, 1) := by decide +kernel
theorem dX11_writesTree_11 : decode cX11_writesTree 11 = .ok (.iload_n 1, 1) := by decide +kernel
theorem dX11_writesTree_12 : decode cX11_writesTree 12 = .ok (.invokevirtual 472, 3) := by decide +kernel
theorem dX11_writesTree_15 : decode cX11_writesTree 15 = .ok (.return_, 1) := by decide +kernel
def f_X11_writesNumber_9  : Nat → Int64 → ST → Option (ST)
  | 0, _, _ => none
  | n + 1, x3, σ => if (lg_cmp (x3 &&& (-128)) 0) = 0 then ((f_X11_writesByte  x3 σ).bind fun q1 => some q1) else ((f_X11_writesByte  ((x3 &&& 127) ||| 128) σ).bind fun q3 => (some ((x3.toUInt64 >>> ((7 : Int32).toInt64.toUInt64 &&& Int64.toUInt64 63)).toInt64)).bind fun x5 => f_X11_writesNumber_9  n x5 q3)
def f_X11_writesNumber (p0 : Int64) (σ : ST) : Option (ST) := (some ((p0 <<< ((1 : Int32).toInt64 &&& 63)) ^^^ (p0 >>> ((63 : Int32).toInt64 &&& 63)))).bind fun x1 => f_X11_writesNumber_9  FU x1 σ

set_option maxRecDepth 100000 in
set_option maxHeartbeats 4000000 in
theorem b_X11_writesNumber_9 {p : Program} {l : Launch} {e : Env} {s : State} {m : MethodId} {args : Array Value} {below : List Frame} {meth : Method} {c : Code} {dC : Nat → ClassId} {dI : Nat → Nat → Nat} {a : Nat → Nat} {k : Nat → ClassId} {A : Nat → Prop} {q : ST} (hC : CxB p s m args meth c dC dI k A cX11_writesNumber RX11 none 5)   : ∀ (n : Nat) (x3 : Int64) (σ : ST), f_X11_writesNumber_9  n x3 σ = some q → GoB p l e ({ frames := 1, cells := 0, slots := 0, locals := 22 } : Room) s m args below meth c (MQ below (qBv dC dI a k A q) args s 0 0 A) dC dI a k A 5 9 σ [(0, .ref (a 0)), (3, .long x3)] [] := by
  intro n
  induction n with
  | zero =>
    intro x3 σ h
    rw [f_X11_writesNumber_9] at h
    cases h
  | succ n ih =>
    intro x3 σ h
    have hC0 := hC
    obtain ⟨hx, hb, hr, hml, hown, hts, hlocks, hA, hN, hK⟩ := hC0
    intro H locs ls hP hD hS hl
    have hD0 : ∀ σ1 : ST, va_D A (wB a k σ1) := fun σ1 => wB_D hD
    rw [f_X11_writesNumber_9] at h
    refine lv_lload_n hx hb dX11_writesNumber_9 rfl (lv_at hl 1 rfl) ?_
    refine lv_ldc2 (v := (-128)) hx hb hown (hts (.constantLong RX11 454 (-128)) mw_34_28) dX11_writesNumber_10 ?_
    refine lv_land hx hb dX11_writesNumber_13 ?_
    refine lv_lconst (v := 0) hx hb dX11_writesNumber_14 (by decide) ?_
    refine W.lcmp hx hb dX11_writesNumber_15 ?_
    refine lv_if_eq (tgt := 40) hx hb dX11_writesNumber_16 (by decide) (fun hc => ?_) (fun hc => ?_)
    · replace h := ip hc h
      refine lv_aload_n hx hb dX11_writesNumber_40 rfl (lv_at hl 0 rfl) ?_
      refine lv_lload_n hx hb dX11_writesNumber_41 rfl (lv_at hl 1 rfl) ?_
      obtain ⟨q1, hc, h⟩ := ib h
      have hF := va_frees hD hS hA
      refine va_callv (va_runV (As := [.long x3]) (rest := []) ⟨hx, hb, hml, hown, hts⟩ (s_X11_writesByte hc) (cwV 1 hts (gV mw_35_1 mw_35_2 mw_35_3 mw_0_15 mw_55_22) rfl rfl rfl (by decide +kernel) ⟨(Nat.le_of_ble_eq_true rfl), (Nat.le_of_ble_eq_true rfl)⟩) (vV (ci := 11) (q0 := 0) hK hP hD hN rfl gB_0) rfl rfl hl.1 rfl (lv_room (Nat.le_of_ble_eq_true rfl)) dX11_writesNumber_42 ⟨(Nat.le_of_ble_eq_true rfl), (Nat.le_of_ble_eq_true rfl)⟩) hS (fun q _ h => hF q h) hF (fun u t H locs ht hvm hw hB _ _ hS => ?_)
      replace hP : va_P (dC, dI) vwCl (wB a k q1) H := by rw [← ht]; exact hB.1
      replace hD := hD0 (q1)
      clear hB hF
      obtain rfl := Option.some.inj h
      exact W.vret hx hb hr (fun t ht hW => ⟨⟨(), rfl, trivial, ⟨by rw [ht]; exact hP, va_K.moved hW.alike hK, hD⟩⟩, hS.F ht⟩) hS.2.2 dX11_writesNumber_45
    · replace h := iq hc h
      refine lv_aload_n hx hb dX11_writesNumber_19 rfl (lv_at hl 0 rfl) ?_
      refine lv_lload_n hx hb dX11_writesNumber_20 rfl (lv_at hl 1 rfl) ?_
      refine lv_ldc2 (v := 127) hx hb hown (hts (.constantLong RX11 456 (127)) mw_34_29) dX11_writesNumber_21 ?_
      refine lv_land hx hb dX11_writesNumber_24 ?_
      refine lv_ldc2 (v := 128) hx hb hown (hts (.constantLong RX11 458 (128)) mw_35_0) dX11_writesNumber_25 ?_
      refine lv_lor hx hb dX11_writesNumber_28 ?_
      obtain ⟨q3, hc, h⟩ := ib h
      have hF := va_frees hD hS hA
      refine va_callv (va_runV (As := [.long ((x3 &&& 127) ||| 128)]) (rest := []) ⟨hx, hb, hml, hown, hts⟩ (s_X11_writesByte hc) (cwV 1 hts (gV mw_35_1 mw_35_2 mw_35_3 mw_0_15 mw_55_22) rfl rfl rfl (by decide +kernel) ⟨(Nat.le_of_ble_eq_true rfl), (Nat.le_of_ble_eq_true rfl)⟩) (vV (ci := 11) (q0 := 0) hK hP hD hN rfl gB_0) rfl rfl hl.1 rfl (lv_room (Nat.le_of_ble_eq_true rfl)) dX11_writesNumber_29 ⟨(Nat.le_of_ble_eq_true rfl), (Nat.le_of_ble_eq_true rfl)⟩) hS (fun q _ h => hF q h) hF (fun u t H locs ht hvm hw hB _ _ hS => ?_)
      replace hP : va_P (dC, dI) vwCl (wB a k q3) H := by rw [← ht]; exact hB.1
      replace hD := hD0 (q3)
      clear hB hF
      refine lv_lload_n hx hb dX11_writesNumber_32 rfl (lv_at hl 1 rfl) ?_
      refine lv_bipush (v := 7) hx hb dX11_writesNumber_33 (by decide) ?_
      refine lv_lushr (v := ((x3.toUInt64 >>> ((7 : Int32).toInt64.toUInt64 &&& Int64.toUInt64 63)).toInt64)) hx hb dX11_writesNumber_35 rfl ?_
      obtain ⟨x5, hs, h⟩ := ib h
      replace hs := Option.some.inj hs
      refine lv_topl (fun y9 e9 => ?_)
      obtain rfl : x5 = y9 := (e9.trans hs).symm
      clear hs e9
      refine lv_lstore_n (lv' := [(3, .long x5), (0, .ref (a 0))]) hx hb dX11_writesNumber_36 rfl hl (by decide) rfl (fun ls hl => ?_)
      refine lv_goto (tgt := 9) hx hb dX11_writesNumber_37 (by decide) ?_
      exact ih _ _ h _ _ _ hP hD hS (lv_sub hl [1, 0] rfl)

set_option maxRecDepth 100000 in
set_option maxHeartbeats 4000000 in
theorem b_X11_writesNumber_e {p : Program} {l : Launch} {e : Env} {s : State} {m : MethodId} {args : Array Value} {below : List Frame} {meth : Method} {c : Code} {dC : Nat → ClassId} {dI : Nat → Nat → Nat} {a : Nat → Nat} {k : Nat → ClassId} {A : Nat → Prop} {q : ST} (hC : CxB p s m args meth c dC dI k A cX11_writesNumber RX11 none 5)   {p0 : Int64} {σ : ST} (h : f_X11_writesNumber  p0 σ = some q) : GoB p l e ({ frames := 1, cells := 0, slots := 0, locals := 22 } : Room) s m args below meth c (MQ below (qBv dC dI a k A q) args s 0 0 A) dC dI a k A 5 0 σ (lv_args 0 [.ref (a 0), .long p0]) [] := by
  have hC0 := hC
  obtain ⟨hx, hb, hr, hml, hown, hts, hlocks, hA, hN, hK⟩ := hC0
  intro H locs ls hP hD hS hl
  have hD0 : ∀ σ1 : ST, va_D A (wB a k σ1) := fun σ1 => wB_D hD
  replace hl : lv_has ls 5 [(0, .ref (a 0)), (1, .long p0)] := hl
  unfold f_X11_writesNumber at h
  refine lv_lload_n hx hb dX11_writesNumber_0 rfl (lv_at hl 1 rfl) ?_
  refine lv_iconst (v := 1) hx hb dX11_writesNumber_1 (by decide) ?_
  refine lv_lshl (v := (p0 <<< ((1 : Int32).toInt64 &&& 63))) hx hb dX11_writesNumber_2 rfl ?_
  refine lv_lload_n hx hb dX11_writesNumber_3 rfl (lv_at hl 1 rfl) ?_
  refine lv_bipush (v := 63) hx hb dX11_writesNumber_4 (by decide) ?_
  refine lv_lshr (v := (p0 >>> ((63 : Int32).toInt64 &&& 63))) hx hb dX11_writesNumber_6 rfl ?_
  refine lv_lxor hx hb dX11_writesNumber_7 ?_
  obtain ⟨x1, hs, h⟩ := ib h
  replace hs := Option.some.inj hs
  refine lv_topl (fun y9 e9 => ?_)
  obtain rfl : x1 = y9 := (e9.trans hs).symm
  clear hs e9
  refine lv_lstore_n (lv' := [(3, .long x1), (0, .ref (a 0)), (1, .long p0)]) hx hb dX11_writesNumber_8 rfl hl (by decide) rfl (fun ls hl => ?_)
  exact b_X11_writesNumber_9 hC FU _ _ h _ _ _ hP hD hS (lv_sub hl [1, 0] rfl)

theorem s_X11_writesNumber {l : Launch} {dC : Nat → ClassId} {dI : Nat → Nat → Nat} {a : Nat → Nat} {k : Nat → ClassId} {sz : Nat} {p0 : Int64} {σ : ST} {q : ST} (h : f_X11_writesNumber  p0 σ = some q) : Met l yX11_writesNumber (.code yX11_writesNumber cX11_writesNumber 5 none :: pw) ({ frames := 1, cells := 0, slots := 0, locals := 22 } : Room) (va_Pc [.ref (a 0), .long p0] (vPre dC dI (wB a k σ) (tB k) sz)) (qBv dC dI a k (va_A (wB a k σ) sz) q) 0 0 (va_A (wB a k σ) sz) := metB (fun A => qBv dC dI a k A q) (plainFor_of_name (by decide)) (Nat.le_of_ble_eq_true rfl) (fun _ _ _ _ _ _ _ _ hC => b_X11_writesNumber_e hC h)

def f_X11_writesText_87 (k42 : Int32 → Int64 → Int32 → ST → Option (ST)) (x1 : Int32) (x4 : Int32) (y0 : Int64) (y1 : Int64) (σ : ST) : Option (ST) := if ¬ y0 = 0 then (k42 x1 (y1 / y0) (x4 + 1) σ) else none
def f_X11_writesText_42  : Nat → Int32 → Int64 → Int32 → ST → Option (ST)
  | 0, _, _, _, _ => none
  | n + 1, x1, x2, x4, σ => if 0 ≤ x1.toInt ∧ x1.toInt < 4096 then (if (σ.1 23 x1.toNatClampNeg) ≤ x4 then (some σ) else (if ¬ x2 = 0 then ((f_X11_writesByte  (96 + (((σ.2.1 22 x1.toNatClampNeg) / x2) - ((σ.2.1 22 x1.toNatClampNeg) / x2) / 27 * 27)) σ).bind fun q3 => if (lg_cmp x2 1) ≤ 0 then (f_X11_writesText_87 (f_X11_writesText_42  n) x1 x4 1 x2 q3) else (f_X11_writesText_87 (f_X11_writesText_42  n) x1 x4 27 x2 q3)) else none)) else none
def f_X11_writesText_16  : Nat → Int32 → Int64 → Int32 → ST → Option (ST)
  | 0, _, _, _, _ => none
  | n + 1, x1, x2, x4, σ => if 0 ≤ x1.toInt ∧ x1.toInt < 4096 then (if (σ.1 23 x1.toNatClampNeg) ≤ x4 then (f_X11_writesText_42  FU x1 x2 0 σ) else (f_X11_writesText_16  n x1 (x2 * 27) (x4 + 1) σ)) else none
def f_X11_writesText (p0 : Int32) (σ : ST) : Option (ST) := if 0 ≤ p0.toInt ∧ p0.toInt < 4096 then ((f_X11_writesNumber  ((σ.1 23 p0.toNatClampNeg).toInt64) σ).bind fun q2 => f_X11_writesText_16  FU p0 1 1 q2) else none

set_option maxRecDepth 100000 in
set_option maxHeartbeats 4000000 in
theorem b_X11_writesText_87 {p : Program} {l : Launch} {e : Env} {s : State} {m : MethodId} {args : Array Value} {below : List Frame} {meth : Method} {c : Code} {dC : Nat → ClassId} {dI : Nat → Nat → Nat} {a : Nat → Nat} {k : Nat → ClassId} {A : Nat → Prop} {q : ST} (hC : CxB p s m args meth c dC dI k A cX11_writesText RX11 none 5)  {k42 : Int32 → Int64 → Int32 → ST → Option (ST)} (hk42 : ∀ (x1 : Int32) (x2 : Int64) (x4 : Int32) (σ : ST), k42 x1 x2 x4 σ = some q → GoB p l e ({ frames := 2, cells := 0, slots := 0, locals := 46 } : Room) s m args below meth c (MQ below (qBv dC dI a k A q) args s 0 0 A) dC dI a k A 5 42 σ [(0, .ref (a 0)), (1, .int x1), (2, .long x2), (4, .int x4)] []) {x1 : Int32} {x4 : Int32} {y0 : Int64} {y1 : Int64} {σ : ST} (h : f_X11_writesText_87 k42 x1 x4 y0 y1 σ = some q) : GoB p l e ({ frames := 2, cells := 0, slots := 0, locals := 46 } : Room) s m args below meth c (MQ below (qBv dC dI a k A q) args s 0 0 A) dC dI a k A 5 87 σ [(0, .ref (a 0)), (1, .int x1), (4, .int x4)] [.long y0, .long y1] := by
  have hC0 := hC
  obtain ⟨hx, hb, hr, hml, hown, hts, hlocks, hA, hN, hK⟩ := hC0
  intro H locs ls hP hD hS hl
  have hD0 : ∀ σ1 : ST, va_D A (wB a k σ1) := fun σ1 => wB_D hD
  unfold f_X11_writesText_87 at h
  obtain ⟨hg1, h⟩ := ig h
  refine lv_ldiv hx hb dX11_writesText_87 hg1 ?_
  refine lv_lstore_n (lv' := [(2, .long (y1 / y0)), (0, .ref (a 0)), (1, .int x1), (4, .int x4)]) hx hb dX11_writesText_88 rfl hl (by decide) rfl (fun ls hl => ?_)
  refine lv_iinc (v := (x4 + 1)) (lv' := [(4, .int (x4 + 1)), (2, .long (y1 / y0)), (0, .ref (a 0)), (1, .int x1)]) hx hb dX11_writesText_89 hl (k := 3) rfl rfl (by decide) rfl (fun ls hl => ?_)
  refine lv_goto (tgt := 42) hx hb dX11_writesText_92 (by decide) ?_
  exact hk42 _ _ _ _ h _ _ _ hP hD hS (lv_sub hl [2, 3, 1, 0] rfl)

set_option maxRecDepth 100000 in
set_option maxHeartbeats 4000000 in
theorem b_X11_writesText_42 {p : Program} {l : Launch} {e : Env} {s : State} {m : MethodId} {args : Array Value} {below : List Frame} {meth : Method} {c : Code} {dC : Nat → ClassId} {dI : Nat → Nat → Nat} {a : Nat → Nat} {k : Nat → ClassId} {A : Nat → Prop} {q : ST} (hC : CxB p s m args meth c dC dI k A cX11_writesText RX11 none 5)   : ∀ (n : Nat) (x1 : Int32) (x2 : Int64) (x4 : Int32) (σ : ST), f_X11_writesText_42  n x1 x2 x4 σ = some q → GoB p l e ({ frames := 2, cells := 0, slots := 0, locals := 46 } : Room) s m args below meth c (MQ below (qBv dC dI a k A q) args s 0 0 A) dC dI a k A 5 42 σ [(0, .ref (a 0)), (1, .int x1), (2, .long x2), (4, .int x4)] [] := by
  intro n
  induction n with
  | zero =>
    intro x1 x2 x4 σ h
    rw [f_X11_writesText_42] at h
    cases h
  | succ n ih =>
    intro x1 x2 x4 σ h
    have hC0 := hC
    obtain ⟨hx, hb, hr, hml, hown, hts, hlocks, hA, hN, hK⟩ := hC0
    intro H locs ls hP hD hS hl
    have hD0 : ∀ σ1 : ST, va_D A (wB a k σ1) := fun σ1 => wB_D hD
    rw [f_X11_writesText_42] at h
    refine lv_iload hx hb dX11_writesText_42 (lv_at hl 3 rfl) ?_
    refine lv_aload_n hx hb dX11_writesText_44 rfl (lv_at hl 0 rfl) ?_
    refine va_get (D := (dC, dI)) (ci := 11) (C := RX11) (T := TX11) (N := 95) hx hb hts inlX11 hown hK hP 0 gB_0 rfl 38 (by decide) (hts (.fieldLink RX11 79 "ShapeReaderModel" "nodeHas" "[I") mw_27_19) (fun _ h9 => h9) rfl dX11_writesText_45 ?_
    refine lv_iload_n hx hb dX11_writesText_48 rfl (lv_at hl 1 rfl) ?_
    obtain ⟨hg1, h⟩ := ig h
    refine va_iald hx hb hK hP 23 22 gB_23 yB_23 (vp_in_iff.mpr hg1) dX11_writesText_49 ?_
    refine lv_icmp_ge (tgt := 95) hx hb dX11_writesText_50 (by decide) (fun hc => ?_) (fun hc => ?_)
    · replace h := ip hc h
      obtain rfl := Option.some.inj h
      exact W.vret hx hb hr (fun t ht hW => ⟨⟨(), rfl, trivial, ⟨by rw [ht]; exact hP, va_K.moved hW.alike hK, hD⟩⟩, hS.F ht⟩) hS.2.2 dX11_writesText_95
    · replace h := iq hc h
      refine lv_aload_n hx hb dX11_writesText_53 rfl (lv_at hl 0 rfl) ?_
      refine lv_ldc2 (v := 96) hx hb hown (hts (.constantLong RX11 224 (96)) mw_29_13) dX11_writesText_54 ?_
      refine lv_aload_n hx hb dX11_writesText_57 rfl (lv_at hl 0 rfl) ?_
      refine va_get (D := (dC, dI)) (ci := 11) (C := RX11) (T := TX11) (N := 95) hx hb hts inlX11 hown hK hP 0 gB_0 rfl 37 (by decide) (hts (.fieldLink RX11 76 "ShapeReaderModel" "nodeText" "[J") mw_27_18) (fun _ h9 => h9) rfl dX11_writesText_58 ?_
      refine lv_iload_n hx hb dX11_writesText_61 rfl (lv_at hl 1 rfl) ?_
      refine va_lald hx hb hK hP 22 21 gB_22 yB_22 (vp_in_iff.mpr hg1) dX11_writesText_62 ?_
      refine lv_lload_n hx hb dX11_writesText_63 rfl (lv_at hl 2 rfl) ?_
      obtain ⟨hg2, h⟩ := ig h
      refine lv_ldiv hx hb dX11_writesText_64 hg2 ?_
      refine lv_ldc2 (v := 27) hx hb hown (hts (.constantLong RX11 222 (27)) mw_29_12) dX11_writesText_65 ?_
      refine lv_lrem hx hb dX11_writesText_68 (by decide) ?_
      refine lv_ladd hx hb dX11_writesText_69 ?_
      obtain ⟨q3, hc, h⟩ := ib h
      have hF := va_frees hD hS hA
      refine va_callv (va_runV (As := [.long (96 + (((σ.2.1 22 x1.toNatClampNeg) / x2) - ((σ.2.1 22 x1.toNatClampNeg) / x2) / 27 * 27))]) (rest := []) ⟨hx, hb, hml, hown, hts⟩ (s_X11_writesByte hc) (cwV 1 hts (gV mw_35_1 mw_35_2 mw_35_3 mw_0_15 mw_55_22) rfl rfl rfl (by decide +kernel) ⟨(Nat.le_of_ble_eq_true rfl), (Nat.le_of_ble_eq_true rfl)⟩) (vV (ci := 11) (q0 := 0) hK hP hD hN rfl gB_0) rfl rfl hl.1 rfl (lv_room (Nat.le_of_ble_eq_true rfl)) dX11_writesText_70 ⟨(Nat.le_of_ble_eq_true rfl), (Nat.le_of_ble_eq_true rfl)⟩) hS (fun q _ h => hF q h) hF (fun u t H locs ht hvm hw hB _ _ hS => ?_)
      replace hP : va_P (dC, dI) vwCl (wB a k q3) H := by rw [← ht]; exact hB.1
      replace hD := hD0 (q3)
      clear hB hF
      refine lv_lload_n hx hb dX11_writesText_73 rfl (lv_at hl 2 rfl) ?_
      refine lv_lload_n hx hb dX11_writesText_74 rfl (lv_at hl 2 rfl) ?_
      refine lv_lconst (v := 1) hx hb dX11_writesText_75 (by decide) ?_
      refine W.lcmp hx hb dX11_writesText_76 ?_
      refine lv_if_le (tgt := 86) hx hb dX11_writesText_77 (by decide) (fun hc => ?_) (fun hc => ?_)
      · replace h := ip hc h
        refine lv_lconst (v := 1) hx hb dX11_writesText_86 (by decide) ?_
        exact b_X11_writesText_87 hC ih h _ _ _ hP hD hS (lv_sub hl [0, 1, 3] rfl)
      · replace h := iq hc h
        refine lv_ldc2 (v := 27) hx hb hown (hts (.constantLong RX11 222 (27)) mw_29_12) dX11_writesText_80 ?_
        refine lv_goto (tgt := 87) hx hb dX11_writesText_83 (by decide) ?_
        exact b_X11_writesText_87 hC ih h _ _ _ hP hD hS (lv_sub hl [0, 1, 3] rfl)

set_option maxRecDepth 100000 in
set_option maxHeartbeats 4000000 in
theorem b_X11_writesText_16 {p : Program} {l : Launch} {e : Env} {s : State} {m : MethodId} {args : Array Value} {below : List Frame} {meth : Method} {c : Code} {dC : Nat → ClassId} {dI : Nat → Nat → Nat} {a : Nat → Nat} {k : Nat → ClassId} {A : Nat → Prop} {q : ST} (hC : CxB p s m args meth c dC dI k A cX11_writesText RX11 none 5)   : ∀ (n : Nat) (x1 : Int32) (x2 : Int64) (x4 : Int32) (σ : ST), f_X11_writesText_16  n x1 x2 x4 σ = some q → GoB p l e ({ frames := 2, cells := 0, slots := 0, locals := 46 } : Room) s m args below meth c (MQ below (qBv dC dI a k A q) args s 0 0 A) dC dI a k A 5 16 σ [(0, .ref (a 0)), (1, .int x1), (2, .long x2), (4, .int x4)] [] := by
  intro n
  induction n with
  | zero =>
    intro x1 x2 x4 σ h
    rw [f_X11_writesText_16] at h
    cases h
  | succ n ih =>
    intro x1 x2 x4 σ h
    have hC0 := hC
    obtain ⟨hx, hb, hr, hml, hown, hts, hlocks, hA, hN, hK⟩ := hC0
    intro H locs ls hP hD hS hl
    have hD0 : ∀ σ1 : ST, va_D A (wB a k σ1) := fun σ1 => wB_D hD
    rw [f_X11_writesText_16] at h
    refine lv_iload hx hb dX11_writesText_16 (lv_at hl 3 rfl) ?_
    refine lv_aload_n hx hb dX11_writesText_18 rfl (lv_at hl 0 rfl) ?_
    refine va_get (D := (dC, dI)) (ci := 11) (C := RX11) (T := TX11) (N := 95) hx hb hts inlX11 hown hK hP 0 gB_0 rfl 38 (by decide) (hts (.fieldLink RX11 79 "ShapeReaderModel" "nodeHas" "[I") mw_27_19) (fun _ h9 => h9) rfl dX11_writesText_19 ?_
    refine lv_iload_n hx hb dX11_writesText_22 rfl (lv_at hl 1 rfl) ?_
    obtain ⟨hg1, h⟩ := ig h
    refine va_iald hx hb hK hP 23 22 gB_23 yB_23 (vp_in_iff.mpr hg1) dX11_writesText_23 ?_
    refine lv_icmp_ge (tgt := 39) hx hb dX11_writesText_24 (by decide) (fun hc => ?_) (fun hc => ?_)
    · replace h := ip hc h
      refine lv_iconst (v := 0) hx hb dX11_writesText_39 (by decide) ?_
      refine lv_istore (lv' := [(4, .int 0), (0, .ref (a 0)), (1, .int x1), (2, .long x2)]) hx hb dX11_writesText_40 hl (by decide) rfl (fun ls hl => ?_)
      exact b_X11_writesText_42 hC FU _ _ _ _ h _ _ _ hP hD hS (lv_sub hl [1, 2, 3, 0] rfl)
    · replace h := iq hc h
      refine lv_lload_n hx hb dX11_writesText_27 rfl (lv_at hl 2 rfl) ?_
      refine lv_ldc2 (v := 27) hx hb hown (hts (.constantLong RX11 222 (27)) mw_29_12) dX11_writesText_28 ?_
      refine lv_lmul hx hb dX11_writesText_31 ?_
      refine lv_lstore_n (lv' := [(2, .long (x2 * 27)), (0, .ref (a 0)), (1, .int x1), (4, .int x4)]) hx hb dX11_writesText_32 rfl hl (by decide) rfl (fun ls hl => ?_)
      refine lv_iinc (v := (x4 + 1)) (lv' := [(4, .int (x4 + 1)), (2, .long (x2 * 27)), (0, .ref (a 0)), (1, .int x1)]) hx hb dX11_writesText_33 hl (k := 3) rfl rfl (by decide) rfl (fun ls hl => ?_)
      refine lv_goto (tgt := 16) hx hb dX11_writesText_36 (by decide) ?_
      exact ih _ _ _ _ h _ _ _ hP hD hS (lv_sub hl [2, 3, 1, 0] rfl)

set_option maxRecDepth 100000 in
set_option maxHeartbeats 4000000 in
theorem b_X11_writesText_e {p : Program} {l : Launch} {e : Env} {s : State} {m : MethodId} {args : Array Value} {below : List Frame} {meth : Method} {c : Code} {dC : Nat → ClassId} {dI : Nat → Nat → Nat} {a : Nat → Nat} {k : Nat → ClassId} {A : Nat → Prop} {q : ST} (hC : CxB p s m args meth c dC dI k A cX11_writesText RX11 none 5)   {p0 : Int32} {σ : ST} (h : f_X11_writesText  p0 σ = some q) : GoB p l e ({ frames := 2, cells := 0, slots := 0, locals := 46 } : Room) s m args below meth c (MQ below (qBv dC dI a k A q) args s 0 0 A) dC dI a k A 5 0 σ (lv_args 0 [.ref (a 0), .int p0]) [] := by
  have hC0 := hC
  obtain ⟨hx, hb, hr, hml, hown, hts, hlocks, hA, hN, hK⟩ := hC0
  intro H locs ls hP hD hS hl
  have hD0 : ∀ σ1 : ST, va_D A (wB a k σ1) := fun σ1 => wB_D hD
  replace hl : lv_has ls 5 [(0, .ref (a 0)), (1, .int p0)] := hl
  unfold f_X11_writesText at h
  refine lv_aload_n hx hb dX11_writesText_0 rfl (lv_at hl 0 rfl) ?_
  refine lv_aload_n hx hb dX11_writesText_1 rfl (lv_at hl 0 rfl) ?_
  refine va_get (D := (dC, dI)) (ci := 11) (C := RX11) (T := TX11) (N := 95) hx hb hts inlX11 hown hK hP 0 gB_0 rfl 38 (by decide) (hts (.fieldLink RX11 79 "ShapeReaderModel" "nodeHas" "[I") mw_27_19) (fun _ h9 => h9) rfl dX11_writesText_2 ?_
  refine lv_iload_n hx hb dX11_writesText_5 rfl (lv_at hl 1 rfl) ?_
  obtain ⟨hg1, h⟩ := ig h
  refine va_iald hx hb hK hP 23 22 gB_23 yB_23 (vp_in_iff.mpr hg1) dX11_writesText_6 ?_
  refine lv_i2l (v := (σ.1 23 p0.toNatClampNeg).toInt64) hx hb dX11_writesText_7 rfl ?_
  obtain ⟨q2, hc, h⟩ := ib h
  have hF := va_frees hD hS hA
  refine va_callv (va_runV (As := [.long ((σ.1 23 p0.toNatClampNeg).toInt64)]) (rest := []) ⟨hx, hb, hml, hown, hts⟩ (s_X11_writesNumber hc) (cwV 1 hts (gV mw_35_4 mw_35_5 mw_35_6 mw_0_15 mw_55_23) rfl rfl rfl (by decide +kernel) ⟨(Nat.le_of_ble_eq_true rfl), (Nat.le_of_ble_eq_true rfl)⟩) (vV (ci := 11) (q0 := 0) hK hP hD hN rfl gB_0) rfl rfl hl.1 rfl (lv_room (Nat.le_of_ble_eq_true rfl)) dX11_writesText_8 ⟨(Nat.le_of_ble_eq_true rfl), (Nat.le_of_ble_eq_true rfl)⟩) hS (fun q _ h => hF q h) hF (fun u t H locs ht hvm hw hB _ _ hS => ?_)
  replace hP : va_P (dC, dI) vwCl (wB a k q2) H := by rw [← ht]; exact hB.1
  replace hD := hD0 (q2)
  clear hB hF
  refine lv_lconst (v := 1) hx hb dX11_writesText_11 (by decide) ?_
  refine lv_lstore_n (lv' := [(2, .long 1), (0, .ref (a 0)), (1, .int p0)]) hx hb dX11_writesText_12 rfl hl (by decide) rfl (fun ls hl => ?_)
  refine lv_iconst (v := 1) hx hb dX11_writesText_13 (by decide) ?_
  refine lv_istore (lv' := [(4, .int 1), (2, .long 1), (0, .ref (a 0)), (1, .int p0)]) hx hb dX11_writesText_14 hl (by decide) rfl (fun ls hl => ?_)
  exact b_X11_writesText_16 hC FU _ _ _ _ h _ _ _ hP hD hS (lv_sub hl [2, 3, 1, 0] rfl)

theorem s_X11_writesText {l : Launch} {dC : Nat → ClassId} {dI : Nat → Nat → Nat} {a : Nat → Nat} {k : Nat → ClassId} {sz : Nat} {p0 : Int32} {σ : ST} {q : ST} (h : f_X11_writesText  p0 σ = some q) : Met l yX11_writesText (.code yX11_writesText cX11_writesText 5 none :: pw) ({ frames := 2, cells := 0, slots := 0, locals := 46 } : Room) (va_Pc [.ref (a 0), .int p0] (vPre dC dI (wB a k σ) (tB k) sz)) (qBv dC dI a k (va_A (wB a k σ) sz) q) 0 0 (va_A (wB a k σ) sz) := metB (fun A => qBv dC dI a k A q) (plainFor_of_name (by decide)) (Nat.le_of_ble_eq_true rfl) (fun _ _ _ _ _ _ _ _ hC => b_X11_writesText_e hC h)

def f_X11_writes_89 (r_X11_writes : Int32 → ST → Option (ST)) : Nat → Int32 → Int32 → ST → Option (ST)
  | 0, _, _, _ => none
  | n + 1, x1, x2, σ => if x2 < 0 then (some σ) else (if 0 ≤ x1.toInt ∧ x1.toInt < 4096 then ((f_X11_writesByte  (((σ.2.1 21 x1.toNatClampNeg) >>> (x2.toInt64 &&& 63)) &&& 255) σ).bind fun q2 => f_X11_writes_89 r_X11_writes n x1 (x2 + (-8)) q2) else none)
def f_X11_writes_155 (r_X11_writes : Int32 → ST → Option (ST)) : Nat → Int32 → ST → Option (ST)
  | 0, _, _ => none
  | n + 1, x2, σ => if x2 < 0 then (some σ) else (if (σ.1 0 49) = 0 then ((r_X11_writes  x2 σ).bind fun q1 => if 0 ≤ x2.toInt ∧ x2.toInt < 4096 then (f_X11_writes_155 r_X11_writes n (q1.1 30 x2.toNatClampNeg) q1) else none) else (some σ))
def f_X11_writes_148 (r_X11_writes : Int32 → ST → Option (ST)) (x1 : Int32) (σ : ST) : Option (ST) := if 0 ≤ x1.toInt ∧ x1.toInt < 4096 then (f_X11_writes_155 r_X11_writes FU (σ.1 28 x1.toNatClampNeg) σ) else none
def f_X11_writes_20 (r_X11_writes : Int32 → ST → Option (ST)) (x1 : Int32) (σ : ST) : Option (ST) := if 0 ≤ x1.toInt ∧ x1.toInt < 4096 then (if (σ.1 20 x1.toNatClampNeg) = 1 then ((f_X11_writesByte  (σ.2.1 21 x1.toNatClampNeg) σ).bind fun q7 => some q7) else (if (σ.1 20 x1.toNatClampNeg) = 2 then ((f_X11_writesNumber  (σ.2.1 21 x1.toNatClampNeg) σ).bind fun q9 => some q9) else (if (σ.1 20 x1.toNatClampNeg) = 3 then ((f_X11_writesNumber  (σ.2.1 21 x1.toNatClampNeg) σ).bind fun q11 => some q11) else (if (σ.1 20 x1.toNatClampNeg) = 4 then (f_X11_writes_89 r_X11_writes FU x1 56 σ) else (if (σ.1 20 x1.toNatClampNeg) = 5 then ((f_X11_writesText  x1 σ).bind fun q13 => some q13) else (if (σ.1 20 x1.toNatClampNeg) = 6 then ((f_X11_writesNumber  ((σ.1 23 x1.toNatClampNeg).toInt64) σ).bind fun q15 => f_X11_writes_148 r_X11_writes x1 q15) else (f_X11_writes_148 r_X11_writes x1 σ))))))) else none
def f_X11_writes (r_X11_writes : Int32 → ST → Option (ST)) (p0 : Int32) (σ : ST) : Option (ST) := if 0 ≤ p0.toInt ∧ p0.toInt < 4096 then (if (σ.1 26 p0.toNatClampNeg) < 0 then (f_X11_writes_20 r_X11_writes p0 σ) else ((f_X11_writesNumber  ((σ.1 26 p0.toNatClampNeg).toInt64) σ).bind fun q2 => f_X11_writes_20 r_X11_writes p0 q2)) else none

def R_X11_writes : Nat → (Int32 → ST → Option (ST))
  | 0 => (fun _ _ => none)
  | n + 1 => f_X11_writes ((R_X11_writes n))
def f_T_X11_writes (p0 : Int32) (σ : ST) : Option (ST) := (R_X11_writes FRB) p0 σ

set_option maxRecDepth 100000 in
set_option maxHeartbeats 4000000 in
theorem b_X11_writes_89 {p : Program} {l : Launch} {e : Env} {s : State} {m : MethodId} {args : Array Value} {below : List Frame} {meth : Method} {c : Code} {dC : Nat → ClassId} {dI : Nat → Nat → Nat} {a : Nat → Nat} {k : Nat → ClassId} {A : Nat → Prop} {q : ST} (hC : CxB p s m args meth c dC dI k A cX11_writes RX11 none 3) {nn : Nat} {r_X11_writes : Int32 → ST → Option (ST)} (hr_X11_writes : ∀ {sz : Nat} {p0 : Int32} {σ : ST} {q : ST}, r_X11_writes  p0 σ = some q → Met l yX11_writes (.code yX11_writes cX11_writes 3 none :: pw) ({ frames := 3 + nn, cells := 0, slots := 0, locals := 70 + 22 * nn } : Room) (va_Pc [.ref (a 0), .int p0] (vPre dC dI (wB a k σ) (tB k) sz)) (qBv dC dI a k (va_A (wB a k σ) sz) q) 0 0 (va_A (wB a k σ) sz))  : ∀ (n : Nat) (x1 : Int32) (x2 : Int32) (σ : ST), f_X11_writes_89 r_X11_writes n x1 x2 σ = some q → GoB p l e ({ frames := 3 + (nn + 1), cells := 0, slots := 0, locals := 70 + 22 * (nn + 1) } : Room) s m args below meth c (MQ below (qBv dC dI a k A q) args s 0 0 A) dC dI a k A 3 89 σ [(0, .ref (a 0)), (1, .int x1), (2, .int x2)] [] := by
  intro n
  induction n with
  | zero =>
    intro x1 x2 σ h
    rw [f_X11_writes_89] at h
    cases h
  | succ n ih =>
    intro x1 x2 σ h
    have hC0 := hC
    obtain ⟨hx, hb, hr, hml, hown, hts, hlocks, hA, hN, hK⟩ := hC0
    intro H locs ls hP hD hS hl
    have hD0 : ∀ σ1 : ST, va_D A (wB a k σ1) := fun σ1 => wB_D hD
    rw [f_X11_writes_89] at h
    refine lv_iload_n hx hb dX11_writes_89 rfl (lv_at hl 2 rfl) ?_
    refine lv_if_lt (tgt := 115) hx hb dX11_writes_90 (by decide) (fun hc => ?_) (fun hc => ?_)
    · replace h := ip hc h
      refine lv_goto (tgt := 181) hx hb dX11_writes_115 (by decide) ?_
      obtain rfl := Option.some.inj h
      exact W.vret hx hb hr (fun t ht hW => ⟨⟨(), rfl, trivial, ⟨by rw [ht]; exact hP, va_K.moved hW.alike hK, hD⟩⟩, hS.F ht⟩) hS.2.2 dX11_writes_181
    · replace h := iq hc h
      refine lv_aload_n hx hb dX11_writes_93 rfl (lv_at hl 0 rfl) ?_
      refine lv_aload_n hx hb dX11_writes_94 rfl (lv_at hl 0 rfl) ?_
      refine va_get (D := (dC, dI)) (ci := 11) (C := RX11) (T := TX11) (N := 95) hx hb hts inlX11 hown hK hP 0 gB_0 rfl 36 (by decide) (hts (.fieldLink RX11 73 "ShapeReaderModel" "nodeBits" "[J") mw_27_17) (fun _ h9 => h9) rfl dX11_writes_95 ?_
      refine lv_iload_n hx hb dX11_writes_98 rfl (lv_at hl 1 rfl) ?_
      obtain ⟨hg1, h⟩ := ig h
      refine va_lald hx hb hK hP 21 20 gB_21 yB_21 (vp_in_iff.mpr hg1) dX11_writes_99 ?_
      refine lv_iload_n hx hb dX11_writes_100 rfl (lv_at hl 2 rfl) ?_
      refine lv_lshr (v := ((σ.2.1 21 x1.toNatClampNeg) >>> (x2.toInt64 &&& 63))) hx hb dX11_writes_101 rfl ?_
      refine lv_ldc2 (v := 255) hx hb hown (hts (.constantLong RX11 467 (255)) mw_35_7) dX11_writes_102 ?_
      refine lv_land hx hb dX11_writes_105 ?_
      obtain ⟨q2, hc, h⟩ := ib h
      have hF := va_frees hD hS hA
      refine va_callv (va_runV (As := [.long (((σ.2.1 21 x1.toNatClampNeg) >>> (x2.toInt64 &&& 63)) &&& 255)]) (rest := []) ⟨hx, hb, hml, hown, hts⟩ (s_X11_writesByte hc) (cwV 1 hts (gV mw_35_1 mw_35_2 mw_35_3 mw_0_15 mw_55_22) rfl rfl rfl (by decide +kernel) ⟨by show 0 + 1 ≤ 3 + (nn + 1); omega, by show 8 + (3 + 11) + 0 ≤ 70 + 22 * (nn + 1); omega⟩) (vV (ci := 11) (q0 := 0) hK hP hD hN rfl gB_0) rfl rfl hl.1 rfl (lv_room (Nat.le_of_ble_eq_true rfl)) dX11_writes_106 ⟨(Nat.le_of_ble_eq_true rfl), (Nat.le_of_ble_eq_true rfl)⟩) hS (fun q _ h => hF q h) hF (fun u t H locs ht hvm hw hB _ _ hS => ?_)
      replace hP : va_P (dC, dI) vwCl (wB a k q2) H := by rw [← ht]; exact hB.1
      replace hD := hD0 (q2)
      clear hB hF
      refine lv_iinc (v := (x2 + (-8))) (lv' := [(2, .int (x2 + (-8))), (0, .ref (a 0)), (1, .int x1)]) hx hb dX11_writes_109 hl (k := 2) rfl rfl (by decide) rfl (fun ls hl => ?_)
      refine lv_goto (tgt := 89) hx hb dX11_writes_112 (by decide) ?_
      exact ih _ _ _ h _ _ _ hP hD hS (lv_sub hl [1, 2, 0] rfl)

set_option maxRecDepth 100000 in
set_option maxHeartbeats 4000000 in
theorem b_X11_writes_155 {p : Program} {l : Launch} {e : Env} {s : State} {m : MethodId} {args : Array Value} {below : List Frame} {meth : Method} {c : Code} {dC : Nat → ClassId} {dI : Nat → Nat → Nat} {a : Nat → Nat} {k : Nat → ClassId} {A : Nat → Prop} {q : ST} (hC : CxB p s m args meth c dC dI k A cX11_writes RX11 none 3) {nn : Nat} {r_X11_writes : Int32 → ST → Option (ST)} (hr_X11_writes : ∀ {sz : Nat} {p0 : Int32} {σ : ST} {q : ST}, r_X11_writes  p0 σ = some q → Met l yX11_writes (.code yX11_writes cX11_writes 3 none :: pw) ({ frames := 3 + nn, cells := 0, slots := 0, locals := 70 + 22 * nn } : Room) (va_Pc [.ref (a 0), .int p0] (vPre dC dI (wB a k σ) (tB k) sz)) (qBv dC dI a k (va_A (wB a k σ) sz) q) 0 0 (va_A (wB a k σ) sz))  : ∀ (n : Nat) (x2 : Int32) (σ : ST), f_X11_writes_155 r_X11_writes n x2 σ = some q → GoB p l e ({ frames := 3 + (nn + 1), cells := 0, slots := 0, locals := 70 + 22 * (nn + 1) } : Room) s m args below meth c (MQ below (qBv dC dI a k A q) args s 0 0 A) dC dI a k A 3 155 σ [(0, .ref (a 0)), (2, .int x2)] [] := by
  intro n
  induction n with
  | zero =>
    intro x2 σ h
    rw [f_X11_writes_155] at h
    cases h
  | succ n ih =>
    intro x2 σ h
    have hC0 := hC
    obtain ⟨hx, hb, hr, hml, hown, hts, hlocks, hA, hN, hK⟩ := hC0
    intro H locs ls hP hD hS hl
    have hD0 : ∀ σ1 : ST, va_D A (wB a k σ1) := fun σ1 => wB_D hD
    rw [f_X11_writes_155] at h
    refine lv_iload_n hx hb dX11_writes_155 rfl (lv_at hl 1 rfl) ?_
    refine lv_if_lt (tgt := 181) hx hb dX11_writes_156 (by decide) (fun hc => ?_) (fun hc => ?_)
    · replace h := ip hc h
      obtain rfl := Option.some.inj h
      exact W.vret hx hb hr (fun t ht hW => ⟨⟨(), rfl, trivial, ⟨by rw [ht]; exact hP, va_K.moved hW.alike hK, hD⟩⟩, hS.F ht⟩) hS.2.2 dX11_writes_181
    · replace h := iq hc h
      refine lv_aload_n hx hb dX11_writes_159 rfl (lv_at hl 0 rfl) ?_
      refine va_get (D := (dC, dI)) (ci := 11) (C := RX11) (T := TX11) (N := 95) hx hb hts inlX11 hown hK hP 0 gB_0 rfl 49 (by decide) (hts (.fieldLink RX11 451 "ShapeReaderModel" "isTooLong" "Z") mw_34_27) (fun _ h9 => h9) rfl dX11_writes_160 ?_
      refine lv_if_ne (tgt := 181) hx hb dX11_writes_163 (by decide) (fun hc => ?_) (fun hc => ?_)
      · replace h := iq hc h
        obtain rfl := Option.some.inj h
        exact W.vret hx hb hr (fun t ht hW => ⟨⟨(), rfl, trivial, ⟨by rw [ht]; exact hP, va_K.moved hW.alike hK, hD⟩⟩, hS.F ht⟩) hS.2.2 dX11_writes_181
      · replace h := ip hc h
        refine lv_aload_n hx hb dX11_writes_166 rfl (lv_at hl 0 rfl) ?_
        refine lv_iload_n hx hb dX11_writes_167 rfl (lv_at hl 1 rfl) ?_
        obtain ⟨q1, hc, h⟩ := ib h
        have hF := va_frees hD hS hA
        refine va_callv (va_runV (As := [.int x2]) (rest := []) ⟨hx, hb, hml, hown, hts⟩ (hr_X11_writes hc) (cwV 1 hts (gV mw_35_11 mw_35_12 mw_35_13 mw_0_15 mw_55_25) rfl rfl rfl (by decide +kernel) ⟨by show (3 + nn) + 1 ≤ 3 + (nn + 1); omega, by show 8 + (3 + 11) + (70 + 22 * nn) ≤ 70 + 22 * (nn + 1); omega⟩) (vV (ci := 11) (q0 := 0) hK hP hD hN rfl gB_0) rfl rfl hl.1 rfl (lv_room (Nat.le_of_ble_eq_true rfl)) dX11_writes_168 ⟨(Nat.le_of_ble_eq_true rfl), (Nat.le_of_ble_eq_true rfl)⟩) hS (fun q _ h => hF q h) hF (fun u t H locs ht hvm hw hB _ _ hS => ?_)
        replace hP : va_P (dC, dI) vwCl (wB a k q1) H := by rw [← ht]; exact hB.1
        replace hD := hD0 (q1)
        clear hB hF
        refine lv_aload_n hx hb dX11_writes_171 rfl (lv_at hl 0 rfl) ?_
        refine va_get (D := (dC, dI)) (ci := 11) (C := RX11) (T := TX11) (N := 95) hx hb hts inlX11 hown hK hP 0 gB_0 rfl 45 (by decide) (hts (.fieldLink RX11 100 "ShapeReaderModel" "nodeNext" "[I") mw_27_26) (fun _ h9 => h9) rfl dX11_writes_172 ?_
        refine lv_iload_n hx hb dX11_writes_175 rfl (lv_at hl 1 rfl) ?_
        obtain ⟨hg3, h⟩ := ig h
        refine va_iald hx hb hK hP 30 29 gB_30 yB_30 (vp_in_iff.mpr hg3) dX11_writes_176 ?_
        refine lv_istore_n (lv' := [(2, .int (q1.1 30 x2.toNatClampNeg)), (0, .ref (a 0))]) hx hb dX11_writes_177 rfl hl (by decide) rfl (fun ls hl => ?_)
        refine lv_goto (tgt := 155) hx hb dX11_writes_178 (by decide) ?_
        exact ih _ _ h _ _ _ hP hD hS (lv_sub hl [1, 0] rfl)

set_option maxRecDepth 100000 in
set_option maxHeartbeats 4000000 in
theorem b_X11_writes_148 {p : Program} {l : Launch} {e : Env} {s : State} {m : MethodId} {args : Array Value} {below : List Frame} {meth : Method} {c : Code} {dC : Nat → ClassId} {dI : Nat → Nat → Nat} {a : Nat → Nat} {k : Nat → ClassId} {A : Nat → Prop} {q : ST} (hC : CxB p s m args meth c dC dI k A cX11_writes RX11 none 3) {nn : Nat} {r_X11_writes : Int32 → ST → Option (ST)} (hr_X11_writes : ∀ {sz : Nat} {p0 : Int32} {σ : ST} {q : ST}, r_X11_writes  p0 σ = some q → Met l yX11_writes (.code yX11_writes cX11_writes 3 none :: pw) ({ frames := 3 + nn, cells := 0, slots := 0, locals := 70 + 22 * nn } : Room) (va_Pc [.ref (a 0), .int p0] (vPre dC dI (wB a k σ) (tB k) sz)) (qBv dC dI a k (va_A (wB a k σ) sz) q) 0 0 (va_A (wB a k σ) sz))  {x1 : Int32} {σ : ST} (h : f_X11_writes_148 r_X11_writes x1 σ = some q) : GoB p l e ({ frames := 3 + (nn + 1), cells := 0, slots := 0, locals := 70 + 22 * (nn + 1) } : Room) s m args below meth c (MQ below (qBv dC dI a k A q) args s 0 0 A) dC dI a k A 3 148 σ [(0, .ref (a 0)), (1, .int x1)] [] := by
  have hC0 := hC
  obtain ⟨hx, hb, hr, hml, hown, hts, hlocks, hA, hN, hK⟩ := hC0
  intro H locs ls hP hD hS hl
  have hD0 : ∀ σ1 : ST, va_D A (wB a k σ1) := fun σ1 => wB_D hD
  unfold f_X11_writes_148 at h
  refine lv_aload_n hx hb dX11_writes_148 rfl (lv_at hl 0 rfl) ?_
  refine va_get (D := (dC, dI)) (ci := 11) (C := RX11) (T := TX11) (N := 95) hx hb hts inlX11 hown hK hP 0 gB_0 rfl 43 (by decide) (hts (.fieldLink RX11 94 "ShapeReaderModel" "nodeFirst" "[I") mw_27_24) (fun _ h9 => h9) rfl dX11_writes_149 ?_
  refine lv_iload_n hx hb dX11_writes_152 rfl (lv_at hl 1 rfl) ?_
  obtain ⟨hg1, h⟩ := ig h
  refine va_iald hx hb hK hP 28 27 gB_28 yB_28 (vp_in_iff.mpr hg1) dX11_writes_153 ?_
  refine lv_istore_n (lv' := [(2, .int (σ.1 28 x1.toNatClampNeg)), (0, .ref (a 0)), (1, .int x1)]) hx hb dX11_writes_154 rfl hl (by decide) rfl (fun ls hl => ?_)
  exact b_X11_writes_155 hC hr_X11_writes FU _ _ h _ _ _ hP hD hS (lv_sub hl [1, 0] rfl)

set_option maxRecDepth 100000 in
set_option maxHeartbeats 4000000 in
theorem b_X11_writes_20 {p : Program} {l : Launch} {e : Env} {s : State} {m : MethodId} {args : Array Value} {below : List Frame} {meth : Method} {c : Code} {dC : Nat → ClassId} {dI : Nat → Nat → Nat} {a : Nat → Nat} {k : Nat → ClassId} {A : Nat → Prop} {q : ST} (hC : CxB p s m args meth c dC dI k A cX11_writes RX11 none 3) {nn : Nat} {r_X11_writes : Int32 → ST → Option (ST)} (hr_X11_writes : ∀ {sz : Nat} {p0 : Int32} {σ : ST} {q : ST}, r_X11_writes  p0 σ = some q → Met l yX11_writes (.code yX11_writes cX11_writes 3 none :: pw) ({ frames := 3 + nn, cells := 0, slots := 0, locals := 70 + 22 * nn } : Room) (va_Pc [.ref (a 0), .int p0] (vPre dC dI (wB a k σ) (tB k) sz)) (qBv dC dI a k (va_A (wB a k σ) sz) q) 0 0 (va_A (wB a k σ) sz))  {x1 : Int32} {σ : ST} (h : f_X11_writes_20 r_X11_writes x1 σ = some q) : GoB p l e ({ frames := 3 + (nn + 1), cells := 0, slots := 0, locals := 70 + 22 * (nn + 1) } : Room) s m args below meth c (MQ below (qBv dC dI a k A q) args s 0 0 A) dC dI a k A 3 20 σ [(0, .ref (a 0)), (1, .int x1)] [] := by
  have hC0 := hC
  obtain ⟨hx, hb, hr, hml, hown, hts, hlocks, hA, hN, hK⟩ := hC0
  intro H locs ls hP hD hS hl
  have hD0 : ∀ σ1 : ST, va_D A (wB a k σ1) := fun σ1 => wB_D hD
  unfold f_X11_writes_20 at h
  refine lv_aload_n hx hb dX11_writes_20 rfl (lv_at hl 0 rfl) ?_
  refine va_get (D := (dC, dI)) (ci := 11) (C := RX11) (T := TX11) (N := 95) hx hb hts inlX11 hown hK hP 0 gB_0 rfl 35 (by decide) (hts (.fieldLink RX11 70 "ShapeReaderModel" "nodeSort" "[I") mw_27_16) (fun _ h9 => h9) rfl dX11_writes_21 ?_
  refine lv_iload_n hx hb dX11_writes_24 rfl (lv_at hl 1 rfl) ?_
  obtain ⟨hg1, h⟩ := ig h
  refine va_iald hx hb hK hP 20 19 gB_20 yB_20 (vp_in_iff.mpr hg1) dX11_writes_25 ?_
  rcases (il_sw5 (σ.1 20 x1.toNatClampNeg) (1) (2) (3) (4) (5)) with s2 | s3 | s4 | s5 | s6 | ⟨s2, s3, s4, s5, s6⟩
  · replace h := ip s2 h
    refine lv_tableIn (off := 34) (tgt := 60) hx hb dX11_writes_26 (by rw [s2]; decide) (by rw [s2]; decide) (by rw [s2]; rfl) (by decide) ?_
    refine lv_aload_n hx hb dX11_writes_60 rfl (lv_at hl 0 rfl) ?_
    refine lv_aload_n hx hb dX11_writes_61 rfl (lv_at hl 0 rfl) ?_
    refine va_get (D := (dC, dI)) (ci := 11) (C := RX11) (T := TX11) (N := 95) hx hb hts inlX11 hown hK hP 0 gB_0 rfl 36 (by decide) (hts (.fieldLink RX11 73 "ShapeReaderModel" "nodeBits" "[J") mw_27_17) (fun _ h9 => h9) rfl dX11_writes_62 ?_
    refine lv_iload_n hx hb dX11_writes_65 rfl (lv_at hl 1 rfl) ?_
    refine va_lald hx hb hK hP 21 20 gB_21 yB_21 (vp_in_iff.mpr hg1) dX11_writes_66 ?_
    obtain ⟨q7, hc, h⟩ := ib h
    have hF := va_frees hD hS hA
    refine va_callv (va_runV (As := [.long (σ.2.1 21 x1.toNatClampNeg)]) (rest := []) ⟨hx, hb, hml, hown, hts⟩ (s_X11_writesByte hc) (cwV 1 hts (gV mw_35_1 mw_35_2 mw_35_3 mw_0_15 mw_55_22) rfl rfl rfl (by decide +kernel) ⟨by show 0 + 1 ≤ 3 + (nn + 1); omega, by show 8 + (3 + 11) + 0 ≤ 70 + 22 * (nn + 1); omega⟩) (vV (ci := 11) (q0 := 0) hK hP hD hN rfl gB_0) rfl rfl hl.1 rfl (lv_room (Nat.le_of_ble_eq_true rfl)) dX11_writes_67 ⟨(Nat.le_of_ble_eq_true rfl), (Nat.le_of_ble_eq_true rfl)⟩) hS (fun q _ h => hF q h) hF (fun u t H locs ht hvm hw hB _ _ hS => ?_)
    replace hP : va_P (dC, dI) vwCl (wB a k q7) H := by rw [← ht]; exact hB.1
    replace hD := hD0 (q7)
    clear hB hF
    refine lv_goto (tgt := 181) hx hb dX11_writes_70 (by decide) ?_
    obtain rfl := Option.some.inj h
    exact W.vret hx hb hr (fun t ht hW => ⟨⟨(), rfl, trivial, ⟨by rw [ht]; exact hP, va_K.moved hW.alike hK, hD⟩⟩, hS.F ht⟩) hS.2.2 dX11_writes_181
  · replace h := ip s3 (iq (by rw [s3]; decide) h)
    refine lv_tableIn (off := 47) (tgt := 73) hx hb dX11_writes_26 (by rw [s3]; decide) (by rw [s3]; decide) (by rw [s3]; rfl) (by decide) ?_
    refine lv_aload_n hx hb dX11_writes_73 rfl (lv_at hl 0 rfl) ?_
    refine lv_aload_n hx hb dX11_writes_74 rfl (lv_at hl 0 rfl) ?_
    refine va_get (D := (dC, dI)) (ci := 11) (C := RX11) (T := TX11) (N := 95) hx hb hts inlX11 hown hK hP 0 gB_0 rfl 36 (by decide) (hts (.fieldLink RX11 73 "ShapeReaderModel" "nodeBits" "[J") mw_27_17) (fun _ h9 => h9) rfl dX11_writes_75 ?_
    refine lv_iload_n hx hb dX11_writes_78 rfl (lv_at hl 1 rfl) ?_
    refine va_lald hx hb hK hP 21 20 gB_21 yB_21 (vp_in_iff.mpr hg1) dX11_writes_79 ?_
    obtain ⟨q9, hc, h⟩ := ib h
    have hF := va_frees hD hS hA
    refine va_callv (va_runV (As := [.long (σ.2.1 21 x1.toNatClampNeg)]) (rest := []) ⟨hx, hb, hml, hown, hts⟩ (s_X11_writesNumber hc) (cwV 1 hts (gV mw_35_4 mw_35_5 mw_35_6 mw_0_15 mw_55_23) rfl rfl rfl (by decide +kernel) ⟨by show 1 + 1 ≤ 3 + (nn + 1); omega, by show 8 + (5 + 11) + 22 ≤ 70 + 22 * (nn + 1); omega⟩) (vV (ci := 11) (q0 := 0) hK hP hD hN rfl gB_0) rfl rfl hl.1 rfl (lv_room (Nat.le_of_ble_eq_true rfl)) dX11_writes_80 ⟨(Nat.le_of_ble_eq_true rfl), (Nat.le_of_ble_eq_true rfl)⟩) hS (fun q _ h => hF q h) hF (fun u t H locs ht hvm hw hB _ _ hS => ?_)
    replace hP : va_P (dC, dI) vwCl (wB a k q9) H := by rw [← ht]; exact hB.1
    replace hD := hD0 (q9)
    clear hB hF
    refine lv_goto (tgt := 181) hx hb dX11_writes_83 (by decide) ?_
    obtain rfl := Option.some.inj h
    exact W.vret hx hb hr (fun t ht hW => ⟨⟨(), rfl, trivial, ⟨by rw [ht]; exact hP, va_K.moved hW.alike hK, hD⟩⟩, hS.F ht⟩) hS.2.2 dX11_writes_181
  · replace h := ip s4 (iq (by rw [s4]; decide) (iq (by rw [s4]; decide) h))
    refine lv_tableIn (off := 47) (tgt := 73) hx hb dX11_writes_26 (by rw [s4]; decide) (by rw [s4]; decide) (by rw [s4]; rfl) (by decide) ?_
    refine lv_aload_n hx hb dX11_writes_73 rfl (lv_at hl 0 rfl) ?_
    refine lv_aload_n hx hb dX11_writes_74 rfl (lv_at hl 0 rfl) ?_
    refine va_get (D := (dC, dI)) (ci := 11) (C := RX11) (T := TX11) (N := 95) hx hb hts inlX11 hown hK hP 0 gB_0 rfl 36 (by decide) (hts (.fieldLink RX11 73 "ShapeReaderModel" "nodeBits" "[J") mw_27_17) (fun _ h9 => h9) rfl dX11_writes_75 ?_
    refine lv_iload_n hx hb dX11_writes_78 rfl (lv_at hl 1 rfl) ?_
    refine va_lald hx hb hK hP 21 20 gB_21 yB_21 (vp_in_iff.mpr hg1) dX11_writes_79 ?_
    obtain ⟨q11, hc, h⟩ := ib h
    have hF := va_frees hD hS hA
    refine va_callv (va_runV (As := [.long (σ.2.1 21 x1.toNatClampNeg)]) (rest := []) ⟨hx, hb, hml, hown, hts⟩ (s_X11_writesNumber hc) (cwV 1 hts (gV mw_35_4 mw_35_5 mw_35_6 mw_0_15 mw_55_23) rfl rfl rfl (by decide +kernel) ⟨by show 1 + 1 ≤ 3 + (nn + 1); omega, by show 8 + (5 + 11) + 22 ≤ 70 + 22 * (nn + 1); omega⟩) (vV (ci := 11) (q0 := 0) hK hP hD hN rfl gB_0) rfl rfl hl.1 rfl (lv_room (Nat.le_of_ble_eq_true rfl)) dX11_writes_80 ⟨(Nat.le_of_ble_eq_true rfl), (Nat.le_of_ble_eq_true rfl)⟩) hS (fun q _ h => hF q h) hF (fun u t H locs ht hvm hw hB _ _ hS => ?_)
    replace hP : va_P (dC, dI) vwCl (wB a k q11) H := by rw [← ht]; exact hB.1
    replace hD := hD0 (q11)
    clear hB hF
    refine lv_goto (tgt := 181) hx hb dX11_writes_83 (by decide) ?_
    obtain rfl := Option.some.inj h
    exact W.vret hx hb hr (fun t ht hW => ⟨⟨(), rfl, trivial, ⟨by rw [ht]; exact hP, va_K.moved hW.alike hK, hD⟩⟩, hS.F ht⟩) hS.2.2 dX11_writes_181
  · replace h := ip s5 (iq (by rw [s5]; decide) (iq (by rw [s5]; decide) (iq (by rw [s5]; decide) h)))
    refine lv_tableIn (off := 60) (tgt := 86) hx hb dX11_writes_26 (by rw [s5]; decide) (by rw [s5]; decide) (by rw [s5]; rfl) (by decide) ?_
    refine lv_bipush (v := 56) hx hb dX11_writes_86 (by decide) ?_
    refine lv_istore_n (lv' := [(2, .int 56), (0, .ref (a 0)), (1, .int x1)]) hx hb dX11_writes_88 rfl hl (by decide) rfl (fun ls hl => ?_)
    exact b_X11_writes_89 hC hr_X11_writes FU _ _ _ h _ _ _ hP hD hS (lv_sub hl [1, 2, 0] rfl)
  · replace h := ip s6 (iq (by rw [s6]; decide) (iq (by rw [s6]; decide) (iq (by rw [s6]; decide) (iq (by rw [s6]; decide) h))))
    refine lv_tableIn (off := 92) (tgt := 118) hx hb dX11_writes_26 (by rw [s6]; decide) (by rw [s6]; decide) (by rw [s6]; rfl) (by decide) ?_
    refine lv_aload_n hx hb dX11_writes_118 rfl (lv_at hl 0 rfl) ?_
    refine lv_iload_n hx hb dX11_writes_119 rfl (lv_at hl 1 rfl) ?_
    obtain ⟨q13, hc, h⟩ := ib h
    have hF := va_frees hD hS hA
    refine va_callv (va_runV (As := [.int x1]) (rest := []) ⟨hx, hb, hml, hown, hts⟩ (s_X11_writesText hc) (cwV 1 hts (gV mw_35_8 mw_35_9 mw_35_10 mw_0_15 mw_55_24) rfl rfl rfl (by decide +kernel) ⟨by show 2 + 1 ≤ 3 + (nn + 1); omega, by show 8 + (5 + 11) + 46 ≤ 70 + 22 * (nn + 1); omega⟩) (vV (ci := 11) (q0 := 0) hK hP hD hN rfl gB_0) rfl rfl hl.1 rfl (lv_room (Nat.le_of_ble_eq_true rfl)) dX11_writes_120 ⟨(Nat.le_of_ble_eq_true rfl), (Nat.le_of_ble_eq_true rfl)⟩) hS (fun q _ h => hF q h) hF (fun u t H locs ht hvm hw hB _ _ hS => ?_)
    replace hP : va_P (dC, dI) vwCl (wB a k q13) H := by rw [← ht]; exact hB.1
    replace hD := hD0 (q13)
    clear hB hF
    refine lv_goto (tgt := 181) hx hb dX11_writes_123 (by decide) ?_
    obtain rfl := Option.some.inj h
    exact W.vret hx hb hr (fun t ht hW => ⟨⟨(), rfl, trivial, ⟨by rw [ht]; exact hP, va_K.moved hW.alike hK, hD⟩⟩, hS.F ht⟩) hS.2.2 dX11_writes_181
  · replace h := (iq s6 (iq s5 (iq s4 (iq s3 (iq s2 h)))))
    refine lv_tableOut (tgt := 126) hx hb dX11_writes_26 (by have a0 := il_ne s2; have e0 : (1 : Int32).toInt = 1 := (by decide); have a1 := il_ne s3; have e1 : (2 : Int32).toInt = 2 := (by decide); have a2 := il_ne s4; have e2 : (3 : Int32).toInt = 3 := (by decide); have a3 := il_ne s5; have e3 : (4 : Int32).toInt = 4 := (by decide); have a4 := il_ne s6; have e4 : (5 : Int32).toInt = 5 := (by decide); omega) (by decide) ?_
    refine lv_aload_n hx hb dX11_writes_126 rfl (lv_at hl 0 rfl) ?_
    refine va_get (D := (dC, dI)) (ci := 11) (C := RX11) (T := TX11) (N := 95) hx hb hts inlX11 hown hK hP 0 gB_0 rfl 35 (by decide) (hts (.fieldLink RX11 70 "ShapeReaderModel" "nodeSort" "[I") mw_27_16) (fun _ h9 => h9) rfl dX11_writes_127 ?_
    refine lv_iload_n hx hb dX11_writes_130 rfl (lv_at hl 1 rfl) ?_
    refine va_iald hx hb hK hP 20 19 gB_20 yB_20 (vp_in_iff.mpr hg1) dX11_writes_131 ?_
    refine lv_bipush (v := 6) hx hb dX11_writes_132 (by decide) ?_
    refine lv_icmp_ne (tgt := 148) hx hb dX11_writes_134 (by decide) (fun hc => ?_) (fun hc => ?_)
    · replace h := iq hc h
      exact b_X11_writes_148 hC hr_X11_writes h _ _ _ hP hD hS (lv_sub hl [0, 1] rfl)
    · replace h := ip hc h
      refine lv_aload_n hx hb dX11_writes_137 rfl (lv_at hl 0 rfl) ?_
      refine lv_aload_n hx hb dX11_writes_138 rfl (lv_at hl 0 rfl) ?_
      refine va_get (D := (dC, dI)) (ci := 11) (C := RX11) (T := TX11) (N := 95) hx hb hts inlX11 hown hK hP 0 gB_0 rfl 38 (by decide) (hts (.fieldLink RX11 79 "ShapeReaderModel" "nodeHas" "[I") mw_27_19) (fun _ h9 => h9) rfl dX11_writes_139 ?_
      refine lv_iload_n hx hb dX11_writes_142 rfl (lv_at hl 1 rfl) ?_
      refine va_iald hx hb hK hP 23 22 gB_23 yB_23 (vp_in_iff.mpr hg1) dX11_writes_143 ?_
      refine lv_i2l (v := (σ.1 23 x1.toNatClampNeg).toInt64) hx hb dX11_writes_144 rfl ?_
      obtain ⟨q15, hc, h⟩ := ib h
      have hF := va_frees hD hS hA
      refine va_callv (va_runV (As := [.long ((σ.1 23 x1.toNatClampNeg).toInt64)]) (rest := []) ⟨hx, hb, hml, hown, hts⟩ (s_X11_writesNumber hc) (cwV 1 hts (gV mw_35_4 mw_35_5 mw_35_6 mw_0_15 mw_55_23) rfl rfl rfl (by decide +kernel) ⟨by show 1 + 1 ≤ 3 + (nn + 1); omega, by show 8 + (5 + 11) + 22 ≤ 70 + 22 * (nn + 1); omega⟩) (vV (ci := 11) (q0 := 0) hK hP hD hN rfl gB_0) rfl rfl hl.1 rfl (lv_room (Nat.le_of_ble_eq_true rfl)) dX11_writes_145 ⟨(Nat.le_of_ble_eq_true rfl), (Nat.le_of_ble_eq_true rfl)⟩) hS (fun q _ h => hF q h) hF (fun u t H locs ht hvm hw hB _ _ hS => ?_)
      replace hP : va_P (dC, dI) vwCl (wB a k q15) H := by rw [← ht]; exact hB.1
      replace hD := hD0 (q15)
      clear hB hF
      exact b_X11_writes_148 hC hr_X11_writes h _ _ _ hP hD hS (lv_sub hl [0, 1] rfl)

set_option maxRecDepth 100000 in
set_option maxHeartbeats 4000000 in
theorem b_X11_writes_e {p : Program} {l : Launch} {e : Env} {s : State} {m : MethodId} {args : Array Value} {below : List Frame} {meth : Method} {c : Code} {dC : Nat → ClassId} {dI : Nat → Nat → Nat} {a : Nat → Nat} {k : Nat → ClassId} {A : Nat → Prop} {q : ST} (hC : CxB p s m args meth c dC dI k A cX11_writes RX11 none 3) {nn : Nat} {r_X11_writes : Int32 → ST → Option (ST)} (hr_X11_writes : ∀ {sz : Nat} {p0 : Int32} {σ : ST} {q : ST}, r_X11_writes  p0 σ = some q → Met l yX11_writes (.code yX11_writes cX11_writes 3 none :: pw) ({ frames := 3 + nn, cells := 0, slots := 0, locals := 70 + 22 * nn } : Room) (va_Pc [.ref (a 0), .int p0] (vPre dC dI (wB a k σ) (tB k) sz)) (qBv dC dI a k (va_A (wB a k σ) sz) q) 0 0 (va_A (wB a k σ) sz))  {p0 : Int32} {σ : ST} (h : f_X11_writes r_X11_writes p0 σ = some q) : GoB p l e ({ frames := 3 + (nn + 1), cells := 0, slots := 0, locals := 70 + 22 * (nn + 1) } : Room) s m args below meth c (MQ below (qBv dC dI a k A q) args s 0 0 A) dC dI a k A 3 0 σ (lv_args 0 [.ref (a 0), .int p0]) [] := by
  have hC0 := hC
  obtain ⟨hx, hb, hr, hml, hown, hts, hlocks, hA, hN, hK⟩ := hC0
  intro H locs ls hP hD hS hl
  have hD0 : ∀ σ1 : ST, va_D A (wB a k σ1) := fun σ1 => wB_D hD
  replace hl : lv_has ls 3 [(0, .ref (a 0)), (1, .int p0)] := hl
  unfold f_X11_writes at h
  refine lv_aload_n hx hb dX11_writes_0 rfl (lv_at hl 0 rfl) ?_
  refine va_get (D := (dC, dI)) (ci := 11) (C := RX11) (T := TX11) (N := 95) hx hb hts inlX11 hown hK hP 0 gB_0 rfl 41 (by decide) (hts (.fieldLink RX11 88 "ShapeReaderModel" "nodeBranch" "[I") mw_27_22) (fun _ h9 => h9) rfl dX11_writes_1 ?_
  refine lv_iload_n hx hb dX11_writes_4 rfl (lv_at hl 1 rfl) ?_
  obtain ⟨hg1, h⟩ := ig h
  refine va_iald hx hb hK hP 26 25 gB_26 yB_26 (vp_in_iff.mpr hg1) dX11_writes_5 ?_
  refine lv_if_lt (tgt := 20) hx hb dX11_writes_6 (by decide) (fun hc => ?_) (fun hc => ?_)
  · replace h := ip hc h
    exact b_X11_writes_20 hC hr_X11_writes h _ _ _ hP hD hS (lv_sub hl [0, 1] rfl)
  · replace h := iq hc h
    refine lv_aload_n hx hb dX11_writes_9 rfl (lv_at hl 0 rfl) ?_
    refine lv_aload_n hx hb dX11_writes_10 rfl (lv_at hl 0 rfl) ?_
    refine va_get (D := (dC, dI)) (ci := 11) (C := RX11) (T := TX11) (N := 95) hx hb hts inlX11 hown hK hP 0 gB_0 rfl 41 (by decide) (hts (.fieldLink RX11 88 "ShapeReaderModel" "nodeBranch" "[I") mw_27_22) (fun _ h9 => h9) rfl dX11_writes_11 ?_
    refine lv_iload_n hx hb dX11_writes_14 rfl (lv_at hl 1 rfl) ?_
    refine va_iald hx hb hK hP 26 25 gB_26 yB_26 (vp_in_iff.mpr hg1) dX11_writes_15 ?_
    refine lv_i2l (v := (σ.1 26 p0.toNatClampNeg).toInt64) hx hb dX11_writes_16 rfl ?_
    obtain ⟨q2, hc, h⟩ := ib h
    have hF := va_frees hD hS hA
    refine va_callv (va_runV (As := [.long ((σ.1 26 p0.toNatClampNeg).toInt64)]) (rest := []) ⟨hx, hb, hml, hown, hts⟩ (s_X11_writesNumber hc) (cwV 1 hts (gV mw_35_4 mw_35_5 mw_35_6 mw_0_15 mw_55_23) rfl rfl rfl (by decide +kernel) ⟨by show 1 + 1 ≤ 3 + (nn + 1); omega, by show 8 + (5 + 11) + 22 ≤ 70 + 22 * (nn + 1); omega⟩) (vV (ci := 11) (q0 := 0) hK hP hD hN rfl gB_0) rfl rfl hl.1 rfl (lv_room (Nat.le_of_ble_eq_true rfl)) dX11_writes_17 ⟨(Nat.le_of_ble_eq_true rfl), (Nat.le_of_ble_eq_true rfl)⟩) hS (fun q _ h => hF q h) hF (fun u t H locs ht hvm hw hB _ _ hS => ?_)
    replace hP : va_P (dC, dI) vwCl (wB a k q2) H := by rw [← ht]; exact hB.1
    replace hD := hD0 (q2)
    clear hB hF
    exact b_X11_writes_20 hC hr_X11_writes h _ _ _ hP hD hS (lv_sub hl [0, 1] rfl)


set_option maxRecDepth 100000 in
set_option maxHeartbeats 4000000 in
theorem s_R_X11_writes {l : Launch} {dC : Nat → ClassId} {dI : Nat → Nat → Nat} {a : Nat → Nat} {k : Nat → ClassId} : ∀ n : Nat, (∀ {sz : Nat} {p0 : Int32} {σ : ST} {q : ST}, (R_X11_writes n) p0 σ = some q → Met l yX11_writes (.code yX11_writes cX11_writes 3 none :: pw) ({ frames := 3 + n, cells := 0, slots := 0, locals := 70 + 22 * n } : Room) (va_Pc [.ref (a 0), .int p0] (vPre dC dI (wB a k σ) (tB k) sz)) (qBv dC dI a k (va_A (wB a k σ) sz) q) 0 0 (va_A (wB a k σ) sz)) := by
  intro n
  induction n with
  | zero => exact (fun h => nomatch h)
  | succ n ih => exact (fun h => metB (fun A => qBv dC dI a k A _) (plainFor_of_name (by decide)) (Nat.le_of_ble_eq_true rfl) (fun _ _ _ _ _ _ _ _ hC => b_X11_writes_e hC ih h))
theorem s_X11_writes {l : Launch} {dC : Nat → ClassId} {dI : Nat → Nat → Nat} {a : Nat → Nat} {k : Nat → ClassId} {sz : Nat} {p0 : Int32} {σ : ST} {q : ST} (h : f_T_X11_writes p0 σ = some q) : Met l yX11_writes (.code yX11_writes cX11_writes 3 none :: pw) ({ frames := 343, cells := 0, slots := 0, locals := 7550 } : Room) (va_Pc [.ref (a 0), .int p0] (vPre dC dI (wB a k σ) (tB k) sz)) (qBv dC dI a k (va_A (wB a k σ) sz) q) 0 0 (va_A (wB a k σ) sz) := (s_R_X11_writes FRB) h

def f_X11_writesTree (p0 : Int32) (σ : ST) : Option (ST) := (f_T_X11_writes  p0 (stI (stI σ 0 48 0) 0 49 0)).bind fun q1 => some q1

set_option maxRecDepth 100000 in
set_option maxHeartbeats 4000000 in
theorem b_X11_writesTree_e {p : Program} {l : Launch} {e : Env} {s : State} {m : MethodId} {args : Array Value} {below : List Frame} {meth : Method} {c : Code} {dC : Nat → ClassId} {dI : Nat → Nat → Nat} {a : Nat → Nat} {k : Nat → ClassId} {A : Nat → Prop} {q : ST} (hC : CxB p s m args meth c dC dI k A cX11_writesTree RX11 none 2)   {p0 : Int32} {σ : ST} (h : f_X11_writesTree  p0 σ = some q) : GoB p l e ({ frames := 344, cells := 0, slots := 0, locals := 7572 } : Room) s m args below meth c (MQ below (qBv dC dI a k A q) args s 0 0 A) dC dI a k A 2 0 σ (lv_args 0 [.ref (a 0), .int p0]) [] := by
  have hC0 := hC
  obtain ⟨hx, hb, hr, hml, hown, hts, hlocks, hA, hN, hK⟩ := hC0
  intro H locs ls hP hD hS hl
  have hD0 : ∀ σ1 : ST, va_D A (wB a k σ1) := fun σ1 => wB_D hD
  replace hl : lv_has ls 2 [(0, .ref (a 0)), (1, .int p0)] := hl
  unfold f_X11_writesTree at h
  refine lv_aload_n hx hb dX11_writesTree_0 rfl (lv_at hl 0 rfl) ?_
  refine lv_iconst (v := 0) hx hb dX11_writesTree_1 (by decide) ?_
  refine va_put (D := (dC, dI)) (ci := 11) (ty := .int) (C := RX11) (T := TX11) (N := 95) hx hb hts inlX11 tyX11 tyX11_ok nmX11 hown hK hP hD hS 0 gB_0 rfl 48 (by decide) (hts (.fieldLink RX11 448 "ShapeReaderModel" "writtenMany" "I") mw_34_26) (fun _ h9 => h9) rfl (by decide +kernel) rfl rfl (Nat.le_of_ble_eq_true rfl) dX11_writesTree_2 (fun H locs hP hD hS => ?_)
  replace hP := uB_0_48 hP
  replace hD := hD0 ((stI σ 0 48 0))
  refine lv_aload_n hx hb dX11_writesTree_5 rfl (lv_at hl 0 rfl) ?_
  refine lv_iconst (v := 0) hx hb dX11_writesTree_6 (by decide) ?_
  refine va_put (D := (dC, dI)) (ci := 11) (ty := .boolean) (C := RX11) (T := TX11) (N := 95) hx hb hts inlX11 tyX11 tyX11_ok nmX11 hown hK hP hD hS 0 gB_0 rfl 49 (by decide) (hts (.fieldLink RX11 451 "ShapeReaderModel" "isTooLong" "Z") mw_34_27) (fun _ h9 => h9) rfl (by decide +kernel) rfl rfl (Nat.le_of_ble_eq_true rfl) dX11_writesTree_7 (fun H locs hP hD hS => ?_)
  replace hP := uB_0_49 hP
  replace hD := hD0 ((stI (stI σ 0 48 0) 0 49 0))
  refine lv_aload_n hx hb dX11_writesTree_10 rfl (lv_at hl 0 rfl) ?_
  refine lv_iload_n hx hb dX11_writesTree_11 rfl (lv_at hl 1 rfl) ?_
  obtain ⟨q1, hc, h⟩ := ib h
  have hF := va_frees hD hS hA
  refine va_callv (va_runV (As := [.int p0]) (rest := []) ⟨hx, hb, hml, hown, hts⟩ (s_X11_writes hc) (cwV 1 hts (gV mw_35_11 mw_35_12 mw_35_13 mw_0_15 mw_55_25) rfl rfl rfl (by decide +kernel) ⟨(Nat.le_of_ble_eq_true rfl), (Nat.le_of_ble_eq_true rfl)⟩) (vV (ci := 11) (q0 := 0) hK hP hD hN rfl gB_0) rfl rfl hl.1 rfl (lv_room (Nat.le_of_ble_eq_true rfl)) dX11_writesTree_12 ⟨(Nat.le_of_ble_eq_true rfl), (Nat.le_of_ble_eq_true rfl)⟩) hS (fun q _ h => hF q h) hF (fun u t H locs ht hvm hw hB _ _ hS => ?_)
  replace hP : va_P (dC, dI) vwCl (wB a k q1) H := by rw [← ht]; exact hB.1
  replace hD := hD0 (q1)
  clear hB hF
  obtain rfl := Option.some.inj h
  exact W.vret hx hb hr (fun t ht hW => ⟨⟨(), rfl, trivial, ⟨by rw [ht]; exact hP, va_K.moved hW.alike hK, hD⟩⟩, hS.F ht⟩) hS.2.2 dX11_writesTree_15

theorem s_X11_writesTree {l : Launch} {dC : Nat → ClassId} {dI : Nat → Nat → Nat} {a : Nat → Nat} {k : Nat → ClassId} {sz : Nat} {p0 : Int32} {σ : ST} {q : ST} (h : f_X11_writesTree  p0 σ = some q) : Met l yX11_writesTree (.code yX11_writesTree cX11_writesTree 2 none :: pw) ({ frames := 344, cells := 0, slots := 0, locals := 7572 } : Room) (va_Pc [.ref (a 0), .int p0] (vPre dC dI (wB a k σ) (tB k) sz)) (qBv dC dI a k (va_A (wB a k σ) sz) q) 0 0 (va_A (wB a k σ) sz) := metB (fun A => qBv dC dI a k A q) (plainFor_of_name (by decide)) (Nat.le_of_ble_eq_true rfl) (fun _ _ _ _ _ _ _ _ hC => b_X11_writesTree_e hC h)

def f_X11_messageSet_26 (k4 : Int32 → Int32 → ST → Option (Int32 × ST)) (x2 : Int32) (y0 : Int32) (y1 : Int32) (σ : ST) : Option (Int32 × ST) := k4 (y1 ||| y0) (x2 + 1) σ
def f_X11_messageSet_4  : Nat → Int32 → Int32 → ST → Option (Int32 × ST)
  | 0, _, _, _ => none
  | n + 1, x1, x2, σ => if 4 ≤ x2 then (some (x1, σ)) else (if 0 ≤ x2.toInt ∧ x2.toInt < 4 then (if (σ.1 32 x2.toNatClampNeg) < 0 then (f_X11_messageSet_26 (f_X11_messageSet_4  n) x2 0 x1 σ) else (f_X11_messageSet_26 (f_X11_messageSet_4  n) x2 (1 <<< (x2 &&& 31)) x1 σ)) else none)
def f_X11_messageSet (σ : ST) : Option (Int32 × ST) := f_X11_messageSet_4  FU 0 0 σ

set_option maxRecDepth 100000 in
set_option maxHeartbeats 4000000 in
theorem b_X11_messageSet_26 {p : Program} {l : Launch} {e : Env} {s : State} {m : MethodId} {args : Array Value} {below : List Frame} {meth : Method} {c : Code} {dC : Nat → ClassId} {dI : Nat → Nat → Nat} {a : Nat → Nat} {k : Nat → ClassId} {A : Nat → Prop} {q : Int32 × ST} (hC : CxB p s m args meth c dC dI k A cX11_messageSet RX11 (some .int) 3)  {k4 : Int32 → Int32 → ST → Option (Int32 × ST)} (hk4 : ∀ (x1 : Int32) (x2 : Int32) (σ : ST), k4 x1 x2 σ = some q → GoB p l e ({ frames := 0, cells := 0, slots := 0, locals := 0 } : Room) s m args below meth c (MQ below (qBi dC dI a k A q) args s 0 0 A) dC dI a k A 3 4 σ [(0, .ref (a 0)), (1, .int x1), (2, .int x2)] []) {x2 : Int32} {y0 : Int32} {y1 : Int32} {σ : ST} (h : f_X11_messageSet_26 k4 x2 y0 y1 σ = some q) : GoB p l e ({ frames := 0, cells := 0, slots := 0, locals := 0 } : Room) s m args below meth c (MQ below (qBi dC dI a k A q) args s 0 0 A) dC dI a k A 3 26 σ [(0, .ref (a 0)), (2, .int x2)] [.int y0, .int y1] := by
  have hC0 := hC
  obtain ⟨hx, hb, hr, hml, hown, hts, hlocks, hA, hN, hK⟩ := hC0
  intro H locs ls hP hD hS hl
  have hD0 : ∀ σ1 : ST, va_D A (wB a k σ1) := fun σ1 => wB_D hD
  unfold f_X11_messageSet_26 at h
  refine lv_ior hx hb dX11_messageSet_26 ?_
  refine lv_istore_n (lv' := [(1, .int (y1 ||| y0)), (0, .ref (a 0)), (2, .int x2)]) hx hb dX11_messageSet_27 rfl hl (by decide) rfl (fun ls hl => ?_)
  refine lv_iinc (v := (x2 + 1)) (lv' := [(2, .int (x2 + 1)), (1, .int (y1 ||| y0)), (0, .ref (a 0))]) hx hb dX11_messageSet_28 hl (k := 2) rfl rfl (by decide) rfl (fun ls hl => ?_)
  refine lv_goto (tgt := 4) hx hb dX11_messageSet_31 (by decide) ?_
  exact hk4 _ _ _ h _ _ _ hP hD hS (lv_sub hl [2, 1, 0] rfl)

set_option maxRecDepth 100000 in
set_option maxHeartbeats 4000000 in
theorem b_X11_messageSet_4 {p : Program} {l : Launch} {e : Env} {s : State} {m : MethodId} {args : Array Value} {below : List Frame} {meth : Method} {c : Code} {dC : Nat → ClassId} {dI : Nat → Nat → Nat} {a : Nat → Nat} {k : Nat → ClassId} {A : Nat → Prop} {q : Int32 × ST} (hC : CxB p s m args meth c dC dI k A cX11_messageSet RX11 (some .int) 3)   : ∀ (n : Nat) (x1 : Int32) (x2 : Int32) (σ : ST), f_X11_messageSet_4  n x1 x2 σ = some q → GoB p l e ({ frames := 0, cells := 0, slots := 0, locals := 0 } : Room) s m args below meth c (MQ below (qBi dC dI a k A q) args s 0 0 A) dC dI a k A 3 4 σ [(0, .ref (a 0)), (1, .int x1), (2, .int x2)] [] := by
  intro n
  induction n with
  | zero =>
    intro x1 x2 σ h
    rw [f_X11_messageSet_4] at h
    cases h
  | succ n ih =>
    intro x1 x2 σ h
    have hC0 := hC
    obtain ⟨hx, hb, hr, hml, hown, hts, hlocks, hA, hN, hK⟩ := hC0
    intro H locs ls hP hD hS hl
    have hD0 : ∀ σ1 : ST, va_D A (wB a k σ1) := fun σ1 => wB_D hD
    rw [f_X11_messageSet_4] at h
    refine lv_iload_n hx hb dX11_messageSet_4 rfl (lv_at hl 2 rfl) ?_
    refine lv_iconst (v := 4) hx hb dX11_messageSet_5 (by decide) ?_
    refine lv_icmp_ge (tgt := 34) hx hb dX11_messageSet_6 (by decide) (fun hc => ?_) (fun hc => ?_)
    · replace h := ip hc h
      refine lv_iload_n hx hb dX11_messageSet_34 rfl (lv_at hl 1 rfl) ?_
      obtain rfl := Option.some.inj h
      exact W.iret hx hb hr (fun t ht hW => ⟨⟨_, (), rfl, rfl, ⟨by rw [ht]; exact hP, va_K.moved hW.alike hK, hD⟩⟩, hS.F ht⟩) hS.2.2 dX11_messageSet_35
    · replace h := iq hc h
      refine lv_iload_n hx hb dX11_messageSet_9 rfl (lv_at hl 1 rfl) ?_
      refine lv_aload_n hx hb dX11_messageSet_10 rfl (lv_at hl 0 rfl) ?_
      refine va_get (D := (dC, dI)) (ci := 11) (C := RX11) (T := TX11) (N := 95) hx hb hts inlX11 hown hK hP 0 gB_0 rfl 50 (by decide) (hts (.fieldLink RX11 106 "ShapeReaderModel" "messagePlan" "[I") mw_27_28) (fun _ h9 => h9) rfl dX11_messageSet_11 ?_
      refine lv_iload_n hx hb dX11_messageSet_14 rfl (lv_at hl 2 rfl) ?_
      obtain ⟨hg1, h⟩ := ig h
      refine va_iald hx hb hK hP 32 31 gB_32 yB_32 (vp_in_iff.mpr hg1) dX11_messageSet_15 ?_
      refine lv_if_lt (tgt := 25) hx hb dX11_messageSet_16 (by decide) (fun hc => ?_) (fun hc => ?_)
      · replace h := ip hc h
        refine lv_iconst (v := 0) hx hb dX11_messageSet_25 (by decide) ?_
        exact b_X11_messageSet_26 hC ih h _ _ _ hP hD hS (lv_sub hl [0, 2] rfl)
      · replace h := iq hc h
        refine lv_iconst (v := 1) hx hb dX11_messageSet_19 (by decide) ?_
        refine lv_iload_n hx hb dX11_messageSet_20 rfl (lv_at hl 2 rfl) ?_
        refine lv_ishl hx hb dX11_messageSet_21 ?_
        refine lv_goto (tgt := 26) hx hb dX11_messageSet_22 (by decide) ?_
        exact b_X11_messageSet_26 hC ih h _ _ _ hP hD hS (lv_sub hl [0, 2] rfl)

set_option maxRecDepth 100000 in
set_option maxHeartbeats 4000000 in
theorem b_X11_messageSet_e {p : Program} {l : Launch} {e : Env} {s : State} {m : MethodId} {args : Array Value} {below : List Frame} {meth : Method} {c : Code} {dC : Nat → ClassId} {dI : Nat → Nat → Nat} {a : Nat → Nat} {k : Nat → ClassId} {A : Nat → Prop} {q : Int32 × ST} (hC : CxB p s m args meth c dC dI k A cX11_messageSet RX11 (some .int) 3)    {σ : ST} (h : f_X11_messageSet   σ = some q) : GoB p l e ({ frames := 0, cells := 0, slots := 0, locals := 0 } : Room) s m args below meth c (MQ below (qBi dC dI a k A q) args s 0 0 A) dC dI a k A 3 0 σ (lv_args 0 [.ref (a 0)]) [] := by
  have hC0 := hC
  obtain ⟨hx, hb, hr, hml, hown, hts, hlocks, hA, hN, hK⟩ := hC0
  intro H locs ls hP hD hS hl
  have hD0 : ∀ σ1 : ST, va_D A (wB a k σ1) := fun σ1 => wB_D hD
  replace hl : lv_has ls 3 [(0, .ref (a 0))] := hl
  unfold f_X11_messageSet at h
  refine lv_iconst (v := 0) hx hb dX11_messageSet_0 (by decide) ?_
  refine lv_istore_n (lv' := [(1, .int 0), (0, .ref (a 0))]) hx hb dX11_messageSet_1 rfl hl (by decide) rfl (fun ls hl => ?_)
  refine lv_iconst (v := 0) hx hb dX11_messageSet_2 (by decide) ?_
  refine lv_istore_n (lv' := [(2, .int 0), (1, .int 0), (0, .ref (a 0))]) hx hb dX11_messageSet_3 rfl hl (by decide) rfl (fun ls hl => ?_)
  exact b_X11_messageSet_4 hC FU _ _ _ h _ _ _ hP hD hS (lv_sub hl [2, 1, 0] rfl)

theorem s_X11_messageSet {l : Launch} {dC : Nat → ClassId} {dI : Nat → Nat → Nat} {a : Nat → Nat} {k : Nat → ClassId} {sz : Nat}  {σ : ST} {q : Int32 × ST} (h : f_X11_messageSet   σ = some q) : Met l yX11_messageSet (.code yX11_messageSet cX11_messageSet 3 (some .int) :: pw) ({ frames := 0, cells := 0, slots := 0, locals := 0 } : Room) (va_Pc [.ref (a 0)] (vPre dC dI (wB a k σ) (tB k) sz)) (qBi dC dI a k (va_A (wB a k σ) sz) q) 0 0 (va_A (wB a k σ) sz) := metB (fun A => qBi dC dI a k A q) (plainFor_of_name (by decide)) (Nat.le_of_ble_eq_true rfl) (fun _ _ _ _ _ _ _ _ hC => b_X11_messageSet_e hC h)

def f_X11_count (p0 : Int32) (σ : ST) : Option (Int32 × ST) := if p0 = 0 then (some (((stI σ 0 0 0).1 0 32), (stI σ 0 0 0))) else (if p0 = 1 then ((f_X11_messageSet   (stI σ 0 0 0)).bind fun q7 => some (q7.1, q7.2)) else (if p0 = 2 then (some (((stI σ 0 0 0).1 0 73), (stI σ 0 0 0))) else (if p0 = 3 then (some (((stI σ 0 0 0).1 0 93), (stI σ 0 0 0))) else (if p0 = 4 then (some (((stI σ 0 0 0).1 0 94), (stI σ 0 0 0))) else (if p0 = 5 then (some (((stI σ 0 0 0).1 0 2), (stI σ 0 0 0))) else (some ((-1), (stI σ 0 0 0))))))))

set_option maxRecDepth 100000 in
set_option maxHeartbeats 4000000 in
theorem b_X11_count_e {p : Program} {l : Launch} {e : Env} {s : State} {m : MethodId} {args : Array Value} {below : List Frame} {meth : Method} {c : Code} {dC : Nat → ClassId} {dI : Nat → Nat → Nat} {a : Nat → Nat} {k : Nat → ClassId} {A : Nat → Prop} {q : Int32 × ST} (hC : CxB p s m args meth c dC dI k A cX11_count RX11 (some .int) 2)   {p0 : Int32} {σ : ST} (h : f_X11_count  p0 σ = some q) : GoB p l e ({ frames := 1, cells := 0, slots := 0, locals := 22 } : Room) s m args below meth c (MQ below (qBi dC dI a k A q) args s 0 0 A) dC dI a k A 2 0 σ (lv_args 0 [.ref (a 0), .int p0]) [] := by
  have hC0 := hC
  obtain ⟨hx, hb, hr, hml, hown, hts, hlocks, hA, hN, hK⟩ := hC0
  intro H locs ls hP hD hS hl
  have hD0 : ∀ σ1 : ST, va_D A (wB a k σ1) := fun σ1 => wB_D hD
  replace hl : lv_has ls 2 [(0, .ref (a 0)), (1, .int p0)] := hl
  unfold f_X11_count at h
  refine lv_aload_n hx hb dX11_count_0 rfl (lv_at hl 0 rfl) ?_
  refine lv_iconst (v := 0) hx hb dX11_count_1 (by decide) ?_
  refine va_put (D := (dC, dI)) (ci := 11) (ty := .int) (C := RX11) (T := TX11) (N := 95) hx hb hts inlX11 tyX11 tyX11_ok nmX11 hown hK hP hD hS 0 gB_0 rfl 0 (by decide) (hts (.fieldLink RX11 178 "ShapeReaderModel" "thrown" "I") mw_28_22) (fun _ h9 => h9) rfl (by decide +kernel) rfl rfl (Nat.le_of_ble_eq_true rfl) dX11_count_2 (fun H locs hP hD hS => ?_)
  replace hP := uB_0_0 hP
  replace hD := hD0 ((stI σ 0 0 0))
  refine lv_iload_n hx hb dX11_count_5 rfl (lv_at hl 1 rfl) ?_
  rcases (il_sw6 p0 (0) (1) (2) (3) (4) (5)) with s1 | s2 | s3 | s4 | s5 | s6 | ⟨s1, s2, s3, s4, s5, s6⟩
  · replace h := ip s1 h
    refine lv_tableIn (off := 38) (tgt := 44) hx hb dX11_count_6 (by rw [s1]; decide) (by rw [s1]; decide) (by rw [s1]; rfl) (by decide) ?_
    refine lv_aload_n hx hb dX11_count_44 rfl (lv_at hl 0 rfl) ?_
    refine va_get (D := (dC, dI)) (ci := 11) (C := RX11) (T := TX11) (N := 95) hx hb hts inlX11 hown hK hP 0 gB_0 rfl 32 (by decide) (hts (.fieldLink RX11 377 "ShapeReaderModel" "planMany" "I") mw_33_5) (fun _ h9 => h9) rfl dX11_count_45 ?_
    obtain rfl := Option.some.inj h
    exact W.iret hx hb hr (fun t ht hW => ⟨⟨_, (), rfl, rfl, ⟨by rw [ht]; exact hP, va_K.moved hW.alike hK, hD⟩⟩, hS.F ht⟩) hS.2.2 dX11_count_48
  · replace h := ip s2 (iq (by rw [s2]; decide) h)
    refine lv_tableIn (off := 43) (tgt := 49) hx hb dX11_count_6 (by rw [s2]; decide) (by rw [s2]; decide) (by rw [s2]; rfl) (by decide) ?_
    refine lv_aload_n hx hb dX11_count_49 rfl (lv_at hl 0 rfl) ?_
    obtain ⟨q7, hc, h⟩ := ib h
    have hF := va_frees hD hS hA
    refine va_calli (va_runV (As := []) (rest := []) ⟨hx, hb, hml, hown, hts⟩ (s_X11_messageSet hc) (cwV 0 hts (gV mw_39_16 mw_39_17 mw_39_18 mw_0_15 mw_57_17) rfl rfl rfl (by decide +kernel) ⟨(Nat.le_of_ble_eq_true rfl), (Nat.le_of_ble_eq_true rfl)⟩) (vV (ci := 11) (q0 := 0) hK hP hD hN rfl gB_0) rfl rfl hl.1 rfl (lv_room (Nat.le_of_ble_eq_true rfl)) dX11_count_50 ⟨(Nat.le_of_ble_eq_true rfl), (Nat.le_of_ble_eq_true rfl)⟩) hS (fun q _ h => hF q h) hF (fun r8 u t H locs ht hvm hw hB _ _ hS => ?_)
    obtain rfl : r8 = q7.1 := hw
    replace hP : va_P (dC, dI) vwCl (wB a k q7.2) H := by rw [← ht]; exact hB.1
    replace hD := hD0 (q7.2)
    clear hB hF
    obtain rfl := Option.some.inj h
    exact W.iret hx hb hr (fun t ht hW => ⟨⟨_, (), rfl, rfl, ⟨by rw [ht]; exact hP, va_K.moved hW.alike hK, hD⟩⟩, hS.F ht⟩) hS.2.2 dX11_count_53
  · replace h := ip s3 (iq (by rw [s3]; decide) (iq (by rw [s3]; decide) h))
    refine lv_tableIn (off := 48) (tgt := 54) hx hb dX11_count_6 (by rw [s3]; decide) (by rw [s3]; decide) (by rw [s3]; rfl) (by decide) ?_
    refine lv_aload_n hx hb dX11_count_54 rfl (lv_at hl 0 rfl) ?_
    refine va_get (D := (dC, dI)) (ci := 11) (C := RX11) (T := TX11) (N := 95) hx hb hts inlX11 hown hK hP 0 gB_0 rfl 73 (by decide) (hts (.fieldLink RX11 392 "ShapeReaderModel" "nodeMany" "I") mw_33_17) (fun _ h9 => h9) rfl dX11_count_55 ?_
    obtain rfl := Option.some.inj h
    exact W.iret hx hb hr (fun t ht hW => ⟨⟨_, (), rfl, rfl, ⟨by rw [ht]; exact hP, va_K.moved hW.alike hK, hD⟩⟩, hS.F ht⟩) hS.2.2 dX11_count_58
  · replace h := ip s4 (iq (by rw [s4]; decide) (iq (by rw [s4]; decide) (iq (by rw [s4]; decide) h)))
    refine lv_tableIn (off := 53) (tgt := 59) hx hb dX11_count_6 (by rw [s4]; decide) (by rw [s4]; decide) (by rw [s4]; rfl) (by decide) ?_
    refine lv_aload_n hx hb dX11_count_59 rfl (lv_at hl 0 rfl) ?_
    refine va_get (D := (dC, dI)) (ci := 11) (C := RX11) (T := TX11) (N := 95) hx hb hts inlX11 hown hK hP 0 gB_0 rfl 93 (by decide) (hts (.fieldLink RX11 401 "ShapeReaderModel" "found" "I") mw_33_20) (fun _ h9 => h9) rfl dX11_count_60 ?_
    obtain rfl := Option.some.inj h
    exact W.iret hx hb hr (fun t ht hW => ⟨⟨_, (), rfl, rfl, ⟨by rw [ht]; exact hP, va_K.moved hW.alike hK, hD⟩⟩, hS.F ht⟩) hS.2.2 dX11_count_63
  · replace h := ip s5 (iq (by rw [s5]; decide) (iq (by rw [s5]; decide) (iq (by rw [s5]; decide) (iq (by rw [s5]; decide) h))))
    refine lv_tableIn (off := 58) (tgt := 64) hx hb dX11_count_6 (by rw [s5]; decide) (by rw [s5]; decide) (by rw [s5]; rfl) (by decide) ?_
    refine lv_aload_n hx hb dX11_count_64 rfl (lv_at hl 0 rfl) ?_
    refine va_get (D := (dC, dI)) (ci := 11) (C := RX11) (T := TX11) (N := 95) hx hb hts inlX11 hown hK hP 0 gB_0 rfl 94 (by decide) (hts (.fieldLink RX11 404 "ShapeReaderModel" "notFound" "I") mw_33_21) (fun _ h9 => h9) rfl dX11_count_65 ?_
    obtain rfl := Option.some.inj h
    exact W.iret hx hb hr (fun t ht hW => ⟨⟨_, (), rfl, rfl, ⟨by rw [ht]; exact hP, va_K.moved hW.alike hK, hD⟩⟩, hS.F ht⟩) hS.2.2 dX11_count_68
  · replace h := ip s6 (iq (by rw [s6]; decide) (iq (by rw [s6]; decide) (iq (by rw [s6]; decide) (iq (by rw [s6]; decide) (iq (by rw [s6]; decide) h)))))
    refine lv_tableIn (off := 63) (tgt := 69) hx hb dX11_count_6 (by rw [s6]; decide) (by rw [s6]; decide) (by rw [s6]; rfl) (by decide) ?_
    refine lv_aload_n hx hb dX11_count_69 rfl (lv_at hl 0 rfl) ?_
    refine va_get (D := (dC, dI)) (ci := 11) (C := RX11) (T := TX11) (N := 95) hx hb hts inlX11 hown hK hP 0 gB_0 rfl 2 (by decide) (hts (.fieldLink RX11 182 "ShapeReaderModel" "taped" "I") mw_28_23) (fun _ h9 => h9) rfl dX11_count_70 ?_
    obtain rfl := Option.some.inj h
    exact W.iret hx hb hr (fun t ht hW => ⟨⟨_, (), rfl, rfl, ⟨by rw [ht]; exact hP, va_K.moved hW.alike hK, hD⟩⟩, hS.F ht⟩) hS.2.2 dX11_count_73
  · replace h := (iq s6 (iq s5 (iq s4 (iq s3 (iq s2 (iq s1 h))))))
    refine lv_tableOut (tgt := 74) hx hb dX11_count_6 (by have a0 := il_ne s1; have e0 : (0 : Int32).toInt = 0 := (by decide); have a1 := il_ne s2; have e1 : (1 : Int32).toInt = 1 := (by decide); have a2 := il_ne s3; have e2 : (2 : Int32).toInt = 2 := (by decide); have a3 := il_ne s4; have e3 : (3 : Int32).toInt = 3 := (by decide); have a4 := il_ne s5; have e4 : (4 : Int32).toInt = 4 := (by decide); have a5 := il_ne s6; have e5 : (5 : Int32).toInt = 5 := (by decide); omega) (by decide) ?_
    refine lv_iconst (v := (-1)) hx hb dX11_count_74 (by decide) ?_
    obtain rfl := Option.some.inj h
    exact W.iret hx hb hr (fun t ht hW => ⟨⟨_, (), rfl, rfl, ⟨by rw [ht]; exact hP, va_K.moved hW.alike hK, hD⟩⟩, hS.F ht⟩) hS.2.2 dX11_count_75

theorem s_X11_count {l : Launch} {dC : Nat → ClassId} {dI : Nat → Nat → Nat} {a : Nat → Nat} {k : Nat → ClassId} {sz : Nat} {p0 : Int32} {σ : ST} {q : Int32 × ST} (h : f_X11_count  p0 σ = some q) : Met l yX11_count (.code yX11_count cX11_count 2 (some .int) :: pw) ({ frames := 1, cells := 0, slots := 0, locals := 22 } : Room) (va_Pc [.ref (a 0), .int p0] (vPre dC dI (wB a k σ) (tB k) sz)) (qBi dC dI a k (va_A (wB a k σ) sz) q) 0 0 (va_A (wB a k σ) sz) := metB (fun A => qBi dC dI a k A q) (plainFor_of_name (by decide)) (Nat.le_of_ble_eq_true rfl) (fun _ _ _ _ _ _ _ _ hC => b_X11_count_e hC h)

def f_X11_cut (p0 : Int32) (p1 : Int32) (σ : ST) : Option (Int32 × ST) := (f_X11_isMessage  p0 (stI σ 0 0 0)).bind fun q1 => if q1.1 = 0 then (some ((-1), q1.2)) else (if 0 ≤ p0.toInt ∧ p0.toInt < 4 then ((f_X11_within  (p1.toInt64) 0 ((q1.2.1 33 p0.toNatClampNeg).toInt64) q1.2).bind fun q4 => if q4.1 = 0 then (some ((-1), q4.2)) else (some ((q4.2.1 33 p0.toNatClampNeg), (stI q4.2 33 p0.toNatClampNeg p1)))) else none)

set_option maxRecDepth 100000 in
set_option maxHeartbeats 4000000 in
theorem b_X11_cut_e {p : Program} {l : Launch} {e : Env} {s : State} {m : MethodId} {args : Array Value} {below : List Frame} {meth : Method} {c : Code} {dC : Nat → ClassId} {dI : Nat → Nat → Nat} {a : Nat → Nat} {k : Nat → ClassId} {A : Nat → Prop} {q : Int32 × ST} (hC : CxB p s m args meth c dC dI k A cX11_cut RX11 (some .int) 4)   {p0 : Int32} {p1 : Int32} {σ : ST} (h : f_X11_cut  p0 p1 σ = some q) : GoB p l e ({ frames := 2, cells := 0, slots := 0, locals := 46 } : Room) s m args below meth c (MQ below (qBi dC dI a k A q) args s 0 0 A) dC dI a k A 4 0 σ (lv_args 0 [.ref (a 0), .int p0, .int p1]) [] := by
  have hC0 := hC
  obtain ⟨hx, hb, hr, hml, hown, hts, hlocks, hA, hN, hK⟩ := hC0
  intro H locs ls hP hD hS hl
  have hD0 : ∀ σ1 : ST, va_D A (wB a k σ1) := fun σ1 => wB_D hD
  replace hl : lv_has ls 4 [(0, .ref (a 0)), (1, .int p0), (2, .int p1)] := hl
  unfold f_X11_cut at h
  refine lv_aload_n hx hb dX11_cut_0 rfl (lv_at hl 0 rfl) ?_
  refine lv_iconst (v := 0) hx hb dX11_cut_1 (by decide) ?_
  refine va_put (D := (dC, dI)) (ci := 11) (ty := .int) (C := RX11) (T := TX11) (N := 95) hx hb hts inlX11 tyX11 tyX11_ok nmX11 hown hK hP hD hS 0 gB_0 rfl 0 (by decide) (hts (.fieldLink RX11 178 "ShapeReaderModel" "thrown" "I") mw_28_22) (fun _ h9 => h9) rfl (by decide +kernel) rfl rfl (Nat.le_of_ble_eq_true rfl) dX11_cut_2 (fun H locs hP hD hS => ?_)
  replace hP := uB_0_0 hP
  replace hD := hD0 ((stI σ 0 0 0))
  refine lv_aload_n hx hb dX11_cut_5 rfl (lv_at hl 0 rfl) ?_
  refine lv_iload_n hx hb dX11_cut_6 rfl (lv_at hl 1 rfl) ?_
  obtain ⟨q1, hc, h⟩ := ib h
  have hF := va_frees hD hS hA
  refine va_calli (va_runV (As := [.int p0]) (rest := []) ⟨hx, hb, hml, hown, hts⟩ (s_X11_isMessage hc) (cwV 1 hts (gV mw_35_24 mw_35_25 mw_35_26 mw_0_15 mw_55_26) rfl rfl rfl (by decide +kernel) ⟨(Nat.le_of_ble_eq_true rfl), (Nat.le_of_ble_eq_true rfl)⟩) (vV (ci := 11) (q0 := 0) hK hP hD hN rfl gB_0) rfl rfl hl.1 rfl (lv_room (Nat.le_of_ble_eq_true rfl)) dX11_cut_7 ⟨(Nat.le_of_ble_eq_true rfl), (Nat.le_of_ble_eq_true rfl)⟩) hS (fun q _ h => hF q h) hF (fun r2 u t H locs ht hvm hw hB _ _ hS => ?_)
  obtain rfl : r2 = q1.1 := hw
  replace hP : va_P (dC, dI) vwCl (wB a k q1.2) H := by rw [← ht]; exact hB.1
  replace hD := hD0 (q1.2)
  clear hB hF
  refine lv_if_eq (tgt := 29) hx hb dX11_cut_10 (by decide) (fun hc => ?_) (fun hc => ?_)
  · replace h := ip hc h
    refine lv_iconst (v := (-1)) hx hb dX11_cut_29 (by decide) ?_
    obtain rfl := Option.some.inj h
    exact W.iret hx hb hr (fun t ht hW => ⟨⟨_, (), rfl, rfl, ⟨by rw [ht]; exact hP, va_K.moved hW.alike hK, hD⟩⟩, hS.F ht⟩) hS.2.2 dX11_cut_30
  · replace h := iq hc h
    refine lv_iload_n hx hb dX11_cut_13 rfl (lv_at hl 2 rfl) ?_
    refine lv_i2l (v := p1.toInt64) hx hb dX11_cut_14 rfl ?_
    refine lv_lconst (v := 0) hx hb dX11_cut_15 (by decide) ?_
    refine lv_aload_n hx hb dX11_cut_16 rfl (lv_at hl 0 rfl) ?_
    refine va_get (D := (dC, dI)) (ci := 11) (C := RX11) (T := TX11) (N := 95) hx hb hts inlX11 hown hK hP 0 gB_0 rfl 51 (by decide) (hts (.fieldLink RX11 109 "ShapeReaderModel" "messageMany" "[I") mw_27_29) (fun _ h9 => h9) rfl dX11_cut_17 ?_
    refine lv_iload_n hx hb dX11_cut_20 rfl (lv_at hl 1 rfl) ?_
    obtain ⟨hg3, h⟩ := ig h
    refine va_iald hx hb hK hP 33 32 gB_33 yB_33 (vp_in_iff.mpr hg3) dX11_cut_21 ?_
    refine lv_i2l (v := (q1.2.1 33 p0.toNatClampNeg).toInt64) hx hb dX11_cut_22 rfl ?_
    obtain ⟨q4, hc, h⟩ := ib h
    have hF := va_frees hD hS hA
    refine va_calli (va_runS (As := [.long (p1.toInt64), .long 0, .long ((q1.2.1 33 p0.toNatClampNeg).toInt64)]) (rest := []) ⟨hx, hb, hml, hown, hts⟩ (s_X11_within hc) (va_cwS 3 hts (gS mw_29_0 mw_29_1 mw_0_15 mw_53_26) rfl rfl rfl (by decide +kernel) ⟨(Nat.le_of_ble_eq_true rfl), (Nat.le_of_ble_eq_true rfl)⟩) (vS hK hP hD hN) rfl rfl hl.1 rfl (lv_room (Nat.le_of_ble_eq_true rfl)) dX11_cut_23 ⟨(Nat.le_of_ble_eq_true rfl), (Nat.le_of_ble_eq_true rfl)⟩) hS (fun q _ h => hF q h) hF (fun r5 u t H locs ht hvm hw hB _ _ hS => ?_)
    obtain rfl : r5 = q4.1 := hw
    replace hP : va_P (dC, dI) vwCl (wB a k q4.2) H := by rw [← ht]; exact hB.1
    replace hD := hD0 (q4.2)
    clear hB hF
    refine lv_if_ne (tgt := 31) hx hb dX11_cut_26 (by decide) (fun hc => ?_) (fun hc => ?_)
    · replace h := iq hc h
      refine lv_aload_n hx hb dX11_cut_31 rfl (lv_at hl 0 rfl) ?_
      refine va_get (D := (dC, dI)) (ci := 11) (C := RX11) (T := TX11) (N := 95) hx hb hts inlX11 hown hK hP 0 gB_0 rfl 51 (by decide) (hts (.fieldLink RX11 109 "ShapeReaderModel" "messageMany" "[I") mw_27_29) (fun _ h9 => h9) rfl dX11_cut_32 ?_
      refine lv_iload_n hx hb dX11_cut_35 rfl (lv_at hl 1 rfl) ?_
      refine va_iald hx hb hK hP 33 32 gB_33 yB_33 (vp_in_iff.mpr hg3) dX11_cut_36 ?_
      refine lv_istore_n (lv' := [(3, .int (q4.2.1 33 p0.toNatClampNeg)), (0, .ref (a 0)), (1, .int p0), (2, .int p1)]) hx hb dX11_cut_37 rfl hl (by decide) rfl (fun ls hl => ?_)
      refine lv_aload_n hx hb dX11_cut_38 rfl (lv_at hl 1 rfl) ?_
      refine va_get (D := (dC, dI)) (ci := 11) (C := RX11) (T := TX11) (N := 95) hx hb hts inlX11 hown hK hP 0 gB_0 rfl 51 (by decide) (hts (.fieldLink RX11 109 "ShapeReaderModel" "messageMany" "[I") mw_27_29) (fun _ h9 => h9) rfl dX11_cut_39 ?_
      refine lv_iload_n hx hb dX11_cut_42 rfl (lv_at hl 2 rfl) ?_
      refine lv_iload_n hx hb dX11_cut_43 rfl (lv_at hl 3 rfl) ?_
      refine va_iast hx hb hK hP hD hS 33 32 gB_33 yB_33 (vp_in_iff.mpr hg3) dX11_cut_44 (fun H locs hP hD hS => ?_)
      replace hP := uB_33 hP
      replace hD := hD0 ((stI q4.2 33 p0.toNatClampNeg p1))
      refine lv_iload_n hx hb dX11_cut_45 rfl (lv_at hl 0 rfl) ?_
      obtain rfl := Option.some.inj h
      exact W.iret hx hb hr (fun t ht hW => ⟨⟨_, (), rfl, rfl, ⟨by rw [ht]; exact hP, va_K.moved hW.alike hK, hD⟩⟩, hS.F ht⟩) hS.2.2 dX11_cut_46
    · replace h := ip hc h
      refine lv_iconst (v := (-1)) hx hb dX11_cut_29 (by decide) ?_
      obtain rfl := Option.some.inj h
      exact W.iret hx hb hr (fun t ht hW => ⟨⟨_, (), rfl, rfl, ⟨by rw [ht]; exact hP, va_K.moved hW.alike hK, hD⟩⟩, hS.F ht⟩) hS.2.2 dX11_cut_30

theorem s_X11_cut {l : Launch} {dC : Nat → ClassId} {dI : Nat → Nat → Nat} {a : Nat → Nat} {k : Nat → ClassId} {sz : Nat} {p0 : Int32} {p1 : Int32} {σ : ST} {q : Int32 × ST} (h : f_X11_cut  p0 p1 σ = some q) : Met l yX11_cut (.code yX11_cut cX11_cut 4 (some .int) :: pw) ({ frames := 2, cells := 0, slots := 0, locals := 46 } : Room) (va_Pc [.ref (a 0), .int p0, .int p1] (vPre dC dI (wB a k σ) (tB k) sz)) (qBi dC dI a k (va_A (wB a k σ) sz) q) 0 0 (va_A (wB a k σ) sz) := metB (fun A => qBi dC dI a k A q) (plainFor_of_name (by decide)) (Nat.le_of_ble_eq_true rfl) (fun _ _ _ _ _ _ _ _ hC => b_X11_cut_e hC h)

def f_X11_isLiteral_46 (σ : ST) : Option ((Int32 × ST) × Nat) := some ((1, σ), 0)
def f_X11_isLiteral (σ : ST) : Option ((Int32 × ST) × Nat) := (f_X11_sortHere   σ).bind fun q1 => ac q1.2 (if q1.1.1 = 0 then (f_X11_isLiteral_46   q1.1.2) else ((f_X11_isYes   q1.1.2).bind fun q3 => ac q3.2 (if q3.1.1 = 0 then ((f_X11_isNo   q3.1.2).bind fun q5 => ac q5.2 (if q5.1.1 = 0 then (if (q5.1.2.1 0 6) = 2 then (f_X11_isLiteral_46   q5.1.2) else (if (q5.1.2.1 0 6) = 3 then (f_X11_isLiteral_46   q5.1.2) else (if (q5.1.2.1 0 13) = 91 then (f_X11_isLiteral_46   q5.1.2) else (some ((0, q5.1.2), 0))))) else (f_X11_isLiteral_46   q5.1.2))) else (f_X11_isLiteral_46   q3.1.2))))

set_option maxRecDepth 100000 in
set_option maxHeartbeats 4000000 in
theorem b_X11_isLiteral_46 {p : Program} {l : Launch} {e : Env} {s : State} {m : MethodId} {args : Array Value} {below : List Frame} {meth : Method} {c : Code} {dC : Nat → ClassId} {dI : Nat → Nat → Nat} {a : Nat → Nat} {k : Nat → ClassId} {A : Nat → Prop} {q : Int32 × ST} {T r κ : Nat} (hC : CxB p s m args meth c dC dI k A cX11_isLiteral RX11 (some .boolean) 1)    {σ : ST} (h : f_X11_isLiteral_46   σ = some (q, r)) (hκ : κ + r = T) : GkB p l e ({ frames := 2, cells := T, slots := 6 * T, locals := 49 } : Room) s m args below meth c (MQ below (qBi dC dI a k A q) args s T (6 * T) A) dC dI a k A 1 46 κ σ [] [] := by
  have hC0 := hC
  obtain ⟨hx, hb, hr, hml, hown, hts, hlocks, hA, hN, hK⟩ := hC0
  intro H locs ls hP hD hS hl
  have hD0 : ∀ σ1 : ST, va_D A (wB a k σ1) := fun σ1 => wB_D hD
  unfold f_X11_isLiteral_46 at h
  refine lv_iconst (v := 1) hx hb dX11_isLiteral_46 (by decide) ?_
  refine lv_goto (tgt := 51) hx hb dX11_isLiteral_47 (by decide) ?_
  obtain ⟨rfl, rfl⟩ := Prod.mk.inj (Option.some.inj h)
  subst hκ
  exact W.zret hx hb hr rfl (fun t ht hW => ⟨⟨_, (), rfl, rfl, ⟨by rw [ht]; exact hP, va_K.moved hW.alike hK, hD⟩⟩, hS.F ht⟩) hS.2.2 dX11_isLiteral_51

set_option maxRecDepth 100000 in
set_option maxHeartbeats 4000000 in
theorem b_X11_isLiteral_e {p : Program} {l : Launch} {e : Env} {s : State} {m : MethodId} {args : Array Value} {below : List Frame} {meth : Method} {c : Code} {dC : Nat → ClassId} {dI : Nat → Nat → Nat} {a : Nat → Nat} {k : Nat → ClassId} {A : Nat → Prop} {q : Int32 × ST} {T r : Nat} (hC : CxB p s m args meth c dC dI k A cX11_isLiteral RX11 (some .boolean) 1)    {σ : ST} (h : f_X11_isLiteral   σ = some (q, r)) (hκ : 0 + r = T) : GkB p l e ({ frames := 2, cells := T, slots := 6 * T, locals := 49 } : Room) s m args below meth c (MQ below (qBi dC dI a k A q) args s T (6 * T) A) dC dI a k A 1 0 0 σ (lv_args 0 [.ref (a 0)]) [] := by
  have hC0 := hC
  obtain ⟨hx, hb, hr, hml, hown, hts, hlocks, hA, hN, hK⟩ := hC0
  intro H locs ls hP hD hS hl
  have hD0 : ∀ σ1 : ST, va_D A (wB a k σ1) := fun σ1 => wB_D hD
  replace hl : lv_has ls 1 [(0, .ref (a 0))] := hl
  unfold f_X11_isLiteral at h
  refine lv_aload_n hx hb dX11_isLiteral_0 rfl (lv_at hl 0 rfl) ?_
  obtain ⟨q1, hc, h⟩ := ib h
  obtain ⟨r2, h, hz⟩ := acE h
  have hF := va_frees hD hS hA
  refine va_calli (va_runV (As := []) (rest := []) ⟨hx, hb, hml, hown, hts⟩ (s_X11_sortHere (q := q1.1) (r := q1.2) hc) (cwV 0 hts (gV mw_30_20 mw_30_21 mw_30_22 mw_0_15 mw_54_12) rfl rfl rfl (by decide +kernel) ⟨(Nat.le_of_ble_eq_true rfl), (Nat.le_of_ble_eq_true rfl)⟩) (vV (ci := 11) (q0 := 0) hK hP hD hN rfl gB_0) rfl rfl hl.1 rfl (lv_room (Nat.le_of_ble_eq_true rfl)) dX11_isLiteral_1 ⟨by show 0 + q1.2 ≤ T; omega, by show 6 * 0 + 6 * q1.2 ≤ 6 * T; omega⟩) hS (fun q _ h => hF q h) hF (fun r2 u t H locs ht hvm hw hB _ _ hS => ?_)
  obtain rfl : r2 = q1.1.1 := hw
  replace hκ : (0 + q1.2) + r2 = T := by omega
  clear hz
  refine W.widen (k := (0 + q1.2)) (n := 6 * (0 + q1.2)) (Nat.le_refl _) (by omega) ?_
  replace hP : va_P (dC, dI) vwCl (wB a k q1.1.2) H := by rw [← ht]; exact hB.1
  replace hD := hD0 (q1.1.2)
  clear hB hF
  refine lv_if_eq (tgt := 46) hx hb dX11_isLiteral_4 (by decide) (fun hc => ?_) (fun hc => ?_)
  · replace h := ip hc h
    exact b_X11_isLiteral_46 hC h hκ _ _ _ hP hD hS (lv_sub hl [] rfl)
  · replace h := iq hc h
    refine lv_aload_n hx hb dX11_isLiteral_7 rfl (lv_at hl 0 rfl) ?_
    obtain ⟨q3, hc, h⟩ := ib h
    obtain ⟨r2, h, hz⟩ := acE h
    have hF := va_frees hD hS hA
    refine va_calli (va_runV (As := []) (rest := []) ⟨hx, hb, hml, hown, hts⟩ (s_X11_isYes (q := q3.1) (r := q3.2) hc) (cwV 0 hts (gV mw_31_8 mw_31_9 mw_31_10 mw_0_15 mw_54_18) rfl rfl rfl (by decide +kernel) ⟨(Nat.le_of_ble_eq_true rfl), (Nat.le_of_ble_eq_true rfl)⟩) (vV (ci := 11) (q0 := 0) hK hP hD hN rfl gB_0) rfl rfl hl.1 rfl (lv_room (Nat.le_of_ble_eq_true rfl)) dX11_isLiteral_8 ⟨by show (0 + q1.2) + q3.2 ≤ T; omega, by show 6 * (0 + q1.2) + 6 * q3.2 ≤ 6 * T; omega⟩) hS (fun q _ h => hF q h) hF (fun r4 u t H locs ht hvm hw hB _ _ hS => ?_)
    obtain rfl : r4 = q3.1.1 := hw
    replace hκ : ((0 + q1.2) + q3.2) + r2 = T := by omega
    clear hz
    refine W.widen (k := ((0 + q1.2) + q3.2)) (n := 6 * ((0 + q1.2) + q3.2)) (Nat.le_refl _) (by omega) ?_
    replace hP : va_P (dC, dI) vwCl (wB a k q3.1.2) H := by rw [← ht]; exact hB.1
    replace hD := hD0 (q3.1.2)
    clear hB hF
    refine lv_if_ne (tgt := 46) hx hb dX11_isLiteral_11 (by decide) (fun hc => ?_) (fun hc => ?_)
    · replace h := iq hc h
      exact b_X11_isLiteral_46 hC h hκ _ _ _ hP hD hS (lv_sub hl [] rfl)
    · replace h := ip hc h
      refine lv_aload_n hx hb dX11_isLiteral_14 rfl (lv_at hl 0 rfl) ?_
      obtain ⟨q5, hc, h⟩ := ib h
      obtain ⟨r2, h, hz⟩ := acE h
      have hF := va_frees hD hS hA
      refine va_calli (va_runV (As := []) (rest := []) ⟨hx, hb, hml, hown, hts⟩ (s_X11_isNo (q := q5.1) (r := q5.2) hc) (cwV 0 hts (gV mw_31_11 mw_31_12 mw_31_13 mw_0_15 mw_54_19) rfl rfl rfl (by decide +kernel) ⟨(Nat.le_of_ble_eq_true rfl), (Nat.le_of_ble_eq_true rfl)⟩) (vV (ci := 11) (q0 := 0) hK hP hD hN rfl gB_0) rfl rfl hl.1 rfl (lv_room (Nat.le_of_ble_eq_true rfl)) dX11_isLiteral_15 ⟨by show ((0 + q1.2) + q3.2) + q5.2 ≤ T; omega, by show 6 * ((0 + q1.2) + q3.2) + 6 * q5.2 ≤ 6 * T; omega⟩) hS (fun q _ h => hF q h) hF (fun r6 u t H locs ht hvm hw hB _ _ hS => ?_)
      obtain rfl : r6 = q5.1.1 := hw
      replace hκ : (((0 + q1.2) + q3.2) + q5.2) + r2 = T := by omega
      clear hz
      refine W.widen (k := (((0 + q1.2) + q3.2) + q5.2)) (n := 6 * (((0 + q1.2) + q3.2) + q5.2)) (Nat.le_refl _) (by omega) ?_
      replace hP : va_P (dC, dI) vwCl (wB a k q5.1.2) H := by rw [← ht]; exact hB.1
      replace hD := hD0 (q5.1.2)
      clear hB hF
      refine lv_if_ne (tgt := 46) hx hb dX11_isLiteral_18 (by decide) (fun hc => ?_) (fun hc => ?_)
      · replace h := iq hc h
        exact b_X11_isLiteral_46 hC h hκ _ _ _ hP hD hS (lv_sub hl [] rfl)
      · replace h := ip hc h
        refine lv_aload_n hx hb dX11_isLiteral_21 rfl (lv_at hl 0 rfl) ?_
        refine va_get (D := (dC, dI)) (ci := 11) (C := RX11) (T := TX11) (N := 95) hx hb hts inlX11 hown hK hP 0 gB_0 rfl 6 (by decide) (hts (.fieldLink RX11 244 "ShapeReaderModel" "token" "I") mw_29_21) (fun _ h9 => h9) rfl dX11_isLiteral_22 ?_
        refine lv_iconst (v := 2) hx hb dX11_isLiteral_25 (by decide) ?_
        refine lv_icmp_eq (tgt := 46) hx hb dX11_isLiteral_26 (by decide) (fun hc => ?_) (fun hc => ?_)
        · replace h := ip hc h
          exact b_X11_isLiteral_46 hC h hκ _ _ _ hP hD hS (lv_sub hl [] rfl)
        · replace h := iq hc h
          refine lv_aload_n hx hb dX11_isLiteral_29 rfl (lv_at hl 0 rfl) ?_
          refine va_get (D := (dC, dI)) (ci := 11) (C := RX11) (T := TX11) (N := 95) hx hb hts inlX11 hown hK hP 0 gB_0 rfl 6 (by decide) (hts (.fieldLink RX11 244 "ShapeReaderModel" "token" "I") mw_29_21) (fun _ h9 => h9) rfl dX11_isLiteral_30 ?_
          refine lv_iconst (v := 3) hx hb dX11_isLiteral_33 (by decide) ?_
          refine lv_icmp_eq (tgt := 46) hx hb dX11_isLiteral_34 (by decide) (fun hc => ?_) (fun hc => ?_)
          · replace h := ip hc h
            exact b_X11_isLiteral_46 hC h hκ _ _ _ hP hD hS (lv_sub hl [] rfl)
          · replace h := iq hc h
            refine lv_aload_n hx hb dX11_isLiteral_37 rfl (lv_at hl 0 rfl) ?_
            refine va_get (D := (dC, dI)) (ci := 11) (C := RX11) (T := TX11) (N := 95) hx hb hts inlX11 hown hK hP 0 gB_0 rfl 13 (by decide) (hts (.fieldLink RX11 253 "ShapeReaderModel" "sign" "I") mw_29_26) (fun _ h9 => h9) rfl dX11_isLiteral_38 ?_
            refine lv_bipush (v := 91) hx hb dX11_isLiteral_41 (by decide) ?_
            refine lv_icmp_ne (tgt := 50) hx hb dX11_isLiteral_43 (by decide) (fun hc => ?_) (fun hc => ?_)
            · replace h := iq hc h
              refine lv_iconst (v := 0) hx hb dX11_isLiteral_50 (by decide) ?_
              obtain ⟨rfl, rfl⟩ := Prod.mk.inj (Option.some.inj h)
              subst hκ
              exact W.zret hx hb hr rfl (fun t ht hW => ⟨⟨_, (), rfl, rfl, ⟨by rw [ht]; exact hP, va_K.moved hW.alike hK, hD⟩⟩, hS.F ht⟩) hS.2.2 dX11_isLiteral_51
            · replace h := ip hc h
              exact b_X11_isLiteral_46 hC h hκ _ _ _ hP hD hS (lv_sub hl [] rfl)

theorem s_X11_isLiteral {l : Launch} {dC : Nat → ClassId} {dI : Nat → Nat → Nat} {a : Nat → Nat} {k : Nat → ClassId} {sz : Nat}  {σ : ST} {q : Int32 × ST} {r : Nat} (h : f_X11_isLiteral   σ = some (q, r)) : Met l yX11_isLiteral (.code yX11_isLiteral cX11_isLiteral 1 (some .boolean) :: pw) ({ frames := 2, cells := r, slots := 6 * r, locals := 49 } : Room) (va_Pc [.ref (a 0)] (vPre dC dI (wB a k σ) (tB k) sz)) (qBi dC dI a k (va_A (wB a k σ) sz) q) r (6 * r) (va_A (wB a k σ) sz) := mekB (fun A => qBi dC dI a k A q) (plainFor_of_name (by decide)) (Nat.le_of_ble_eq_true rfl) (fun _ _ _ _ _ _ _ _ hC => b_X11_isLiteral_e hC h (Nat.zero_add _))

def f_X11_mark (p0 : Int32) (σ : ST) : Option (Int32 × ST) := if (σ.1 0 13) = p0 then ((f_X11_go   σ).bind fun q1 => some (1, q1)) else ((f_X11_wrongHere  1 σ).bind fun q3 => if q3.1 = 0 ∨ q3.1 = 1 then some (q3.1, q3.2) else none)

set_option maxRecDepth 100000 in
set_option maxHeartbeats 4000000 in
theorem b_X11_mark_e {p : Program} {l : Launch} {e : Env} {s : State} {m : MethodId} {args : Array Value} {below : List Frame} {meth : Method} {c : Code} {dC : Nat → ClassId} {dI : Nat → Nat → Nat} {a : Nat → Nat} {k : Nat → ClassId} {A : Nat → Prop} {q : Int32 × ST} (hC : CxB p s m args meth c dC dI k A cX11_mark RX11 (some .boolean) 2)   {p0 : Int32} {σ : ST} (h : f_X11_mark  p0 σ = some q) : GoB p l e ({ frames := 5, cells := 0, slots := 0, locals := 108 } : Room) s m args below meth c (MQ below (qBi dC dI a k A q) args s 0 0 A) dC dI a k A 2 0 σ (lv_args 0 [.ref (a 0), .int p0]) [] := by
  have hC0 := hC
  obtain ⟨hx, hb, hr, hml, hown, hts, hlocks, hA, hN, hK⟩ := hC0
  intro H locs ls hP hD hS hl
  have hD0 : ∀ σ1 : ST, va_D A (wB a k σ1) := fun σ1 => wB_D hD
  replace hl : lv_has ls 2 [(0, .ref (a 0)), (1, .int p0)] := hl
  unfold f_X11_mark at h
  refine lv_aload_n hx hb dX11_mark_0 rfl (lv_at hl 0 rfl) ?_
  refine va_get (D := (dC, dI)) (ci := 11) (C := RX11) (T := TX11) (N := 95) hx hb hts inlX11 hown hK hP 0 gB_0 rfl 13 (by decide) (hts (.fieldLink RX11 253 "ShapeReaderModel" "sign" "I") mw_29_26) (fun _ h9 => h9) rfl dX11_mark_1 ?_
  refine lv_iload_n hx hb dX11_mark_4 rfl (lv_at hl 1 rfl) ?_
  refine lv_icmp_eq (tgt := 14) hx hb dX11_mark_5 (by decide) (fun hc => ?_) (fun hc => ?_)
  · replace h := ip hc h
    refine lv_aload_n hx hb dX11_mark_14 rfl (lv_at hl 0 rfl) ?_
    obtain ⟨q1, hc, h⟩ := ib h
    have hF := va_frees hD hS hA
    refine va_callv (va_runV (As := []) (rest := []) ⟨hx, hb, hml, hown, hts⟩ (s_X11_go hc) (cwV 0 hts (gV mw_30_12 mw_30_13 mw_30_14 mw_0_15 mw_54_6) rfl rfl rfl (by decide +kernel) ⟨(Nat.le_of_ble_eq_true rfl), (Nat.le_of_ble_eq_true rfl)⟩) (vV (ci := 11) (q0 := 0) hK hP hD hN rfl gB_0) rfl rfl hl.1 rfl (lv_room (Nat.le_of_ble_eq_true rfl)) dX11_mark_15 ⟨(Nat.le_of_ble_eq_true rfl), (Nat.le_of_ble_eq_true rfl)⟩) hS (fun q _ h => hF q h) hF (fun u t H locs ht hvm hw hB _ _ hS => ?_)
    replace hP : va_P (dC, dI) vwCl (wB a k q1) H := by rw [← ht]; exact hB.1
    replace hD := hD0 (q1)
    clear hB hF
    refine lv_iconst (v := 1) hx hb dX11_mark_18 (by decide) ?_
    obtain rfl := Option.some.inj h
    exact W.zret hx hb hr rfl (fun t ht hW => ⟨⟨_, (), rfl, rfl, ⟨by rw [ht]; exact hP, va_K.moved hW.alike hK, hD⟩⟩, hS.F ht⟩) hS.2.2 dX11_mark_19
  · replace h := iq hc h
    refine lv_aload_n hx hb dX11_mark_8 rfl (lv_at hl 0 rfl) ?_
    refine lv_iconst (v := 1) hx hb dX11_mark_9 (by decide) ?_
    obtain ⟨q3, hc, h⟩ := ib h
    have hF := va_frees hD hS hA
    refine va_calli (va_runV (As := [.int 1]) (rest := []) ⟨hx, hb, hml, hown, hts⟩ (s_X11_wrongHere hc) (cwV 1 hts (gV mw_30_9 mw_30_10 mw_30_11 mw_0_15 mw_54_10) rfl rfl rfl (by decide +kernel) ⟨(Nat.le_of_ble_eq_true rfl), (Nat.le_of_ble_eq_true rfl)⟩) (vV (ci := 11) (q0 := 0) hK hP hD hN rfl gB_0) rfl rfl hl.1 rfl (lv_room (Nat.le_of_ble_eq_true rfl)) dX11_mark_10 ⟨(Nat.le_of_ble_eq_true rfl), (Nat.le_of_ble_eq_true rfl)⟩) hS (fun q _ h => hF q h) hF (fun r4 u t H locs ht hvm hw hB _ _ hS => ?_)
    obtain rfl : r4 = q3.1 := hw
    replace hP : va_P (dC, dI) vwCl (wB a k q3.2) H := by rw [← ht]; exact hB.1
    replace hD := hD0 (q3.2)
    clear hB hF
    obtain ⟨hg, h⟩ := ig h
    obtain rfl := Option.some.inj h
    exact W.zret hx hb hr (zn hg) (fun t ht hW => ⟨⟨_, (), rfl, rfl, ⟨by rw [ht]; exact hP, va_K.moved hW.alike hK, hD⟩⟩, hS.F ht⟩) hS.2.2 dX11_mark_13

theorem s_X11_mark {l : Launch} {dC : Nat → ClassId} {dI : Nat → Nat → Nat} {a : Nat → Nat} {k : Nat → ClassId} {sz : Nat} {p0 : Int32} {σ : ST} {q : Int32 × ST} (h : f_X11_mark  p0 σ = some q) : Met l yX11_mark (.code yX11_mark cX11_mark 2 (some .boolean) :: pw) ({ frames := 5, cells := 0, slots := 0, locals := 108 } : Room) (va_Pc [.ref (a 0), .int p0] (vPre dC dI (wB a k σ) (tB k) sz)) (qBi dC dI a k (va_A (wB a k σ) sz) q) 0 0 (va_A (wB a k σ) sz) := metB (fun A => qBi dC dI a k A q) (plainFor_of_name (by decide)) (Nat.le_of_ble_eq_true rfl) (fun _ _ _ _ _ _ _ _ hC => b_X11_mark_e hC h)

def f_X11_elseOf_139 (σ : ST) : Option ((Int32 × ST) × Nat) := some ((1, σ), 0)
def f_X11_elseOf_121 (y0 : Int32) (σ : ST) : Option ((Int32 × ST) × Nat) := (f_X11_go   σ).bind fun q1 => if y0 = 0 then (f_X11_elseOf_139   q1) else ((f_X11_mark  93 q1).bind fun q3 => if q3.1 = 0 then (some ((0, q3.2), 0)) else (f_X11_elseOf_139   q3.2))
def f_X11_elseOf_106 (y0 : Int32) (y1 : Int32) (σ : ST) : Option ((Int32 × ST) × Nat) := if 0 ≤ y1.toInt ∧ y1.toInt < 576 then (if ((stI σ 19 y1.toNatClampNeg y0).1 0 13) = 91 then (f_X11_elseOf_121  1 (stI σ 19 y1.toNatClampNeg y0)) else (f_X11_elseOf_121  0 (stI σ 19 y1.toNatClampNeg y0))) else none
def f_X11_elseOf_84 (x1 : Int32) (y0 : Int64) (y1 : Int32) (σ : ST) : Option ((Int32 × ST) × Nat) := if 0 ≤ y1.toInt ∧ y1.toInt < 576 then (if ((stL σ 18 y1.toNatClampNeg y0).1 0 6) = 3 then (f_X11_elseOf_106  ((stL σ 18 y1.toNatClampNeg y0).1 0 8) x1 (stL σ 18 y1.toNatClampNeg y0)) else (f_X11_elseOf_106  0 x1 (stL σ 18 y1.toNatClampNeg y0))) else none
def f_X11_elseOf (p0 : Int32) (σ : ST) : Option ((Int32 × ST) × Nat) := (f_X11_isLiteral   σ).bind fun q1 => ac q1.2 (if q1.1.1 = 0 then ((f_X11_wrongHere  1 q1.1.2).bind fun q12 => if q12.1 = 0 ∨ q12.1 = 1 then some ((q12.1, q12.2), 0) else none) else (if 0 ≤ p0.toInt ∧ p0.toInt < 576 then ((f_X11_firstOf  (q1.1.2.1 15 p0.toNatClampNeg) q1.1.2).bind fun q4 => (f_X11_fits  q4.1 q4.2).bind fun q6 => ac q6.2 (if q6.1.1 = 0 then ((f_X11_wrongHere  2 q6.1.2).bind fun q10 => if q10.1 = 0 ∨ q10.1 = 1 then some ((q10.1, q10.2), 0) else none) else ((f_X11_bitsOf  q4.1 (stI q6.1.2 16 p0.toNatClampNeg (vp_nar .boolean 1))).bind fun q8 => ac q8.2 (if ((stL q8.1.2 17 p0.toNatClampNeg q8.1.1).1 0 6) = 3 then (f_X11_elseOf_84  p0 ((stL q8.1.2 17 p0.toNatClampNeg q8.1.1).2.1 0 7) p0 (stL q8.1.2 17 p0.toNatClampNeg q8.1.1)) else (f_X11_elseOf_84  p0 0 p0 (stL q8.1.2 17 p0.toNatClampNeg q8.1.1)))))) else none))

set_option maxRecDepth 100000 in
set_option maxHeartbeats 4000000 in
theorem b_X11_elseOf_139 {p : Program} {l : Launch} {e : Env} {s : State} {m : MethodId} {args : Array Value} {below : List Frame} {meth : Method} {c : Code} {dC : Nat → ClassId} {dI : Nat → Nat → Nat} {a : Nat → Nat} {k : Nat → ClassId} {A : Nat → Prop} {q : Int32 × ST} {T r κ : Nat} (hC : CxB p s m args meth c dC dI k A cX11_elseOf RX11 (some .boolean) 4)    {σ : ST} (h : f_X11_elseOf_139   σ = some (q, r)) (hκ : κ + r = T) : GkB p l e ({ frames := 6, cells := T, slots := 6 * T, locals := 129 } : Room) s m args below meth c (MQ below (qBi dC dI a k A q) args s T (6 * T) A) dC dI a k A 4 139 κ σ [] [] := by
  have hC0 := hC
  obtain ⟨hx, hb, hr, hml, hown, hts, hlocks, hA, hN, hK⟩ := hC0
  intro H locs ls hP hD hS hl
  have hD0 : ∀ σ1 : ST, va_D A (wB a k σ1) := fun σ1 => wB_D hD
  unfold f_X11_elseOf_139 at h
  refine lv_iconst (v := 1) hx hb dX11_elseOf_139 (by decide) ?_
  refine lv_goto (tgt := 144) hx hb dX11_elseOf_140 (by decide) ?_
  obtain ⟨rfl, rfl⟩ := Prod.mk.inj (Option.some.inj h)
  subst hκ
  exact W.zret hx hb hr rfl (fun t ht hW => ⟨⟨_, (), rfl, rfl, ⟨by rw [ht]; exact hP, va_K.moved hW.alike hK, hD⟩⟩, hS.F ht⟩) hS.2.2 dX11_elseOf_144

set_option maxRecDepth 100000 in
set_option maxHeartbeats 4000000 in
theorem b_X11_elseOf_121 {p : Program} {l : Launch} {e : Env} {s : State} {m : MethodId} {args : Array Value} {below : List Frame} {meth : Method} {c : Code} {dC : Nat → ClassId} {dI : Nat → Nat → Nat} {a : Nat → Nat} {k : Nat → ClassId} {A : Nat → Prop} {q : Int32 × ST} {T r κ : Nat} (hC : CxB p s m args meth c dC dI k A cX11_elseOf RX11 (some .boolean) 4)   {y0 : Int32} {σ : ST} (h : f_X11_elseOf_121  y0 σ = some (q, r)) (hκ : κ + r = T) : GkB p l e ({ frames := 6, cells := T, slots := 6 * T, locals := 129 } : Room) s m args below meth c (MQ below (qBi dC dI a k A q) args s T (6 * T) A) dC dI a k A 4 121 κ σ [(0, .ref (a 0))] [.int y0] := by
  have hC0 := hC
  obtain ⟨hx, hb, hr, hml, hown, hts, hlocks, hA, hN, hK⟩ := hC0
  intro H locs ls hP hD hS hl
  have hD0 : ∀ σ1 : ST, va_D A (wB a k σ1) := fun σ1 => wB_D hD
  unfold f_X11_elseOf_121 at h
  refine lv_istore_n (lv' := [(3, .int y0), (0, .ref (a 0))]) hx hb dX11_elseOf_121 rfl hl (by decide) rfl (fun ls hl => ?_)
  refine lv_aload_n hx hb dX11_elseOf_122 rfl (lv_at hl 1 rfl) ?_
  obtain ⟨q1, hc, h⟩ := ib h
  have hF := va_frees hD hS hA
  refine va_callv (va_runV (As := []) (rest := []) ⟨hx, hb, hml, hown, hts⟩ (s_X11_go hc) (cwV 0 hts (gV mw_30_12 mw_30_13 mw_30_14 mw_0_15 mw_54_6) rfl rfl rfl (by decide +kernel) ⟨(Nat.le_of_ble_eq_true rfl), (Nat.le_of_ble_eq_true rfl)⟩) (vV (ci := 11) (q0 := 0) hK hP hD hN rfl gB_0) rfl rfl hl.1 rfl (lv_room (Nat.le_of_ble_eq_true rfl)) dX11_elseOf_123 ⟨by show κ + 0 ≤ T; omega, by show 6 * κ + 0 ≤ 6 * T; omega⟩) hS (fun q _ h => hF q h) hF (fun u t H locs ht hvm hw hB _ _ hS => ?_)
  replace hP : va_P (dC, dI) vwCl (wB a k q1) H := by rw [← ht]; exact hB.1
  replace hD := hD0 (q1)
  clear hB hF
  refine lv_iload_n hx hb dX11_elseOf_126 rfl (lv_at hl 0 rfl) ?_
  refine lv_if_eq (tgt := 139) hx hb dX11_elseOf_127 (by decide) (fun hc => ?_) (fun hc => ?_)
  · replace h := ip hc h
    exact b_X11_elseOf_139 hC h hκ _ _ _ hP hD hS (lv_sub hl [] rfl)
  · replace h := iq hc h
    refine lv_aload_n hx hb dX11_elseOf_130 rfl (lv_at hl 1 rfl) ?_
    refine lv_bipush (v := 93) hx hb dX11_elseOf_131 (by decide) ?_
    obtain ⟨q3, hc, h⟩ := ib h
    have hF := va_frees hD hS hA
    refine va_calli (va_runV (As := [.int 93]) (rest := []) ⟨hx, hb, hml, hown, hts⟩ (s_X11_mark hc) (cwV 1 hts (gV mw_32_13 mw_32_14 mw_32_15 mw_0_15 mw_54_11) rfl rfl rfl (by decide +kernel) ⟨(Nat.le_of_ble_eq_true rfl), (Nat.le_of_ble_eq_true rfl)⟩) (vV (ci := 11) (q0 := 0) hK hP hD hN rfl gB_0) rfl rfl hl.1 rfl (lv_room (Nat.le_of_ble_eq_true rfl)) dX11_elseOf_133 ⟨by show κ + 0 ≤ T; omega, by show 6 * κ + 0 ≤ 6 * T; omega⟩) hS (fun q _ h => hF q h) hF (fun r4 u t H locs ht hvm hw hB _ _ hS => ?_)
    obtain rfl : r4 = q3.1 := hw
    replace hP : va_P (dC, dI) vwCl (wB a k q3.2) H := by rw [← ht]; exact hB.1
    replace hD := hD0 (q3.2)
    clear hB hF
    refine lv_if_eq (tgt := 143) hx hb dX11_elseOf_136 (by decide) (fun hc => ?_) (fun hc => ?_)
    · replace h := ip hc h
      refine lv_iconst (v := 0) hx hb dX11_elseOf_143 (by decide) ?_
      obtain ⟨rfl, rfl⟩ := Prod.mk.inj (Option.some.inj h)
      subst hκ
      exact W.zret hx hb hr rfl (fun t ht hW => ⟨⟨_, (), rfl, rfl, ⟨by rw [ht]; exact hP, va_K.moved hW.alike hK, hD⟩⟩, hS.F ht⟩) hS.2.2 dX11_elseOf_144
    · replace h := iq hc h
      exact b_X11_elseOf_139 hC h hκ _ _ _ hP hD hS (lv_sub hl [] rfl)

set_option maxRecDepth 100000 in
set_option maxHeartbeats 4000000 in
theorem b_X11_elseOf_106 {p : Program} {l : Launch} {e : Env} {s : State} {m : MethodId} {args : Array Value} {below : List Frame} {meth : Method} {c : Code} {dC : Nat → ClassId} {dI : Nat → Nat → Nat} {a : Nat → Nat} {k : Nat → ClassId} {A : Nat → Prop} {q : Int32 × ST} {T r κ : Nat} (hC : CxB p s m args meth c dC dI k A cX11_elseOf RX11 (some .boolean) 4)   {y0 : Int32} {y1 : Int32} {σ : ST} (h : f_X11_elseOf_106  y0 y1 σ = some (q, r)) (hκ : κ + r = T) : GkB p l e ({ frames := 6, cells := T, slots := 6 * T, locals := 129 } : Room) s m args below meth c (MQ below (qBi dC dI a k A q) args s T (6 * T) A) dC dI a k A 4 106 κ σ [(0, .ref (a 0))] [.int y0, .int y1, .ref (a 19)] := by
  have hC0 := hC
  obtain ⟨hx, hb, hr, hml, hown, hts, hlocks, hA, hN, hK⟩ := hC0
  intro H locs ls hP hD hS hl
  have hD0 : ∀ σ1 : ST, va_D A (wB a k σ1) := fun σ1 => wB_D hD
  unfold f_X11_elseOf_106 at h
  obtain ⟨hg1, h⟩ := ig h
  refine va_iast hx hb hK hP hD hS 19 18 gB_19 yB_19 (vp_in_iff.mpr hg1) dX11_elseOf_106 (fun H locs hP hD hS => ?_)
  replace hP := uB_19 hP
  replace hD := hD0 ((stI σ 19 y1.toNatClampNeg y0))
  refine lv_aload_n hx hb dX11_elseOf_107 rfl (lv_at hl 0 rfl) ?_
  refine va_get (D := (dC, dI)) (ci := 11) (C := RX11) (T := TX11) (N := 95) hx hb hts inlX11 hown hK hP 0 gB_0 rfl 13 (by decide) (hts (.fieldLink RX11 253 "ShapeReaderModel" "sign" "I") mw_29_26) (fun _ h9 => h9) rfl dX11_elseOf_108 ?_
  refine lv_bipush (v := 91) hx hb dX11_elseOf_111 (by decide) ?_
  refine lv_icmp_ne (tgt := 120) hx hb dX11_elseOf_113 (by decide) (fun hc => ?_) (fun hc => ?_)
  · replace h := iq hc h
    refine lv_iconst (v := 0) hx hb dX11_elseOf_120 (by decide) ?_
    exact b_X11_elseOf_121 hC h hκ _ _ _ hP hD hS (lv_sub hl [0] rfl)
  · replace h := ip hc h
    refine lv_iconst (v := 1) hx hb dX11_elseOf_116 (by decide) ?_
    refine lv_goto (tgt := 121) hx hb dX11_elseOf_117 (by decide) ?_
    exact b_X11_elseOf_121 hC h hκ _ _ _ hP hD hS (lv_sub hl [0] rfl)

set_option maxRecDepth 100000 in
set_option maxHeartbeats 4000000 in
theorem b_X11_elseOf_84 {p : Program} {l : Launch} {e : Env} {s : State} {m : MethodId} {args : Array Value} {below : List Frame} {meth : Method} {c : Code} {dC : Nat → ClassId} {dI : Nat → Nat → Nat} {a : Nat → Nat} {k : Nat → ClassId} {A : Nat → Prop} {q : Int32 × ST} {T r κ : Nat} (hC : CxB p s m args meth c dC dI k A cX11_elseOf RX11 (some .boolean) 4)   {x1 : Int32} {y0 : Int64} {y1 : Int32} {σ : ST} (h : f_X11_elseOf_84  x1 y0 y1 σ = some (q, r)) (hκ : κ + r = T) : GkB p l e ({ frames := 6, cells := T, slots := 6 * T, locals := 129 } : Room) s m args below meth c (MQ below (qBi dC dI a k A q) args s T (6 * T) A) dC dI a k A 4 84 κ σ [(0, .ref (a 0)), (1, .int x1)] [.long y0, .int y1, .ref (a 18)] := by
  have hC0 := hC
  obtain ⟨hx, hb, hr, hml, hown, hts, hlocks, hA, hN, hK⟩ := hC0
  intro H locs ls hP hD hS hl
  have hD0 : ∀ σ1 : ST, va_D A (wB a k σ1) := fun σ1 => wB_D hD
  unfold f_X11_elseOf_84 at h
  obtain ⟨hg1, h⟩ := ig h
  refine va_last hx hb hK hP hD hS 18 17 gB_18 yB_18 (vp_in_iff.mpr hg1) dX11_elseOf_84 (fun H locs hP hD hS => ?_)
  replace hP := uB_18 hP
  replace hD := hD0 ((stL σ 18 y1.toNatClampNeg y0))
  refine lv_aload_n hx hb dX11_elseOf_85 rfl (lv_at hl 0 rfl) ?_
  refine va_get (D := (dC, dI)) (ci := 11) (C := RX11) (T := TX11) (N := 95) hx hb hts inlX11 hown hK hP 0 gB_0 rfl 31 (by decide) (hts (.fieldLink RX11 67 "ShapeReaderModel" "elseLetters" "[I") mw_27_15) (fun _ h9 => h9) rfl dX11_elseOf_86 ?_
  refine lv_iload_n hx hb dX11_elseOf_89 rfl (lv_at hl 1 rfl) ?_
  refine lv_aload_n hx hb dX11_elseOf_90 rfl (lv_at hl 0 rfl) ?_
  refine va_get (D := (dC, dI)) (ci := 11) (C := RX11) (T := TX11) (N := 95) hx hb hts inlX11 hown hK hP 0 gB_0 rfl 6 (by decide) (hts (.fieldLink RX11 244 "ShapeReaderModel" "token" "I") mw_29_21) (fun _ h9 => h9) rfl dX11_elseOf_91 ?_
  refine lv_iconst (v := 3) hx hb dX11_elseOf_94 (by decide) ?_
  refine lv_icmp_ne (tgt := 105) hx hb dX11_elseOf_95 (by decide) (fun hc => ?_) (fun hc => ?_)
  · replace h := iq hc h
    refine lv_iconst (v := 0) hx hb dX11_elseOf_105 (by decide) ?_
    exact b_X11_elseOf_106 hC h hκ _ _ _ hP hD hS (lv_sub hl [0] rfl)
  · replace h := ip hc h
    refine lv_aload_n hx hb dX11_elseOf_98 rfl (lv_at hl 0 rfl) ?_
    refine va_get (D := (dC, dI)) (ci := 11) (C := RX11) (T := TX11) (N := 95) hx hb hts inlX11 hown hK hP 0 gB_0 rfl 8 (by decide) (hts (.fieldLink RX11 208 "ShapeReaderModel" "letterMany" "I") mw_29_5) (fun _ h9 => h9) rfl dX11_elseOf_99 ?_
    refine lv_goto (tgt := 106) hx hb dX11_elseOf_102 (by decide) ?_
    exact b_X11_elseOf_106 hC h hκ _ _ _ hP hD hS (lv_sub hl [0] rfl)

set_option maxRecDepth 100000 in
set_option maxHeartbeats 4000000 in
theorem b_X11_elseOf_e {p : Program} {l : Launch} {e : Env} {s : State} {m : MethodId} {args : Array Value} {below : List Frame} {meth : Method} {c : Code} {dC : Nat → ClassId} {dI : Nat → Nat → Nat} {a : Nat → Nat} {k : Nat → ClassId} {A : Nat → Prop} {q : Int32 × ST} {T r : Nat} (hC : CxB p s m args meth c dC dI k A cX11_elseOf RX11 (some .boolean) 4)   {p0 : Int32} {σ : ST} (h : f_X11_elseOf  p0 σ = some (q, r)) (hκ : 0 + r = T) : GkB p l e ({ frames := 6, cells := T, slots := 6 * T, locals := 129 } : Room) s m args below meth c (MQ below (qBi dC dI a k A q) args s T (6 * T) A) dC dI a k A 4 0 0 σ (lv_args 0 [.ref (a 0), .int p0]) [] := by
  have hC0 := hC
  obtain ⟨hx, hb, hr, hml, hown, hts, hlocks, hA, hN, hK⟩ := hC0
  intro H locs ls hP hD hS hl
  have hD0 : ∀ σ1 : ST, va_D A (wB a k σ1) := fun σ1 => wB_D hD
  replace hl : lv_has ls 4 [(0, .ref (a 0)), (1, .int p0)] := hl
  unfold f_X11_elseOf at h
  refine lv_aload_n hx hb dX11_elseOf_0 rfl (lv_at hl 0 rfl) ?_
  obtain ⟨q1, hc, h⟩ := ib h
  obtain ⟨r2, h, hz⟩ := acE h
  have hF := va_frees hD hS hA
  refine va_calli (va_runV (As := []) (rest := []) ⟨hx, hb, hml, hown, hts⟩ (s_X11_isLiteral (q := q1.1) (r := q1.2) hc) (cwV 0 hts (gV mw_32_2 mw_32_3 mw_32_4 mw_0_15 mw_54_25) rfl rfl rfl (by decide +kernel) ⟨(Nat.le_of_ble_eq_true rfl), (Nat.le_of_ble_eq_true rfl)⟩) (vV (ci := 11) (q0 := 0) hK hP hD hN rfl gB_0) rfl rfl hl.1 rfl (lv_room (Nat.le_of_ble_eq_true rfl)) dX11_elseOf_1 ⟨by show 0 + q1.2 ≤ T; omega, by show 6 * 0 + 6 * q1.2 ≤ 6 * T; omega⟩) hS (fun q _ h => hF q h) hF (fun r2 u t H locs ht hvm hw hB _ _ hS => ?_)
  obtain rfl : r2 = q1.1.1 := hw
  replace hκ : (0 + q1.2) + r2 = T := by omega
  clear hz
  refine W.widen (k := (0 + q1.2)) (n := 6 * (0 + q1.2)) (Nat.le_refl _) (by omega) ?_
  replace hP : va_P (dC, dI) vwCl (wB a k q1.1.2) H := by rw [← ht]; exact hB.1
  replace hD := hD0 (q1.1.2)
  clear hB hF
  refine lv_if_ne (tgt := 13) hx hb dX11_elseOf_4 (by decide) (fun hc => ?_) (fun hc => ?_)
  · replace h := iq hc h
    refine lv_aload_n hx hb dX11_elseOf_13 rfl (lv_at hl 0 rfl) ?_
    refine va_get (D := (dC, dI)) (ci := 11) (C := RX11) (T := TX11) (N := 95) hx hb hts inlX11 hown hK hP 0 gB_0 rfl 27 (by decide) (hts (.fieldLink RX11 54 "ShapeReaderModel" "fieldType" "[I") mw_27_11) (fun _ h9 => h9) rfl dX11_elseOf_14 ?_
    refine lv_iload_n hx hb dX11_elseOf_17 rfl (lv_at hl 1 rfl) ?_
    obtain ⟨hg3, h⟩ := ig h
    refine va_iald hx hb hK hP 15 14 gB_15 yB_15 (vp_in_iff.mpr hg3) dX11_elseOf_18 ?_
    refine lv_aload_n hx hb dX11_elseOf_19 rfl (lv_at hl 0 rfl) ?_
    refine va_get (D := (dC, dI)) (ci := 11) (C := RX11) (T := TX11) (N := 95) hx hb hts inlX11 hown hK hP 0 gB_0 rfl 14 (by decide) (hts (.fieldLink RX11 13 "ShapeReaderModel" "typeSort" "[I") mw_26_28) (fun _ h9 => h9) rfl dX11_elseOf_20 ?_
    refine lv_aload_n hx hb dX11_elseOf_23 rfl (lv_at hl 0 rfl) ?_
    refine va_get (D := (dC, dI)) (ci := 11) (C := RX11) (T := TX11) (N := 95) hx hb hts inlX11 hown hK hP 0 gB_0 rfl 17 (by decide) (hts (.fieldLink RX11 23 "ShapeReaderModel" "branch" "[I") mw_27_1) (fun _ h9 => h9) rfl dX11_elseOf_24 ?_
    obtain ⟨q4, hc, h⟩ := ib h
    have hF := va_frees hD hS hA
    refine va_calli (va_runS (As := [.int (q1.1.2.1 15 p0.toNatClampNeg), .ref (a 2), .ref (a 5)]) (rest := []) ⟨hx, hb, hml, hown, hts⟩ (s_X11_firstOf hc) (va_cwS 3 hts (gS mw_32_5 mw_32_6 mw_0_15 mw_54_27) rfl rfl rfl (by decide +kernel) ⟨(Nat.le_of_ble_eq_true rfl), (Nat.le_of_ble_eq_true rfl)⟩) (vS hK hP hD hN) rfl rfl hl.1 rfl (lv_room (Nat.le_of_ble_eq_true rfl)) dX11_elseOf_27 ⟨by show (0 + q1.2) + 0 ≤ T; omega, by show 6 * (0 + q1.2) + 0 ≤ 6 * T; omega⟩) hS (fun q _ h => hF q h) hF (fun r5 u t H locs ht hvm hw hB _ _ hS => ?_)
    obtain rfl : r5 = q4.1 := hw
    replace hP : va_P (dC, dI) vwCl (wB a k q4.2) H := by rw [← ht]; exact hB.1
    replace hD := hD0 (q4.2)
    clear hB hF
    refine lv_istore_n (lv' := [(2, .int q4.1), (0, .ref (a 0)), (1, .int p0)]) hx hb dX11_elseOf_30 rfl hl (by decide) rfl (fun ls hl => ?_)
    refine lv_aload_n hx hb dX11_elseOf_31 rfl (lv_at hl 1 rfl) ?_
    refine lv_iload_n hx hb dX11_elseOf_32 rfl (lv_at hl 0 rfl) ?_
    obtain ⟨q6, hc, h⟩ := ib h
    obtain ⟨r2, h, hz⟩ := acE h
    have hF := va_frees hD hS hA
    refine va_calli (va_runV (As := [.int q4.1]) (rest := []) ⟨hx, hb, hml, hown, hts⟩ (s_X11_fits (q := q6.1) (r := q6.2) hc) (cwV 1 hts (gV mw_32_7 mw_32_8 mw_32_9 mw_0_15 mw_54_24) rfl rfl rfl (by decide +kernel) ⟨(Nat.le_of_ble_eq_true rfl), (Nat.le_of_ble_eq_true rfl)⟩) (vV (ci := 11) (q0 := 0) hK hP hD hN rfl gB_0) rfl rfl hl.1 rfl (lv_room (Nat.le_of_ble_eq_true rfl)) dX11_elseOf_33 ⟨by show (0 + q1.2) + q6.2 ≤ T; omega, by show 6 * (0 + q1.2) + 6 * q6.2 ≤ 6 * T; omega⟩) hS (fun q _ h => hF q h) hF (fun r7 u t H locs ht hvm hw hB _ _ hS => ?_)
    obtain rfl : r7 = q6.1.1 := hw
    replace hκ : ((0 + q1.2) + q6.2) + r2 = T := by omega
    clear hz
    refine W.widen (k := ((0 + q1.2) + q6.2)) (n := 6 * ((0 + q1.2) + q6.2)) (Nat.le_refl _) (by omega) ?_
    replace hP : va_P (dC, dI) vwCl (wB a k q6.1.2) H := by rw [← ht]; exact hB.1
    replace hD := hD0 (q6.1.2)
    clear hB hF
    refine lv_if_ne (tgt := 45) hx hb dX11_elseOf_36 (by decide) (fun hc => ?_) (fun hc => ?_)
    · replace h := iq hc h
      refine lv_aload_n hx hb dX11_elseOf_45 rfl (lv_at hl 1 rfl) ?_
      refine va_get (D := (dC, dI)) (ci := 11) (C := RX11) (T := TX11) (N := 95) hx hb hts inlX11 hown hK hP 0 gB_0 rfl 28 (by decide) (hts (.fieldLink RX11 57 "ShapeReaderModel" "hasElse" "[Z") mw_27_12) (fun _ h9 => h9) rfl dX11_elseOf_46 ?_
      refine lv_iload_n hx hb dX11_elseOf_49 rfl (lv_at hl 2 rfl) ?_
      refine lv_iconst (v := 1) hx hb dX11_elseOf_50 (by decide) ?_
      refine va_zast hx hb hK hP hD hS 16 15 gB_16 yB_16 (vp_in_iff.mpr hg3) dX11_elseOf_51 (fun H locs hP hD hS => ?_)
      replace hP := uB_16 hP
      replace hD := hD0 ((stI q6.1.2 16 p0.toNatClampNeg (vp_nar .boolean 1)))
      refine lv_aload_n hx hb dX11_elseOf_52 rfl (lv_at hl 1 rfl) ?_
      refine va_get (D := (dC, dI)) (ci := 11) (C := RX11) (T := TX11) (N := 95) hx hb hts inlX11 hown hK hP 0 gB_0 rfl 29 (by decide) (hts (.fieldLink RX11 61 "ShapeReaderModel" "elseBits" "[J") mw_27_13) (fun _ h9 => h9) rfl dX11_elseOf_53 ?_
      refine lv_iload_n hx hb dX11_elseOf_56 rfl (lv_at hl 2 rfl) ?_
      refine lv_aload_n hx hb dX11_elseOf_57 rfl (lv_at hl 1 rfl) ?_
      refine lv_iload_n hx hb dX11_elseOf_58 rfl (lv_at hl 0 rfl) ?_
      obtain ⟨q8, hc, h⟩ := ib h
      obtain ⟨r2, h, hz⟩ := acE h
      have hF := va_frees hD hS hA
      refine va_calll (va_runV (As := [.int q4.1]) (rest := [.int p0, .ref (a 17)]) ⟨hx, hb, hml, hown, hts⟩ (s_X11_bitsOf (q := q8.1) (r := q8.2) hc) (cwV 1 hts (gV mw_32_10 mw_32_11 mw_32_12 mw_0_15 mw_54_26) rfl rfl rfl (by decide +kernel) ⟨(Nat.le_of_ble_eq_true rfl), (Nat.le_of_ble_eq_true rfl)⟩) (vV (ci := 11) (q0 := 0) hK hP hD hN rfl gB_0) rfl rfl hl.1 rfl (lv_room (Nat.le_of_ble_eq_true rfl)) dX11_elseOf_59 ⟨by show ((0 + q1.2) + q6.2) + q8.2 ≤ T; omega, by show 6 * ((0 + q1.2) + q6.2) + 6 * q8.2 ≤ 6 * T; omega⟩) hS (fun q _ h => hF q h) hF (fun r9 u t H locs ht hvm hw hB _ _ hS => ?_)
      obtain rfl : r9 = q8.1.1 := hw
      replace hκ : (((0 + q1.2) + q6.2) + q8.2) + r2 = T := by omega
      clear hz
      refine W.widen (k := (((0 + q1.2) + q6.2) + q8.2)) (n := 6 * (((0 + q1.2) + q6.2) + q8.2)) (Nat.le_refl _) (by omega) ?_
      replace hP : va_P (dC, dI) vwCl (wB a k q8.1.2) H := by rw [← ht]; exact hB.1
      replace hD := hD0 (q8.1.2)
      clear hB hF
      refine va_last hx hb hK hP hD hS 17 16 gB_17 yB_17 (vp_in_iff.mpr hg3) dX11_elseOf_62 (fun H locs hP hD hS => ?_)
      replace hP := uB_17 hP
      replace hD := hD0 ((stL q8.1.2 17 p0.toNatClampNeg q8.1.1))
      refine lv_aload_n hx hb dX11_elseOf_63 rfl (lv_at hl 1 rfl) ?_
      refine va_get (D := (dC, dI)) (ci := 11) (C := RX11) (T := TX11) (N := 95) hx hb hts inlX11 hown hK hP 0 gB_0 rfl 30 (by decide) (hts (.fieldLink RX11 64 "ShapeReaderModel" "elseText" "[J") mw_27_14) (fun _ h9 => h9) rfl dX11_elseOf_64 ?_
      refine lv_iload_n hx hb dX11_elseOf_67 rfl (lv_at hl 2 rfl) ?_
      refine lv_aload_n hx hb dX11_elseOf_68 rfl (lv_at hl 1 rfl) ?_
      refine va_get (D := (dC, dI)) (ci := 11) (C := RX11) (T := TX11) (N := 95) hx hb hts inlX11 hown hK hP 0 gB_0 rfl 6 (by decide) (hts (.fieldLink RX11 244 "ShapeReaderModel" "token" "I") mw_29_21) (fun _ h9 => h9) rfl dX11_elseOf_69 ?_
      refine lv_iconst (v := 3) hx hb dX11_elseOf_72 (by decide) ?_
      refine lv_icmp_ne (tgt := 83) hx hb dX11_elseOf_73 (by decide) (fun hc => ?_) (fun hc => ?_)
      · replace h := iq hc h
        refine lv_lconst (v := 0) hx hb dX11_elseOf_83 (by decide) ?_
        exact b_X11_elseOf_84 hC h hκ _ _ _ hP hD hS (lv_sub hl [1, 2] rfl)
      · replace h := ip hc h
        refine lv_aload_n hx hb dX11_elseOf_76 rfl (lv_at hl 1 rfl) ?_
        refine va_get (D := (dC, dI)) (ci := 11) (C := RX11) (T := TX11) (N := 95) hx hb hts inlX11 hown hK hP 0 gB_0 rfl 7 (by decide) (hts (.fieldLink RX11 204 "ShapeReaderModel" "letters" "J") mw_29_4) (fun _ h9 => h9) rfl dX11_elseOf_77 ?_
        refine lv_goto (tgt := 84) hx hb dX11_elseOf_80 (by decide) ?_
        exact b_X11_elseOf_84 hC h hκ _ _ _ hP hD hS (lv_sub hl [1, 2] rfl)
    · replace h := ip hc h
      refine lv_aload_n hx hb dX11_elseOf_39 rfl (lv_at hl 1 rfl) ?_
      refine lv_iconst (v := 2) hx hb dX11_elseOf_40 (by decide) ?_
      obtain ⟨q10, hc, h⟩ := ib h
      have hF := va_frees hD hS hA
      refine va_calli (va_runV (As := [.int 2]) (rest := []) ⟨hx, hb, hml, hown, hts⟩ (s_X11_wrongHere hc) (cwV 1 hts (gV mw_30_9 mw_30_10 mw_30_11 mw_0_15 mw_54_10) rfl rfl rfl (by decide +kernel) ⟨(Nat.le_of_ble_eq_true rfl), (Nat.le_of_ble_eq_true rfl)⟩) (vV (ci := 11) (q0 := 0) hK hP hD hN rfl gB_0) rfl rfl hl.1 rfl (lv_room (Nat.le_of_ble_eq_true rfl)) dX11_elseOf_41 ⟨by show ((0 + q1.2) + q6.2) + 0 ≤ T; omega, by show 6 * ((0 + q1.2) + q6.2) + 0 ≤ 6 * T; omega⟩) hS (fun q _ h => hF q h) hF (fun r11 u t H locs ht hvm hw hB _ _ hS => ?_)
      obtain rfl : r11 = q10.1 := hw
      replace hP : va_P (dC, dI) vwCl (wB a k q10.2) H := by rw [← ht]; exact hB.1
      replace hD := hD0 (q10.2)
      clear hB hF
      obtain ⟨hg, h⟩ := ig h
      obtain ⟨rfl, rfl⟩ := Prod.mk.inj (Option.some.inj h)
      subst hκ
      exact W.zret hx hb hr (zn hg) (fun t ht hW => ⟨⟨_, (), rfl, rfl, ⟨by rw [ht]; exact hP, va_K.moved hW.alike hK, hD⟩⟩, hS.F ht⟩) hS.2.2 dX11_elseOf_44
  · replace h := ip hc h
    refine lv_aload_n hx hb dX11_elseOf_7 rfl (lv_at hl 0 rfl) ?_
    refine lv_iconst (v := 1) hx hb dX11_elseOf_8 (by decide) ?_
    obtain ⟨q12, hc, h⟩ := ib h
    have hF := va_frees hD hS hA
    refine va_calli (va_runV (As := [.int 1]) (rest := []) ⟨hx, hb, hml, hown, hts⟩ (s_X11_wrongHere hc) (cwV 1 hts (gV mw_30_9 mw_30_10 mw_30_11 mw_0_15 mw_54_10) rfl rfl rfl (by decide +kernel) ⟨(Nat.le_of_ble_eq_true rfl), (Nat.le_of_ble_eq_true rfl)⟩) (vV (ci := 11) (q0 := 0) hK hP hD hN rfl gB_0) rfl rfl hl.1 rfl (lv_room (Nat.le_of_ble_eq_true rfl)) dX11_elseOf_9 ⟨by show (0 + q1.2) + 0 ≤ T; omega, by show 6 * (0 + q1.2) + 0 ≤ 6 * T; omega⟩) hS (fun q _ h => hF q h) hF (fun r13 u t H locs ht hvm hw hB _ _ hS => ?_)
    obtain rfl : r13 = q12.1 := hw
    replace hP : va_P (dC, dI) vwCl (wB a k q12.2) H := by rw [← ht]; exact hB.1
    replace hD := hD0 (q12.2)
    clear hB hF
    obtain ⟨hg, h⟩ := ig h
    obtain ⟨rfl, rfl⟩ := Prod.mk.inj (Option.some.inj h)
    subst hκ
    exact W.zret hx hb hr (zn hg) (fun t ht hW => ⟨⟨_, (), rfl, rfl, ⟨by rw [ht]; exact hP, va_K.moved hW.alike hK, hD⟩⟩, hS.F ht⟩) hS.2.2 dX11_elseOf_12

theorem s_X11_elseOf {l : Launch} {dC : Nat → ClassId} {dI : Nat → Nat → Nat} {a : Nat → Nat} {k : Nat → ClassId} {sz : Nat} {p0 : Int32} {σ : ST} {q : Int32 × ST} {r : Nat} (h : f_X11_elseOf  p0 σ = some (q, r)) : Met l yX11_elseOf (.code yX11_elseOf cX11_elseOf 4 (some .boolean) :: pw) ({ frames := 6, cells := r, slots := 6 * r, locals := 129 } : Room) (va_Pc [.ref (a 0), .int p0] (vPre dC dI (wB a k σ) (tB k) sz)) (qBi dC dI a k (va_A (wB a k σ) sz) q) r (6 * r) (va_A (wB a k σ) sz) := mekB (fun A => qBi dC dI a k A q) (plainFor_of_name (by decide)) (Nat.le_of_ble_eq_true rfl) (fun _ _ _ _ _ _ _ _ hC => b_X11_elseOf_e hC h (Nat.zero_add _))

def f_X11_recordOf_3  : Nat → Int32 → Int64 → Int32 → ST → Option (Int32 × ST)
  | 0, _, _, _, _ => none
  | n + 1, x1, x2, x4, σ => if 0 ≤ x1.toInt ∧ x1.toInt < 12 then (if (σ.1 8 x1.toNatClampNeg) ≤ x4 then (some ((-1), σ)) else (if 0 ≤ ((6 * x1) + x4).toInt ∧ ((6 * x1) + x4).toInt < 72 then (if (lg_cmp (σ.2.1 9 ((6 * x1) + x4).toNatClampNeg) x2) = 0 then (some (x4, σ)) else (f_X11_recordOf_3  n x1 x2 (x4 + 1) σ)) else none)) else none
def f_X11_recordOf (p0 : Int32) (p1 : Int64) (σ : ST) : Option (Int32 × ST) := f_X11_recordOf_3  FU p0 p1 0 σ

set_option maxRecDepth 100000 in
set_option maxHeartbeats 4000000 in
theorem b_X11_recordOf_3 {p : Program} {l : Launch} {e : Env} {s : State} {m : MethodId} {args : Array Value} {below : List Frame} {meth : Method} {c : Code} {dC : Nat → ClassId} {dI : Nat → Nat → Nat} {a : Nat → Nat} {k : Nat → ClassId} {A : Nat → Prop} {q : Int32 × ST} (hC : CxB p s m args meth c dC dI k A cX11_recordOf RX11 (some .int) 5)   : ∀ (n : Nat) (x1 : Int32) (x2 : Int64) (x4 : Int32) (σ : ST), f_X11_recordOf_3  n x1 x2 x4 σ = some q → GoB p l e ({ frames := 0, cells := 0, slots := 0, locals := 0 } : Room) s m args below meth c (MQ below (qBi dC dI a k A q) args s 0 0 A) dC dI a k A 5 3 σ [(0, .ref (a 0)), (1, .int x1), (2, .long x2), (4, .int x4)] [] := by
  intro n
  induction n with
  | zero =>
    intro x1 x2 x4 σ h
    rw [f_X11_recordOf_3] at h
    cases h
  | succ n ih =>
    intro x1 x2 x4 σ h
    have hC0 := hC
    obtain ⟨hx, hb, hr, hml, hown, hts, hlocks, hA, hN, hK⟩ := hC0
    intro H locs ls hP hD hS hl
    have hD0 : ∀ σ1 : ST, va_D A (wB a k σ1) := fun σ1 => wB_D hD
    rw [f_X11_recordOf_3] at h
    refine lv_iload hx hb dX11_recordOf_3 (lv_at hl 3 rfl) ?_
    refine lv_aload_n hx hb dX11_recordOf_5 rfl (lv_at hl 0 rfl) ?_
    refine va_get (D := (dC, dI)) (ci := 11) (C := RX11) (T := TX11) (N := 95) hx hb hts inlX11 hown hK hP 0 gB_0 rfl 20 (by decide) (hts (.fieldLink RX11 33 "ShapeReaderModel" "recordMany" "[I") mw_27_4) (fun _ h9 => h9) rfl dX11_recordOf_6 ?_
    refine lv_iload_n hx hb dX11_recordOf_9 rfl (lv_at hl 1 rfl) ?_
    obtain ⟨hg1, h⟩ := ig h
    refine va_iald hx hb hK hP 8 7 gB_8 yB_8 (vp_in_iff.mpr hg1) dX11_recordOf_10 ?_
    refine lv_icmp_ge (tgt := 40) hx hb dX11_recordOf_11 (by decide) (fun hc => ?_) (fun hc => ?_)
    · replace h := ip hc h
      refine lv_iconst (v := (-1)) hx hb dX11_recordOf_40 (by decide) ?_
      obtain rfl := Option.some.inj h
      exact W.iret hx hb hr (fun t ht hW => ⟨⟨_, (), rfl, rfl, ⟨by rw [ht]; exact hP, va_K.moved hW.alike hK, hD⟩⟩, hS.F ht⟩) hS.2.2 dX11_recordOf_41
    · replace h := iq hc h
      refine lv_aload_n hx hb dX11_recordOf_14 rfl (lv_at hl 0 rfl) ?_
      refine va_get (D := (dC, dI)) (ci := 11) (C := RX11) (T := TX11) (N := 95) hx hb hts inlX11 hown hK hP 0 gB_0 rfl 21 (by decide) (hts (.fieldLink RX11 36 "ShapeReaderModel" "recordName" "[J") mw_27_5) (fun _ h9 => h9) rfl dX11_recordOf_15 ?_
      refine lv_bipush (v := 6) hx hb dX11_recordOf_18 (by decide) ?_
      refine lv_iload_n hx hb dX11_recordOf_20 rfl (lv_at hl 1 rfl) ?_
      refine lv_imul hx hb dX11_recordOf_21 ?_
      refine lv_iload hx hb dX11_recordOf_22 (lv_at hl 3 rfl) ?_
      refine lv_iadd hx hb dX11_recordOf_24 ?_
      obtain ⟨hg2, h⟩ := ig h
      refine va_lald hx hb hK hP 9 8 gB_9 yB_9 (vp_in_iff.mpr hg2) dX11_recordOf_25 ?_
      refine lv_lload_n hx hb dX11_recordOf_26 rfl (lv_at hl 2 rfl) ?_
      refine W.lcmp hx hb dX11_recordOf_27 ?_
      refine lv_if_ne (tgt := 34) hx hb dX11_recordOf_28 (by decide) (fun hc => ?_) (fun hc => ?_)
      · replace h := iq hc h
        refine lv_iinc (v := (x4 + 1)) (lv' := [(4, .int (x4 + 1)), (0, .ref (a 0)), (1, .int x1), (2, .long x2)]) hx hb dX11_recordOf_34 hl (k := 3) rfl rfl (by decide) rfl (fun ls hl => ?_)
        refine lv_goto (tgt := 3) hx hb dX11_recordOf_37 (by decide) ?_
        exact ih _ _ _ _ h _ _ _ hP hD hS (lv_sub hl [1, 2, 3, 0] rfl)
      · replace h := ip hc h
        refine lv_iload hx hb dX11_recordOf_31 (lv_at hl 3 rfl) ?_
        obtain rfl := Option.some.inj h
        exact W.iret hx hb hr (fun t ht hW => ⟨⟨_, (), rfl, rfl, ⟨by rw [ht]; exact hP, va_K.moved hW.alike hK, hD⟩⟩, hS.F ht⟩) hS.2.2 dX11_recordOf_33

set_option maxRecDepth 100000 in
set_option maxHeartbeats 4000000 in
theorem b_X11_recordOf_e {p : Program} {l : Launch} {e : Env} {s : State} {m : MethodId} {args : Array Value} {below : List Frame} {meth : Method} {c : Code} {dC : Nat → ClassId} {dI : Nat → Nat → Nat} {a : Nat → Nat} {k : Nat → ClassId} {A : Nat → Prop} {q : Int32 × ST} (hC : CxB p s m args meth c dC dI k A cX11_recordOf RX11 (some .int) 5)   {p0 : Int32} {p1 : Int64} {σ : ST} (h : f_X11_recordOf  p0 p1 σ = some q) : GoB p l e ({ frames := 0, cells := 0, slots := 0, locals := 0 } : Room) s m args below meth c (MQ below (qBi dC dI a k A q) args s 0 0 A) dC dI a k A 5 0 σ (lv_args 0 [.ref (a 0), .int p0, .long p1]) [] := by
  have hC0 := hC
  obtain ⟨hx, hb, hr, hml, hown, hts, hlocks, hA, hN, hK⟩ := hC0
  intro H locs ls hP hD hS hl
  have hD0 : ∀ σ1 : ST, va_D A (wB a k σ1) := fun σ1 => wB_D hD
  replace hl : lv_has ls 5 [(0, .ref (a 0)), (1, .int p0), (2, .long p1)] := hl
  unfold f_X11_recordOf at h
  refine lv_iconst (v := 0) hx hb dX11_recordOf_0 (by decide) ?_
  refine lv_istore (lv' := [(4, .int 0), (0, .ref (a 0)), (1, .int p0), (2, .long p1)]) hx hb dX11_recordOf_1 hl (by decide) rfl (fun ls hl => ?_)
  exact b_X11_recordOf_3 hC FU _ _ _ _ h _ _ _ hP hD hS (lv_sub hl [1, 2, 3, 0] rfl)

theorem s_X11_recordOf {l : Launch} {dC : Nat → ClassId} {dI : Nat → Nat → Nat} {a : Nat → Nat} {k : Nat → ClassId} {sz : Nat} {p0 : Int32} {p1 : Int64} {σ : ST} {q : Int32 × ST} (h : f_X11_recordOf  p0 p1 σ = some q) : Met l yX11_recordOf (.code yX11_recordOf cX11_recordOf 5 (some .int) :: pw) ({ frames := 0, cells := 0, slots := 0, locals := 0 } : Room) (va_Pc [.ref (a 0), .int p0, .long p1] (vPre dC dI (wB a k σ) (tB k) sz)) (qBi dC dI a k (va_A (wB a k σ) sz) q) 0 0 (va_A (wB a k σ) sz) := metB (fun A => qBi dC dI a k A q) (plainFor_of_name (by decide)) (Nat.le_of_ble_eq_true rfl) (fun _ _ _ _ _ _ _ _ hC => b_X11_recordOf_e hC h)

def f_X11_ends_59 (k2 : Int32 → Int32 → ST → Option (Int32 × ST)) (x1 : Int32) (x3 : Int32) (σ : ST) : Option (Int32 × ST) := k2 x1 (x3 + 1) σ
def f_X11_ends_2  : Nat → Int32 → Int32 → ST → Option (Int32 × ST)
  | 0, _, _, _ => none
  | n + 1, x1, x3, σ => if (σ.1 0 34) ≤ x3 then (some (1, σ)) else (if 0 ≤ x3.toInt ∧ x3.toInt < 800 then (if (σ.1 2 x3.toNatClampNeg) = 7 then ((f_X11_recordOf  x1 (σ.2.1 6 x3.toNatClampNeg) σ).bind fun q2 => if 0 ≤ ((stI q2.2 3 x3.toNatClampNeg q2.1).1 3 x3.toNatClampNeg) then (f_X11_ends_59 (f_X11_ends_2  n) x1 x3 (stI q2.2 3 x3.toNatClampNeg q2.1)) else ((f_X11_wrong  3 ((stI q2.2 3 x3.toNatClampNeg q2.1).1 7 x3.toNatClampNeg) (stI q2.2 3 x3.toNatClampNeg q2.1)).bind fun q4 => if q4.1 = 0 ∨ q4.1 = 1 then some (q4.1, q4.2) else none)) else (f_X11_ends_59 (f_X11_ends_2  n) x1 x3 σ)) else none)
def f_X11_ends (p0 : Int32) (p1 : Int32) (σ : ST) : Option (Int32 × ST) := f_X11_ends_2  FU p0 p1 σ

set_option maxRecDepth 100000 in
set_option maxHeartbeats 4000000 in
theorem b_X11_ends_59 {p : Program} {l : Launch} {e : Env} {s : State} {m : MethodId} {args : Array Value} {below : List Frame} {meth : Method} {c : Code} {dC : Nat → ClassId} {dI : Nat → Nat → Nat} {a : Nat → Nat} {k : Nat → ClassId} {A : Nat → Prop} {q : Int32 × ST} (hC : CxB p s m args meth c dC dI k A cX11_ends RX11 (some .boolean) 4)  {k2 : Int32 → Int32 → ST → Option (Int32 × ST)} (hk2 : ∀ (x1 : Int32) (x3 : Int32) (σ : ST), k2 x1 x3 σ = some q → GoB p l e ({ frames := 1, cells := 0, slots := 0, locals := 24 } : Room) s m args below meth c (MQ below (qBi dC dI a k A q) args s 0 0 A) dC dI a k A 4 2 σ [(0, .ref (a 0)), (1, .int x1), (3, .int x3)] []) {x1 : Int32} {x3 : Int32} {σ : ST} (h : f_X11_ends_59 k2 x1 x3 σ = some q) : GoB p l e ({ frames := 1, cells := 0, slots := 0, locals := 24 } : Room) s m args below meth c (MQ below (qBi dC dI a k A q) args s 0 0 A) dC dI a k A 4 59 σ [(0, .ref (a 0)), (1, .int x1), (3, .int x3)] [] := by
  have hC0 := hC
  obtain ⟨hx, hb, hr, hml, hown, hts, hlocks, hA, hN, hK⟩ := hC0
  intro H locs ls hP hD hS hl
  have hD0 : ∀ σ1 : ST, va_D A (wB a k σ1) := fun σ1 => wB_D hD
  unfold f_X11_ends_59 at h
  refine lv_iinc (v := (x3 + 1)) (lv' := [(3, .int (x3 + 1)), (0, .ref (a 0)), (1, .int x1)]) hx hb dX11_ends_59 hl (k := 2) rfl rfl (by decide) rfl (fun ls hl => ?_)
  refine lv_goto (tgt := 2) hx hb dX11_ends_62 (by decide) ?_
  exact hk2 _ _ _ h _ _ _ hP hD hS (lv_sub hl [1, 2, 0] rfl)

set_option maxRecDepth 100000 in
set_option maxHeartbeats 4000000 in
theorem b_X11_ends_2 {p : Program} {l : Launch} {e : Env} {s : State} {m : MethodId} {args : Array Value} {below : List Frame} {meth : Method} {c : Code} {dC : Nat → ClassId} {dI : Nat → Nat → Nat} {a : Nat → Nat} {k : Nat → ClassId} {A : Nat → Prop} {q : Int32 × ST} (hC : CxB p s m args meth c dC dI k A cX11_ends RX11 (some .boolean) 4)   : ∀ (n : Nat) (x1 : Int32) (x3 : Int32) (σ : ST), f_X11_ends_2  n x1 x3 σ = some q → GoB p l e ({ frames := 1, cells := 0, slots := 0, locals := 24 } : Room) s m args below meth c (MQ below (qBi dC dI a k A q) args s 0 0 A) dC dI a k A 4 2 σ [(0, .ref (a 0)), (1, .int x1), (3, .int x3)] [] := by
  intro n
  induction n with
  | zero =>
    intro x1 x3 σ h
    rw [f_X11_ends_2] at h
    cases h
  | succ n ih =>
    intro x1 x3 σ h
    have hC0 := hC
    obtain ⟨hx, hb, hr, hml, hown, hts, hlocks, hA, hN, hK⟩ := hC0
    intro H locs ls hP hD hS hl
    have hD0 : ∀ σ1 : ST, va_D A (wB a k σ1) := fun σ1 => wB_D hD
    rw [f_X11_ends_2] at h
    refine lv_iload_n hx hb dX11_ends_2 rfl (lv_at hl 2 rfl) ?_
    refine lv_aload_n hx hb dX11_ends_3 rfl (lv_at hl 0 rfl) ?_
    refine va_get (D := (dC, dI)) (ci := 11) (C := RX11) (T := TX11) (N := 95) hx hb hts inlX11 hown hK hP 0 gB_0 rfl 34 (by decide) (hts (.fieldLink RX11 318 "ShapeReaderModel" "types" "I") mw_31_20) (fun _ h9 => h9) rfl dX11_ends_4 ?_
    refine lv_icmp_ge (tgt := 65) hx hb dX11_ends_7 (by decide) (fun hc => ?_) (fun hc => ?_)
    · replace h := ip hc h
      refine lv_iconst (v := 1) hx hb dX11_ends_65 (by decide) ?_
      obtain rfl := Option.some.inj h
      exact W.zret hx hb hr rfl (fun t ht hW => ⟨⟨_, (), rfl, rfl, ⟨by rw [ht]; exact hP, va_K.moved hW.alike hK, hD⟩⟩, hS.F ht⟩) hS.2.2 dX11_ends_66
    · replace h := iq hc h
      refine lv_aload_n hx hb dX11_ends_10 rfl (lv_at hl 0 rfl) ?_
      refine va_get (D := (dC, dI)) (ci := 11) (C := RX11) (T := TX11) (N := 95) hx hb hts inlX11 hown hK hP 0 gB_0 rfl 14 (by decide) (hts (.fieldLink RX11 13 "ShapeReaderModel" "typeSort" "[I") mw_26_28) (fun _ h9 => h9) rfl dX11_ends_11 ?_
      refine lv_iload_n hx hb dX11_ends_14 rfl (lv_at hl 2 rfl) ?_
      obtain ⟨hg1, h⟩ := ig h
      refine va_iald hx hb hK hP 2 1 gB_2 yB_2 (vp_in_iff.mpr hg1) dX11_ends_15 ?_
      refine lv_bipush (v := 7) hx hb dX11_ends_16 (by decide) ?_
      refine lv_icmp_ne (tgt := 59) hx hb dX11_ends_18 (by decide) (fun hc => ?_) (fun hc => ?_)
      · replace h := iq hc h
        exact b_X11_ends_59 hC ih h _ _ _ hP hD hS (lv_sub hl [0, 1, 2] rfl)
      · replace h := ip hc h
        refine lv_aload_n hx hb dX11_ends_21 rfl (lv_at hl 0 rfl) ?_
        refine va_get (D := (dC, dI)) (ci := 11) (C := RX11) (T := TX11) (N := 95) hx hb hts inlX11 hown hK hP 0 gB_0 rfl 15 (by decide) (hts (.fieldLink RX11 17 "ShapeReaderModel" "typeArg" "[I") mw_26_29) (fun _ h9 => h9) rfl dX11_ends_22 ?_
        refine lv_iload_n hx hb dX11_ends_25 rfl (lv_at hl 2 rfl) ?_
        refine lv_aload_n hx hb dX11_ends_26 rfl (lv_at hl 0 rfl) ?_
        refine lv_iload_n hx hb dX11_ends_27 rfl (lv_at hl 1 rfl) ?_
        refine lv_aload_n hx hb dX11_ends_28 rfl (lv_at hl 0 rfl) ?_
        refine va_get (D := (dC, dI)) (ci := 11) (C := RX11) (T := TX11) (N := 95) hx hb hts inlX11 hown hK hP 0 gB_0 rfl 18 (by decide) (hts (.fieldLink RX11 26 "ShapeReaderModel" "typeName" "[J") mw_27_2) (fun _ h9 => h9) rfl dX11_ends_29 ?_
        refine lv_iload_n hx hb dX11_ends_32 rfl (lv_at hl 2 rfl) ?_
        refine va_lald hx hb hK hP 6 5 gB_6 yB_6 (vp_in_iff.mpr hg1) dX11_ends_33 ?_
        obtain ⟨q2, hc, h⟩ := ib h
        have hF := va_frees hD hS hA
        refine va_calli (va_runV (As := [.int x1, .long (σ.2.1 6 x3.toNatClampNeg)]) (rest := [.int x3, .ref (a 3)]) ⟨hx, hb, hml, hown, hts⟩ (s_X11_recordOf hc) (cwV 2 hts (gV mw_32_22 mw_32_23 mw_32_24 mw_0_15 mw_55_1) rfl rfl rfl (by decide +kernel) ⟨(Nat.le_of_ble_eq_true rfl), (Nat.le_of_ble_eq_true rfl)⟩) (vV (ci := 11) (q0 := 0) hK hP hD hN rfl gB_0) rfl rfl hl.1 rfl (lv_room (Nat.le_of_ble_eq_true rfl)) dX11_ends_34 ⟨(Nat.le_of_ble_eq_true rfl), (Nat.le_of_ble_eq_true rfl)⟩) hS (fun q _ h => hF q h) hF (fun r3 u t H locs ht hvm hw hB _ _ hS => ?_)
        obtain rfl : r3 = q2.1 := hw
        replace hP : va_P (dC, dI) vwCl (wB a k q2.2) H := by rw [← ht]; exact hB.1
        replace hD := hD0 (q2.2)
        clear hB hF
        refine va_iast hx hb hK hP hD hS 3 2 gB_3 yB_3 (vp_in_iff.mpr hg1) dX11_ends_37 (fun H locs hP hD hS => ?_)
        replace hP := uB_3 hP
        replace hD := hD0 ((stI q2.2 3 x3.toNatClampNeg q2.1))
        refine lv_aload_n hx hb dX11_ends_38 rfl (lv_at hl 0 rfl) ?_
        refine va_get (D := (dC, dI)) (ci := 11) (C := RX11) (T := TX11) (N := 95) hx hb hts inlX11 hown hK hP 0 gB_0 rfl 15 (by decide) (hts (.fieldLink RX11 17 "ShapeReaderModel" "typeArg" "[I") mw_26_29) (fun _ h9 => h9) rfl dX11_ends_39 ?_
        refine lv_iload_n hx hb dX11_ends_42 rfl (lv_at hl 2 rfl) ?_
        refine va_iald hx hb hK hP 3 2 gB_3 yB_3 (vp_in_iff.mpr hg1) dX11_ends_43 ?_
        refine lv_if_ge (tgt := 59) hx hb dX11_ends_44 (by decide) (fun hc => ?_) (fun hc => ?_)
        · replace h := ip hc h
          exact b_X11_ends_59 hC ih h _ _ _ hP hD hS (lv_sub hl [0, 1, 2] rfl)
        · replace h := iq hc h
          refine lv_aload_n hx hb dX11_ends_47 rfl (lv_at hl 0 rfl) ?_
          refine lv_iconst (v := 3) hx hb dX11_ends_48 (by decide) ?_
          refine lv_aload_n hx hb dX11_ends_49 rfl (lv_at hl 0 rfl) ?_
          refine va_get (D := (dC, dI)) (ci := 11) (C := RX11) (T := TX11) (N := 95) hx hb hts inlX11 hown hK hP 0 gB_0 rfl 19 (by decide) (hts (.fieldLink RX11 30 "ShapeReaderModel" "typePlace" "[I") mw_27_3) (fun _ h9 => h9) rfl dX11_ends_50 ?_
          refine lv_iload_n hx hb dX11_ends_53 rfl (lv_at hl 2 rfl) ?_
          refine va_iald hx hb hK hP 7 6 gB_7 yB_7 (vp_in_iff.mpr hg1) dX11_ends_54 ?_
          obtain ⟨q4, hc, h⟩ := ib h
          have hF := va_frees hD hS hA
          refine va_calli (va_runV (As := [.int 3, .int ((stI q2.2 3 x3.toNatClampNeg q2.1).1 7 x3.toNatClampNeg)]) (rest := []) ⟨hx, hb, hml, hown, hts⟩ (s_X11_wrong hc) (cwV 2 hts (gV mw_30_6 mw_30_7 mw_30_8 mw_0_15 mw_54_9) rfl rfl rfl (by decide +kernel) ⟨(Nat.le_of_ble_eq_true rfl), (Nat.le_of_ble_eq_true rfl)⟩) (vV (ci := 11) (q0 := 0) hK hP hD hN rfl gB_0) rfl rfl hl.1 rfl (lv_room (Nat.le_of_ble_eq_true rfl)) dX11_ends_55 ⟨(Nat.le_of_ble_eq_true rfl), (Nat.le_of_ble_eq_true rfl)⟩) hS (fun q _ h => hF q h) hF (fun r5 u t H locs ht hvm hw hB _ _ hS => ?_)
          obtain rfl : r5 = q4.1 := hw
          replace hP : va_P (dC, dI) vwCl (wB a k q4.2) H := by rw [← ht]; exact hB.1
          replace hD := hD0 (q4.2)
          clear hB hF
          obtain ⟨hg, h⟩ := ig h
          obtain rfl := Option.some.inj h
          exact W.zret hx hb hr (zn hg) (fun t ht hW => ⟨⟨_, (), rfl, rfl, ⟨by rw [ht]; exact hP, va_K.moved hW.alike hK, hD⟩⟩, hS.F ht⟩) hS.2.2 dX11_ends_58

set_option maxRecDepth 100000 in
set_option maxHeartbeats 4000000 in
theorem b_X11_ends_e {p : Program} {l : Launch} {e : Env} {s : State} {m : MethodId} {args : Array Value} {below : List Frame} {meth : Method} {c : Code} {dC : Nat → ClassId} {dI : Nat → Nat → Nat} {a : Nat → Nat} {k : Nat → ClassId} {A : Nat → Prop} {q : Int32 × ST} (hC : CxB p s m args meth c dC dI k A cX11_ends RX11 (some .boolean) 4)   {p0 : Int32} {p1 : Int32} {σ : ST} (h : f_X11_ends  p0 p1 σ = some q) : GoB p l e ({ frames := 1, cells := 0, slots := 0, locals := 24 } : Room) s m args below meth c (MQ below (qBi dC dI a k A q) args s 0 0 A) dC dI a k A 4 0 σ (lv_args 0 [.ref (a 0), .int p0, .int p1]) [] := by
  have hC0 := hC
  obtain ⟨hx, hb, hr, hml, hown, hts, hlocks, hA, hN, hK⟩ := hC0
  intro H locs ls hP hD hS hl
  have hD0 : ∀ σ1 : ST, va_D A (wB a k σ1) := fun σ1 => wB_D hD
  replace hl : lv_has ls 4 [(0, .ref (a 0)), (1, .int p0), (2, .int p1)] := hl
  unfold f_X11_ends at h
  refine lv_iload_n hx hb dX11_ends_0 rfl (lv_at hl 2 rfl) ?_
  refine lv_istore_n (lv' := [(3, .int p1), (0, .ref (a 0)), (1, .int p0), (2, .int p1)]) hx hb dX11_ends_1 rfl hl (by decide) rfl (fun ls hl => ?_)
  exact b_X11_ends_2 hC FU _ _ _ h _ _ _ hP hD hS (lv_sub hl [1, 2, 0] rfl)

theorem s_X11_ends {l : Launch} {dC : Nat → ClassId} {dI : Nat → Nat → Nat} {a : Nat → Nat} {k : Nat → ClassId} {sz : Nat} {p0 : Int32} {p1 : Int32} {σ : ST} {q : Int32 × ST} (h : f_X11_ends  p0 p1 σ = some q) : Met l yX11_ends (.code yX11_ends cX11_ends 4 (some .boolean) :: pw) ({ frames := 1, cells := 0, slots := 0, locals := 24 } : Room) (va_Pc [.ref (a 0), .int p0, .int p1] (vPre dC dI (wB a k σ) (tB k) sz)) (qBi dC dI a k (va_A (wB a k σ) sz) q) 0 0 (va_A (wB a k σ) sz) := metB (fun A => qBi dC dI a k A q) (plainFor_of_name (by decide)) (Nat.le_of_ble_eq_true rfl) (fun _ _ _ _ _ _ _ _ hC => b_X11_ends_e hC h)

def f_X11_failure (p0 : Int32) (σ : ST) : Option (Int32 × ST) := if ((stI σ 0 0 0).1 0 81) = 0 then (some ((-1), (stI σ 0 0 0))) else (if p0 = 0 then (some (((stI σ 0 0 0).1 0 81), (stI σ 0 0 0))) else (if p0 = 1 then (some (((stI σ 0 0 0).1 0 83), (stI σ 0 0 0))) else (if p0 = 2 then (some (((stI σ 0 0 0).1 0 82), (stI σ 0 0 0))) else (some ((-1), (stI σ 0 0 0))))))

set_option maxRecDepth 100000 in
set_option maxHeartbeats 4000000 in
theorem b_X11_failure_e {p : Program} {l : Launch} {e : Env} {s : State} {m : MethodId} {args : Array Value} {below : List Frame} {meth : Method} {c : Code} {dC : Nat → ClassId} {dI : Nat → Nat → Nat} {a : Nat → Nat} {k : Nat → ClassId} {A : Nat → Prop} {q : Int32 × ST} (hC : CxB p s m args meth c dC dI k A cX11_failure RX11 (some .int) 2)   {p0 : Int32} {σ : ST} (h : f_X11_failure  p0 σ = some q) : GoB p l e ({ frames := 0, cells := 0, slots := 0, locals := 0 } : Room) s m args below meth c (MQ below (qBi dC dI a k A q) args s 0 0 A) dC dI a k A 2 0 σ (lv_args 0 [.ref (a 0), .int p0]) [] := by
  have hC0 := hC
  obtain ⟨hx, hb, hr, hml, hown, hts, hlocks, hA, hN, hK⟩ := hC0
  intro H locs ls hP hD hS hl
  have hD0 : ∀ σ1 : ST, va_D A (wB a k σ1) := fun σ1 => wB_D hD
  replace hl : lv_has ls 2 [(0, .ref (a 0)), (1, .int p0)] := hl
  unfold f_X11_failure at h
  refine lv_aload_n hx hb dX11_failure_0 rfl (lv_at hl 0 rfl) ?_
  refine lv_iconst (v := 0) hx hb dX11_failure_1 (by decide) ?_
  refine va_put (D := (dC, dI)) (ci := 11) (ty := .int) (C := RX11) (T := TX11) (N := 95) hx hb hts inlX11 tyX11 tyX11_ok nmX11 hown hK hP hD hS 0 gB_0 rfl 0 (by decide) (hts (.fieldLink RX11 178 "ShapeReaderModel" "thrown" "I") mw_28_22) (fun _ h9 => h9) rfl (by decide +kernel) rfl rfl (Nat.le_of_ble_eq_true rfl) dX11_failure_2 (fun H locs hP hD hS => ?_)
  replace hP := uB_0_0 hP
  replace hD := hD0 ((stI σ 0 0 0))
  refine lv_aload_n hx hb dX11_failure_5 rfl (lv_at hl 0 rfl) ?_
  refine va_get (D := (dC, dI)) (ci := 11) (C := RX11) (T := TX11) (N := 95) hx hb hts inlX11 hown hK hP 0 gB_0 rfl 81 (by decide) (hts (.fieldLink RX11 395 "ShapeReaderModel" "failureKind" "I") mw_33_18) (fun _ h9 => h9) rfl dX11_failure_6 ?_
  refine lv_if_ne (tgt := 14) hx hb dX11_failure_9 (by decide) (fun hc => ?_) (fun hc => ?_)
  · replace h := iq hc h
    refine lv_iload_n hx hb dX11_failure_14 rfl (lv_at hl 1 rfl) ?_
    rcases (il_sw3 p0 (0) (1) (2)) with s1 | s2 | s3 | ⟨s1, s2, s3⟩
    · replace h := ip s1 h
      refine lv_tableIn (off := 25) (tgt := 40) hx hb dX11_failure_15 (by rw [s1]; decide) (by rw [s1]; decide) (by rw [s1]; rfl) (by decide) ?_
      refine lv_aload_n hx hb dX11_failure_40 rfl (lv_at hl 0 rfl) ?_
      refine va_get (D := (dC, dI)) (ci := 11) (C := RX11) (T := TX11) (N := 95) hx hb hts inlX11 hown hK hP 0 gB_0 rfl 81 (by decide) (hts (.fieldLink RX11 395 "ShapeReaderModel" "failureKind" "I") mw_33_18) (fun _ h9 => h9) rfl dX11_failure_41 ?_
      obtain rfl := Option.some.inj h
      exact W.iret hx hb hr (fun t ht hW => ⟨⟨_, (), rfl, rfl, ⟨by rw [ht]; exact hP, va_K.moved hW.alike hK, hD⟩⟩, hS.F ht⟩) hS.2.2 dX11_failure_44
    · replace h := ip s2 (iq (by rw [s2]; decide) h)
      refine lv_tableIn (off := 30) (tgt := 45) hx hb dX11_failure_15 (by rw [s2]; decide) (by rw [s2]; decide) (by rw [s2]; rfl) (by decide) ?_
      refine lv_aload_n hx hb dX11_failure_45 rfl (lv_at hl 0 rfl) ?_
      refine va_get (D := (dC, dI)) (ci := 11) (C := RX11) (T := TX11) (N := 95) hx hb hts inlX11 hown hK hP 0 gB_0 rfl 83 (by decide) (hts (.fieldLink RX11 621 "ShapeReaderModel" "failureSteps" "I") mw_39_7) (fun _ h9 => h9) rfl dX11_failure_46 ?_
      obtain rfl := Option.some.inj h
      exact W.iret hx hb hr (fun t ht hW => ⟨⟨_, (), rfl, rfl, ⟨by rw [ht]; exact hP, va_K.moved hW.alike hK, hD⟩⟩, hS.F ht⟩) hS.2.2 dX11_failure_49
    · replace h := ip s3 (iq (by rw [s3]; decide) (iq (by rw [s3]; decide) h))
      refine lv_tableIn (off := 35) (tgt := 50) hx hb dX11_failure_15 (by rw [s3]; decide) (by rw [s3]; decide) (by rw [s3]; rfl) (by decide) ?_
      refine lv_aload_n hx hb dX11_failure_50 rfl (lv_at hl 0 rfl) ?_
      refine va_get (D := (dC, dI)) (ci := 11) (C := RX11) (T := TX11) (N := 95) hx hb hts inlX11 hown hK hP 0 gB_0 rfl 82 (by decide) (hts (.fieldLink RX11 618 "ShapeReaderModel" "failureByte" "I") mw_39_6) (fun _ h9 => h9) rfl dX11_failure_51 ?_
      obtain rfl := Option.some.inj h
      exact W.iret hx hb hr (fun t ht hW => ⟨⟨_, (), rfl, rfl, ⟨by rw [ht]; exact hP, va_K.moved hW.alike hK, hD⟩⟩, hS.F ht⟩) hS.2.2 dX11_failure_54
    · replace h := (iq s3 (iq s2 (iq s1 h)))
      refine lv_tableOut (tgt := 55) hx hb dX11_failure_15 (by have a0 := il_ne s1; have e0 : (0 : Int32).toInt = 0 := (by decide); have a1 := il_ne s2; have e1 : (1 : Int32).toInt = 1 := (by decide); have a2 := il_ne s3; have e2 : (2 : Int32).toInt = 2 := (by decide); omega) (by decide) ?_
      refine lv_iconst (v := (-1)) hx hb dX11_failure_55 (by decide) ?_
      obtain rfl := Option.some.inj h
      exact W.iret hx hb hr (fun t ht hW => ⟨⟨_, (), rfl, rfl, ⟨by rw [ht]; exact hP, va_K.moved hW.alike hK, hD⟩⟩, hS.F ht⟩) hS.2.2 dX11_failure_56
  · replace h := ip hc h
    refine lv_iconst (v := (-1)) hx hb dX11_failure_12 (by decide) ?_
    obtain rfl := Option.some.inj h
    exact W.iret hx hb hr (fun t ht hW => ⟨⟨_, (), rfl, rfl, ⟨by rw [ht]; exact hP, va_K.moved hW.alike hK, hD⟩⟩, hS.F ht⟩) hS.2.2 dX11_failure_13

theorem s_X11_failure {l : Launch} {dC : Nat → ClassId} {dI : Nat → Nat → Nat} {a : Nat → Nat} {k : Nat → ClassId} {sz : Nat} {p0 : Int32} {σ : ST} {q : Int32 × ST} (h : f_X11_failure  p0 σ = some q) : Met l yX11_failure (.code yX11_failure cX11_failure 2 (some .int) :: pw) ({ frames := 0, cells := 0, slots := 0, locals := 0 } : Room) (va_Pc [.ref (a 0), .int p0] (vPre dC dI (wB a k σ) (tB k) sz)) (qBi dC dI a k (va_A (wB a k σ) sz) q) 0 0 (va_A (wB a k σ) sz) := metB (fun A => qBi dC dI a k A q) (plainFor_of_name (by decide)) (Nat.le_of_ble_eq_true rfl) (fun _ _ _ _ _ _ _ _ hC => b_X11_failure_e hC h)
