theorem dX10_count_0 : decode cX10_count 0 = .ok (.iload_n 1, 1) := by decide +kernel
theorem dX10_count_1 : decode cX10_count 1 = .ok (.tableswitch 84 0 5 #[39, 47, 55, 63, 71, 79], 39) := by decide +kernel
theorem dX10_count_40 : decode cX10_count 40 = .ok (.aload_n 0, 1) := by decide +kernel
theorem dX10_count_41 : decode cX10_count 41 = .ok (.getfield 29, 3) := by decide +kernel
theorem dX10_count_44 : decode cX10_count 44 = .ok (.getfield 137, 3) := by decide +kernel
theorem dX10_count_47 : decode cX10_count 47 = .ok (.ireturn, 1) := by decide +kernel
theorem dX10_count_48 : decode cX10_count 48 = .ok (.aload_n 0, 1) := by decide +kernel
theorem dX10_count_49 : decode cX10_count 49 = .ok (.getfield 48, 3) := by decide +kernel
theorem dX10_count_52 : decode cX10_count 52 = .ok (.invokevirtual 302, 3) := by decide +kernel
theorem dX10_count_55 : decode cX10_count 55 = .ok (.ireturn, 1) := by decide +kernel
theorem dX10_count_56 : decode cX10_count 56 = .ok (.aload_n 0, 1) := by decide +kernel
theorem dX10_count_57 : decode cX10_count 57 = .ok (.getfield 73, 3) := by decide +kernel
theorem dX10_count_60 : decode cX10_count 60 = .ok (.getfield 305, 3) := by decide +kernel
theorem dX10_count_63 : decode cX10_count 63 = .ok (.ireturn, 1) := by decide +kernel
theorem dX10_count_64 : decode cX10_count 64 = .ok (.aload_n 0, 1) := by decide +kernel
theorem dX10_count_65 : decode cX10_count 65 = .ok (.getfield 64, 3) := by decide +kernel
theorem dX10_count_68 : decode cX10_count 68 = .ok (.getfield 306, 3) := by decide +kernel
theorem dX10_count_71 : decode cX10_count 71 = .ok (.ireturn, 1) := by decide +kernel
theorem dX10_count_72 : decode cX10_count 72 = .ok (.aload_n 0, 1) := by decide +kernel
theorem dX10_count_73 : decode cX10_count 73 = .ok (.getfield 64, 3) := by decide +kernel
theorem dX10_count_76 : decode cX10_count 76 = .ok (.getfield 309, 3) := by decide +kernel
theorem dX10_count_79 : decode cX10_count 79 = .ok (.ireturn, 1) := by decide +kernel
theorem dX10_count_80 : decode cX10_count 80 = .ok (.aload_n 0, 1) := by decide +kernel
theorem dX10_count_81 : decode cX10_count 81 = .ok (.getfield 13, 3) := by decide +kernel
theorem dX10_count_84 : decode cX10_count 84 = .ok (.ireturn, 1) := by decide +kernel
theorem dX10_count_85 : decode cX10_count 85 = .ok (.iconst (-1), 1) := by decide +kernel
theorem dX10_count_86 : decode cX10_count 86 = .ok (.ireturn, 1) := by decide +kernel
theorem dX10_cut_0 : decode cX10_cut 0 = .ok (.aload_n 0, 1) := by decide +kernel
theorem dX10_cut_1 : decode cX10_cut 1 = .ok (.getfield 48, 3) := by decide +kernel
theorem dX10_cut_4 : decode cX10_cut 4 = .ok (.iload_n 1, 1) := by decide +kernel
theorem dX10_cut_5 : decode cX10_cut 5 = .ok (.invokevirtual 205, 3) := by decide +kernel
theorem dX10_cut_8 : decode cX10_cut 8 = .ok (.ifCond .eq 19, 3) := by decide +kernel
theorem dX10_cut_11 : decode cX10_cut 11 = .ok (.iload_n 2, 1) := by decide +kernel
theorem dX10_cut_12 : decode cX10_cut 12 = .ok (.ifCond .lt 15, 3) := by decide +kernel
theorem dX10_cut_15 : decode cX10_cut 15 = .ok (.iload_n 2, 1) := by decide +kernel
theorem dX10_cut_16 : decode cX10_cut 16 = .ok (.aload_n 0, 1) := by decide +kernel
theorem dX10_cut_17 : decode cX10_cut 17 = .ok (.getfield 48, 3) := by decide +kernel
theorem dX10_cut_20 : decode cX10_cut 20 = .ok (.iload_n 1, 1) := by decide +kernel
theorem dX10_cut_21 : decode cX10_cut 21 = .ok (.invokevirtual 208, 3) := by decide +kernel
theorem dX10_cut_24 : decode cX10_cut 24 = .ok (.if_icmp .le 5, 3) := by decide +kernel
theorem dX10_cut_27 : decode cX10_cut 27 = .ok (.iconst (-1), 1) := by decide +kernel
theorem dX10_cut_28 : decode cX10_cut 28 = .ok (.ireturn, 1) := by decide +kernel
theorem dX10_cut_29 : decode cX10_cut 29 = .ok (.aload_n 0, 1) := by decide +kernel
theorem dX10_cut_30 : decode cX10_cut 30 = .ok (.getfield 48, 3) := by decide +kernel
theorem dX10_cut_33 : decode cX10_cut 33 = .ok (.iload_n 1, 1) := by decide +kernel
theorem dX10_cut_34 : decode cX10_cut 34 = .ok (.iload_n 2, 1) := by decide +kernel
theorem dX10_cut_35 : decode cX10_cut 35 = .ok (.invokevirtual 227, 3) := by decide +kernel
theorem dX10_cut_38 : decode cX10_cut 38 = .ok (.ireturn, 1) := by decide +kernel
theorem dX10_failure_0 : decode cX10_failure 0 = .ok (.aload_n 0, 1) := by decide +kernel
theorem dX10_failure_1 : decode cX10_failure 1 = .ok (.getfield 104, 3) := by decide +kernel
theorem dX10_failure_4 : decode cX10_failure 4 = .ok (.getfield 256, 3) := by decide +kernel
theorem dX10_failure_7 : decode cX10_failure 7 = .ok (.ifCond .ne 5, 3) := by decide +kernel
theorem dX10_failure_10 : decode cX10_failure 10 = .ok (.iconst (-1), 1) := by decide +kernel
theorem dX10_failure_11 : decode cX10_failure 11 = .ok (.ireturn, 1) := by decide +kernel
theorem dX10_failure_12 : decode cX10_failure 12 = .ok (.iload_n 1, 1) := by decide +kernel
theorem dX10_failure_13 : decode cX10_failure 13 = .ok (.tableswitch 51 0 2 #[27, 35, 43], 27) := by decide +kernel
theorem dX10_failure_40 : decode cX10_failure 40 = .ok (.aload_n 0, 1) := by decide +kernel
theorem dX10_failure_41 : decode cX10_failure 41 = .ok (.getfield 104, 3) := by decide +kernel
theorem dX10_failure_44 : decode cX10_failure 44 = .ok (.getfield 256, 3) := by decide +kernel
theorem dX10_failure_47 : decode cX10_failure 47 = .ok (.ireturn, 1) := by decide +kernel
theorem dX10_failure_48 : decode cX10_failure 48 = .ok (.aload_n 0, 1) := by decide +kernel
theorem dX10_failure_49 : decode cX10_failure 49 = .ok (.getfield 104, 3) := by decide +kernel
theorem dX10_failure_52 : decode cX10_failure 52 = .ok (.getfield 259, 3) := by decide +kernel
theorem dX10_failure_55 : decode cX10_failure 55 = .ok (.ireturn, 1) := by decide +kernel
theorem dX10_failure_56 : decode cX10_failure 56 = .ok (.aload_n 0, 1) := by decide +kernel
theorem dX10_failure_57 : decode cX10_failure 57 = .ok (.getfield 104, 3) := by decide +kernel
theorem dX10_failure_60 : decode cX10_failure 60 = .ok (.getfield 262, 3) := by decide +kernel
theorem dX10_failure_63 : decode cX10_failure 63 = .ok (.ireturn, 1) := by decide +kernel
theorem dX10_failure_64 : decode cX10_failure 64 = .ok (.iconst (-1), 1) := by decide +kernel
theorem dX10_failure_65 : decode cX10_failure 65 = .ok (.ireturn, 1) := by decide +kernel
theorem dX10_failureStep_0 : decode cX10_failureStep 0 = .ok (.aload_n 0, 1) := by decide +kernel
theorem dX10_failureStep_1 : decode cX10_failureStep 1 = .ok (.getfield 104, 3) := by decide +kernel
theorem dX10_failureStep_4 : decode cX10_failureStep 4 = .ok (.getfield 256, 3) := by decide +kernel
theorem dX10_failureStep_7 : decode cX10_failureStep 7 = .ok (.ifCond .ne 7, 3) := by decide +kernel
theorem dX10_failureStep_10 : decode cX10_failureStep 10 = .ok (.iconst (-1), 1) := by decide +kernel
theorem dX10_failureStep_11 : decode cX10_failureStep 11 = .ok (.goto 11, 3) := by decide +kernel
theorem dX10_failureStep_14 : decode cX10_failureStep 14 = .ok (.aload_n 0, 1) := by decide +kernel
theorem dX10_failureStep_15 : decode cX10_failureStep 15 = .ok (.getfield 104, 3) := by decide +kernel
theorem dX10_failureStep_18 : decode cX10_failureStep 18 = .ok (.iload_n 1, 1) := by decide +kernel
theorem dX10_failureStep_19 : decode cX10_failureStep 19 = .ok (.invokevirtual 265, 3) := by decide +kernel
theorem dX10_failureStep_22 : decode cX10_failureStep 22 = .ok (.ireturn, 1) := by decide +kernel
theorem dX10_feed_0 : decode cX10_feed 0 = .ok (.aload_n 0, 1) := by decide +kernel
theorem dX10_feed_1 : decode cX10_feed 1 = .ok (.getfield 13, 3) := by decide +kernel
theorem dX10_feed_4 : decode cX10_feed 4 = .ok (.bipush 20, 2) := by decide +kernel
theorem dX10_feed_6 : decode cX10_feed 6 = .ok (.iadd, 1) := by decide +kernel
theorem dX10_feed_7 : decode cX10_feed 7 = .ok (.sipush 1000, 3) := by decide +kernel
theorem dX10_feed_10 : decode cX10_feed 10 = .ok (.if_icmp .le 5, 3) := by decide +kernel
theorem dX10_feed_13 : decode cX10_feed 13 = .ok (.iconst (-1), 1) := by decide +kernel
theorem dX10_feed_14 : decode cX10_feed 14 = .ok (.ireturn, 1) := by decide +kernel
theorem dX10_feed_15 : decode cX10_feed 15 = .ok (.aload_n 0, 1) := by decide +kernel
theorem dX10_feed_16 : decode cX10_feed 16 = .ok (.iload_n 1, 1) := by decide +kernel
theorem dX10_feed_17 : decode cX10_feed 17 = .ok (.invokevirtual 111, 3) := by decide +kernel
theorem dX10_feed_20 : decode cX10_feed 20 = .ok (.aload_n 0, 1) := by decide +kernel
theorem dX10_feed_21 : decode cX10_feed 21 = .ok (.iload_n 2, 1) := by decide +kernel
theorem dX10_feed_22 : decode cX10_feed 22 = .ok (.invokevirtual 111, 3) := by decide +kernel
theorem dX10_feed_25 : decode cX10_feed 25 = .ok (.aload_n 0, 1) := by decide +kernel
theorem dX10_feed_26 : decode cX10_feed 26 = .ok (.iload_n 3, 1) := by decide +kernel
theorem dX10_feed_27 : decode cX10_feed 27 = .ok (.invokevirtual 111, 3) := by decide +kernel
theorem dX10_feed_30 : decode cX10_feed 30 = .ok (.aload_n 0, 1) := by decide +kernel
theorem dX10_feed_31 : decode cX10_feed 31 = .ok (.iload 4, 2) := by decide +kernel
theorem dX10_feed_33 : decode cX10_feed 33 = .ok (.invokevirtual 111, 3) := by decide +kernel
theorem dX10_feed_36 : decode cX10_feed 36 = .ok (.aload_n 0, 1) := by decide +kernel
theorem dX10_feed_37 : decode cX10_feed 37 = .ok (.iload 5, 2) := by decide +kernel
theorem dX10_feed_39 : decode cX10_feed 39 = .ok (.invokevirtual 111, 3) := by decide +kernel
theorem dX10_feed_42 : decode cX10_feed 42 = .ok (.aload_n 0, 1) := by decide +kernel
theorem dX10_feed_43 : decode cX10_feed 43 = .ok (.getfield 13, 3) := by decide +kernel
theorem dX10_feed_46 : decode cX10_feed 46 = .ok (.ireturn, 1) := by decide +kernel
theorem dX10_feedFour_0 : decode cX10_feedFour 0 = .ok (.bipush 24, 2) := by decide +kernel
theorem dX10_feedFour_2 : decode cX10_feedFour 2 = .ok (.istore_n 2, 1) := by decide +kernel
theorem dX10_feedFour_3 : decode cX10_feedFour 3 = .ok (.iload_n 2, 1) := by decide +kernel
theorem dX10_feedFour_4 : decode cX10_feedFour 4 = .ok (.ifCond .lt 42, 3) := by decide +kernel
theorem dX10_feedFour_7 : decode cX10_feedFour 7 = .ok (.aload_n 0, 1) := by decide +kernel
theorem dX10_feedFour_8 : decode cX10_feedFour 8 = .ok (.getfield 13, 3) := by decide +kernel
theorem dX10_feedFour_11 : decode cX10_feedFour 11 = .ok (.sipush 1000, 3) := by decide +kernel
theorem dX10_feedFour_14 : decode cX10_feedFour 14 = .ok (.if_icmp .ge 26, 3) := by decide +kernel
theorem dX10_feedFour_17 : decode cX10_feedFour 17 = .ok (.aload_n 0, 1) := by decide +kernel
theorem dX10_feedFour_18 : decode cX10_feedFour 18 = .ok (.getfield 9, 3) := by decide +kernel
theorem dX10_feedFour_21 : decode cX10_feedFour 21 = .ok (.aload_n 0, 1) := by decide +kernel
theorem dX10_feedFour_22 : decode cX10_feedFour 22 = .ok (.getfield 13, 3) := by decide +kernel
theorem dX10_feedFour_25 : decode cX10_feedFour 25 = .ok (.iload_n 1, 1) := by decide +kernel
theorem dX10_feedFour_26 : decode cX10_feedFour 26 = .ok (.iload_n 2, 1) := by decide +kernel
theorem dX10_feedFour_27 : decode cX10_feedFour 27 = .ok (.ishr, 1) := by decide +kernel
theorem dX10_feedFour_28 : decode cX10_feedFour 28 = .ok (.i2b, 1) := by decide +kernel
theorem dX10_feedFour_29 : decode cX10_feedFour 29 = .ok (.bastore, 1) := by decide +kernel
theorem dX10_feedFour_30 : decode cX10_feedFour 30 = .ok (.aload_n 0, 1) := by decide +kernel
theorem dX10_feedFour_31 : decode cX10_feedFour 31 = .ok (.dup, 1) := by decide +kernel
theorem dX10_feedFour_32 : decode cX10_feedFour 32 = .ok (.getfield 13, 3) := by decide +kernel
theorem dX10_feedFour_35 : decode cX10_feedFour 35 = .ok (.iconst 1, 1) := by decide +kernel
theorem dX10_feedFour_36 : decode cX10_feedFour 36 = .ok (.iadd, 1) := by decide +kernel
theorem dX10_feedFour_37 : decode cX10_feedFour 37 = .ok (.putfield 13, 3) := by decide +kernel
theorem dX10_feedFour_40 : decode cX10_feedFour 40 = .ok (.iinc 2 (-8), 3) := by decide +kernel
theorem dX10_feedFour_43 : decode cX10_feedFour 43 = .ok (.goto (-40), 3) := by decide +kernel
theorem dX10_feedFour_46 : decode cX10_feedFour 46 = .ok (.return_, 1) := by decide +kernel
theorem dX10_field_0 : decode cX10_field 0 = .ok (.aload_n 0, 1) := by decide +kernel
theorem dX10_field_1 : decode cX10_field 1 = .ok (.iload_n 1, 1) := by decide +kernel
theorem dX10_field_2 : decode cX10_field 2 = .ok (.invokevirtual 144, 3) := by decide +kernel
theorem dX10_field_5 : decode cX10_field 5 = .ok (.ifCond .eq 19, 3) := by decide +kernel
theorem dX10_field_8 : decode cX10_field 8 = .ok (.iload_n 2, 1) := by decide +kernel
theorem dX10_field_9 : decode cX10_field 9 = .ok (.ifCond .lt 15, 3) := by decide +kernel
theorem dX10_field_12 : decode cX10_field 12 = .ok (.iload_n 2, 1) := by decide +kernel
theorem dX10_field_13 : decode cX10_field 13 = .ok (.aload_n 0, 1) := by decide +kernel
theorem dX10_field_14 : decode cX10_field 14 = .ok (.getfield 29, 3) := by decide +kernel
theorem dX10_field_17 : decode cX10_field 17 = .ok (.iload_n 1, 1) := by decide +kernel
theorem dX10_field_18 : decode cX10_field 18 = .ok (.invokevirtual 167, 3) := by decide +kernel
theorem dX10_field_21 : decode cX10_field 21 = .ok (.if_icmp .lt 5, 3) := by decide +kernel
theorem dX10_field_24 : decode cX10_field 24 = .ok (.iconst (-1), 1) := by decide +kernel
theorem dX10_field_25 : decode cX10_field 25 = .ok (.ireturn, 1) := by decide +kernel
theorem dX10_field_26 : decode cX10_field 26 = .ok (.iload_n 1, 1) := by decide +kernel
theorem dX10_field_27 : decode cX10_field 27 = .ok (.bipush 6, 2) := by decide +kernel
theorem dX10_field_29 : decode cX10_field 29 = .ok (.imul, 1) := by decide +kernel
theorem dX10_field_30 : decode cX10_field 30 = .ok (.iload_n 2, 1) := by decide +kernel
theorem dX10_field_31 : decode cX10_field 31 = .ok (.iadd, 1) := by decide +kernel
theorem dX10_field_32 : decode cX10_field 32 = .ok (.istore 5, 2) := by decide +kernel
theorem dX10_field_34 : decode cX10_field 34 = .ok (.iload_n 3, 1) := by decide +kernel
theorem dX10_field_35 : decode cX10_field 35 = .ok (.ifCond .lt 16, 3) := by decide +kernel
theorem dX10_field_38 : decode cX10_field 38 = .ok (.iload_n 3, 1) := by decide +kernel
theorem dX10_field_39 : decode cX10_field 39 = .ok (.aload_n 0, 1) := by decide +kernel
theorem dX10_field_40 : decode cX10_field 40 = .ok (.getfield 29, 3) := by decide +kernel
theorem dX10_field_43 : decode cX10_field 43 = .ok (.iload 5, 2) := by decide +kernel
theorem dX10_field_45 : decode cX10_field 45 = .ok (.invokevirtual 170, 3) := by decide +kernel
theorem dX10_field_48 : decode cX10_field 48 = .ok (.if_icmp .lt 5, 3) := by decide +kernel
theorem dX10_field_51 : decode cX10_field 51 = .ok (.iconst (-1), 1) := by decide +kernel
theorem dX10_field_52 : decode cX10_field 52 = .ok (.ireturn, 1) := by decide +kernel
theorem dX10_field_53 : decode cX10_field 53 = .ok (.aload_n 0, 1) := by decide +kernel
theorem dX10_field_54 : decode cX10_field 54 = .ok (.getfield 29, 3) := by decide +kernel
theorem dX10_field_57 : decode cX10_field 57 = .ok (.iload 5, 2) := by decide +kernel
theorem dX10_field_59 : decode cX10_field 59 = .ok (.iload_n 3, 1) := by decide +kernel
theorem dX10_field_60 : decode cX10_field 60 = .ok (.invokevirtual 181, 3) := by decide +kernel
theorem dX10_field_63 : decode cX10_field 63 = .ok (.istore 6, 2) := by decide +kernel
theorem dX10_field_65 : decode cX10_field 65 = .ok (.iload 4, 2) := by decide +kernel
theorem dX10_field_67 : decode cX10_field 67 = .ok (.tableswitch 121 0 5 #[37, 47, 66, 87, 101, 111], 37) := by decide +kernel
theorem dX10_field_104 : decode cX10_field 104 = .ok (.aload_n 0, 1) := by decide +kernel
theorem dX10_field_105 : decode cX10_field 105 = .ok (.getfield 29, 3) := by decide +kernel
theorem dX10_field_108 : decode cX10_field 108 = .ok (.iload 6, 2) := by decide +kernel
theorem dX10_field_110 : decode cX10_field 110 = .ok (.invokevirtual 185, 3) := by decide +kernel
theorem dX10_field_113 : decode cX10_field 113 = .ok (.ireturn, 1) := by decide +kernel
theorem dX10_field_114 : decode cX10_field 114 = .ok (.aload_n 0, 1) := by decide +kernel
theorem dX10_field_115 : decode cX10_field 115 = .ok (.getfield 29, 3) := by decide +kernel
theorem dX10_field_118 : decode cX10_field 118 = .ok (.iload 5, 2) := by decide +kernel
theorem dX10_field_120 : decode cX10_field 120 = .ok (.iload_n 3, 1) := by decide +kernel
theorem dX10_field_121 : decode cX10_field 121 = .ok (.invokevirtual 188, 3) := by decide +kernel
theorem dX10_field_124 : decode cX10_field 124 = .ok (.ifCond .eq 7, 3) := by decide +kernel
theorem dX10_field_127 : decode cX10_field 127 = .ok (.iconst 1, 1) := by decide +kernel
theorem dX10_field_128 : decode cX10_field 128 = .ok (.goto 4, 3) := by decide +kernel
theorem dX10_field_131 : decode cX10_field 131 = .ok (.iconst 0, 1) := by decide +kernel
theorem dX10_field_132 : decode cX10_field 132 = .ok (.ireturn, 1) := by decide +kernel
theorem dX10_field_133 : decode cX10_field 133 = .ok (.aload_n 0, 1) := by decide +kernel
theorem dX10_field_134 : decode cX10_field 134 = .ok (.getfield 29, 3) := by decide +kernel
theorem dX10_field_137 : decode cX10_field 137 = .ok (.iload 5, 2) := by decide +kernel
theorem dX10_field_139 : decode cX10_field 139 = .ok (.iload_n 3, 1) := by decide +kernel
theorem dX10_field_140 : decode cX10_field 140 = .ok (.invokevirtual 192, 3) := by decide +kernel
theorem dX10_field_143 : decode cX10_field 143 = .ok (.lconst 0, 1) := by decide +kernel
theorem dX10_field_144 : decode cX10_field 144 = .ok (.lcmp, 1) := by decide +kernel
theorem dX10_field_145 : decode cX10_field 145 = .ok (.ifCond .eq 7, 3) := by decide +kernel
theorem dX10_field_148 : decode cX10_field 148 = .ok (.iconst 1, 1) := by decide +kernel
theorem dX10_field_149 : decode cX10_field 149 = .ok (.goto 4, 3) := by decide +kernel
theorem dX10_field_152 : decode cX10_field 152 = .ok (.iconst 0, 1) := by decide +kernel
theorem dX10_field_153 : decode cX10_field 153 = .ok (.ireturn, 1) := by decide +kernel
theorem dX10_field_154 : decode cX10_field 154 = .ok (.aload_n 0, 1) := by decide +kernel
theorem dX10_field_155 : decode cX10_field 155 = .ok (.getfield 29, 3) := by decide +kernel
theorem dX10_field_158 : decode cX10_field 158 = .ok (.iload 5, 2) := by decide +kernel
theorem dX10_field_160 : decode cX10_field 160 = .ok (.iload_n 3, 1) := by decide +kernel
theorem dX10_field_161 : decode cX10_field 161 = .ok (.invokevirtual 196, 3) := by decide +kernel
theorem dX10_field_164 : decode cX10_field 164 = .ok (.invokestatic 177, 3) := by decide +kernel
theorem dX10_field_167 : decode cX10_field 167 = .ok (.ireturn, 1) := by decide +kernel
theorem dX10_field_168 : decode cX10_field 168 = .ok (.aload_n 0, 1) := by decide +kernel
theorem dX10_field_169 : decode cX10_field 169 = .ok (.getfield 29, 3) := by decide +kernel
theorem dX10_field_172 : decode cX10_field 172 = .ok (.iload 6, 2) := by decide +kernel
theorem dX10_field_174 : decode cX10_field 174 = .ok (.invokevirtual 199, 3) := by decide +kernel
theorem dX10_field_177 : decode cX10_field 177 = .ok (.ireturn, 1) := by decide +kernel
theorem dX10_field_178 : decode cX10_field 178 = .ok (.aload_n 0, 1) := by decide +kernel
theorem dX10_field_179 : decode cX10_field 179 = .ok (.getfield 29, 3) := by decide +kernel
theorem dX10_field_182 : decode cX10_field 182 = .ok (.iload 6, 2) := by decide +kernel
theorem dX10_field_184 : decode cX10_field 184 = .ok (.invokevirtual 202, 3) := by decide +kernel
theorem dX10_field_187 : decode cX10_field 187 = .ok (.ireturn, 1) := by decide +kernel
theorem dX10_field_188 : decode cX10_field 188 = .ok (.iconst (-1), 1) := by decide +kernel
theorem dX10_field_189 : decode cX10_field 189 = .ok (.ireturn, 1) := by decide +kernel
theorem dX10_kept_0 : decode cX10_kept 0 = .ok (.iload_n 1, 1) := by decide +kernel
theorem dX10_kept_1 : decode cX10_kept 1 = .ok (.iconst (-1), 1) := by decide +kernel
theorem dX10_kept_2 : decode cX10_kept 2 = .ok (.if_icmp .ne 13, 3) := by decide +kernel
theorem dX10_kept_5 : decode cX10_kept 5 = .ok (.aload_n 0, 1) := by decide +kernel
theorem dX10_kept_6 : decode cX10_kept 6 = .ok (.getfield 64, 3) := by decide +kernel
theorem dX10_kept_9 : decode cX10_kept 9 = .ok (.getfield 298, 3) := by decide +kernel
theorem dX10_kept_12 : decode cX10_kept 12 = .ok (.goto 11, 3) := by decide +kernel
theorem dX10_kept_15 : decode cX10_kept 15 = .ok (.aload_n 0, 1) := by decide +kernel
theorem dX10_kept_16 : decode cX10_kept 16 = .ok (.getfield 64, 3) := by decide +kernel
theorem dX10_kept_19 : decode cX10_kept 19 = .ok (.iload_n 1, 1) := by decide +kernel
theorem dX10_kept_20 : decode cX10_kept 20 = .ok (.invokevirtual 299, 3) := by decide +kernel
theorem dX10_kept_23 : decode cX10_kept 23 = .ok (.ireturn, 1) := by decide +kernel
theorem dX10_matches_0 : decode cX10_matches 0 = .ok (.aload_n 0, 1) := by decide +kernel
theorem dX10_matches_1 : decode cX10_matches 1 = .ok (.iload_n 1, 1) := by decide +kernel
theorem dX10_matches_2 : decode cX10_matches 2 = .ok (.invokevirtual 144, 3) := by decide +kernel
theorem dX10_matches_5 : decode cX10_matches 5 = .ok (.ifCond .eq 11, 3) := by decide +kernel
theorem dX10_matches_8 : decode cX10_matches 8 = .ok (.aload_n 0, 1) := by decide +kernel
theorem dX10_matches_9 : decode cX10_matches 9 = .ok (.iload_n 2, 1) := by decide +kernel
theorem dX10_matches_10 : decode cX10_matches 10 = .ok (.invokevirtual 144, 3) := by decide +kernel
theorem dX10_matches_13 : decode cX10_matches 13 = .ok (.ifCond .ne 5, 3) := by decide +kernel
theorem dX10_matches_16 : decode cX10_matches 16 = .ok (.iconst (-1), 1) := by decide +kernel
theorem dX10_matches_17 : decode cX10_matches 17 = .ok (.ireturn, 1) := by decide +kernel
theorem dX10_matches_18 : decode cX10_matches 18 = .ok (.aload_n 0, 1) := by decide +kernel
theorem dX10_matches_19 : decode cX10_matches 19 = .ok (.getfield 57, 3) := by decide +kernel
theorem dX10_matches_22 : decode cX10_matches 22 = .ok (.iload_n 1, 1) := by decide +kernel
theorem dX10_matches_23 : decode cX10_matches 23 = .ok (.iload_n 2, 1) := by decide +kernel
theorem dX10_matches_24 : decode cX10_matches 24 = .ok (.invokevirtual 230, 3) := by decide +kernel
theorem dX10_matches_27 : decode cX10_matches 27 = .ok (.ireturn, 1) := by decide +kernel
theorem dX10_message_0 : decode cX10_message 0 = .ok (.aload_n 0, 1) := by decide +kernel
theorem dX10_message_1 : decode cX10_message 1 = .ok (.getfield 48, 3) := by decide +kernel
theorem dX10_message_4 : decode cX10_message 4 = .ok (.iload_n 1, 1) := by decide +kernel
theorem dX10_message_5 : decode cX10_message 5 = .ok (.invokevirtual 205, 3) := by decide +kernel
theorem dX10_message_8 : decode cX10_message 8 = .ok (.ifCond .ne 5, 3) := by decide +kernel
theorem dX10_message_11 : decode cX10_message 11 = .ok (.iconst (-1), 1) := by decide +kernel
theorem dX10_message_12 : decode cX10_message 12 = .ok (.ireturn, 1) := by decide +kernel
theorem dX10_message_13 : decode cX10_message 13 = .ok (.iload_n 2, 1) := by decide +kernel
theorem dX10_message_14 : decode cX10_message 14 = .ok (.lookupswitch 44 #[(0, 26), (1, 35)], 26) := by decide +kernel
theorem dX10_message_40 : decode cX10_message 40 = .ok (.aload_n 0, 1) := by decide +kernel
theorem dX10_message_41 : decode cX10_message 41 = .ok (.getfield 48, 3) := by decide +kernel
theorem dX10_message_44 : decode cX10_message 44 = .ok (.iload_n 1, 1) := by decide +kernel
theorem dX10_message_45 : decode cX10_message 45 = .ok (.invokevirtual 208, 3) := by decide +kernel
theorem dX10_message_48 : decode cX10_message 48 = .ok (.ireturn, 1) := by decide +kernel
theorem dX10_message_49 : decode cX10_message 49 = .ok (.aload_n 0, 1) := by decide +kernel
theorem dX10_message_50 : decode cX10_message 50 = .ok (.getfield 48, 3) := by decide +kernel
theorem dX10_message_53 : decode cX10_message 53 = .ok (.iload_n 1, 1) := by decide +kernel
theorem dX10_message_54 : decode cX10_message 54 = .ok (.invokevirtual 211, 3) := by decide +kernel
theorem dX10_message_57 : decode cX10_message 57 = .ok (.ireturn, 1) := by decide +kernel
theorem dX10_message_58 : decode cX10_message 58 = .ok (.iconst (-1), 1) := by decide +kernel
theorem dX10_message_59 : decode cX10_message 59 = .ok (.ireturn, 1) := by decide +kernel
theorem dX10_miss_0 : decode cX10_miss 0 = .ok (.aload_n 0, 1) := by decide +kernel
theorem dX10_miss_1 : decode cX10_miss 1 = .ok (.iload_n 1, 1) := by decide +kernel
theorem dX10_miss_2 : decode cX10_miss 2 = .ok (.invokevirtual 144, 3) := by decide +kernel
theorem dX10_miss_5 : decode cX10_miss 5 = .ok (.ifCond .eq 11, 3) := by decide +kernel
theorem dX10_miss_8 : decode cX10_miss 8 = .ok (.aload_n 0, 1) := by decide +kernel
theorem dX10_miss_9 : decode cX10_miss 9 = .ok (.iload_n 2, 1) := by decide +kernel
theorem dX10_miss_10 : decode cX10_miss 10 = .ok (.invokevirtual 144, 3) := by decide +kernel
theorem dX10_miss_13 : decode cX10_miss 13 = .ok (.ifCond .ne 5, 3) := by decide +kernel
theorem dX10_miss_16 : decode cX10_miss 16 = .ok (.iconst (-1), 1) := by decide +kernel
theorem dX10_miss_17 : decode cX10_miss 17 = .ok (.ireturn, 1) := by decide +kernel
theorem dX10_miss_18 : decode cX10_miss 18 = .ok (.aload_n 0, 1) := by decide +kernel
theorem dX10_miss_19 : decode cX10_miss 19 = .ok (.getfield 57, 3) := by decide +kernel
theorem dX10_miss_22 : decode cX10_miss 22 = .ok (.iload_n 1, 1) := by decide +kernel
theorem dX10_miss_23 : decode cX10_miss 23 = .ok (.iload_n 2, 1) := by decide +kernel
theorem dX10_miss_24 : decode cX10_miss 24 = .ok (.invokevirtual 233, 3) := by decide +kernel
theorem dX10_miss_27 : decode cX10_miss 27 = .ok (.iload_n 3, 1) := by decide +kernel
theorem dX10_miss_28 : decode cX10_miss 28 = .ok (.iconst (-1), 1) := by decide +kernel
theorem dX10_miss_29 : decode cX10_miss 29 = .ok (.if_icmp .ne 11, 3) := by decide +kernel
theorem dX10_miss_32 : decode cX10_miss 32 = .ok (.aload_n 0, 1) := by decide +kernel
theorem dX10_miss_33 : decode cX10_miss 33 = .ok (.getfield 57, 3) := by decide +kernel
theorem dX10_miss_36 : decode cX10_miss 36 = .ok (.getfield 237, 3) := by decide +kernel
theorem dX10_miss_39 : decode cX10_miss 39 = .ok (.ireturn, 1) := by decide +kernel
theorem dX10_miss_40 : decode cX10_miss 40 = .ok (.iload 4, 2) := by decide +kernel
theorem dX10_miss_42 : decode cX10_miss 42 = .ok (.lookupswitch 44 #[(0, 26), (1, 35)], 26) := by decide +kernel
theorem dX10_miss_68 : decode cX10_miss 68 = .ok (.aload_n 0, 1) := by decide +kernel
theorem dX10_miss_69 : decode cX10_miss 69 = .ok (.getfield 57, 3) := by decide +kernel
theorem dX10_miss_72 : decode cX10_miss 72 = .ok (.iload_n 3, 1) := by decide +kernel
theorem dX10_miss_73 : decode cX10_miss 73 = .ok (.invokevirtual 240, 3) := by decide +kernel
theorem dX10_miss_76 : decode cX10_miss 76 = .ok (.ireturn, 1) := by decide +kernel
theorem dX10_miss_77 : decode cX10_miss 77 = .ok (.aload_n 0, 1) := by decide +kernel
theorem dX10_miss_78 : decode cX10_miss 78 = .ok (.getfield 57, 3) := by decide +kernel
theorem dX10_miss_81 : decode cX10_miss 81 = .ok (.iload_n 3, 1) := by decide +kernel
theorem dX10_miss_82 : decode cX10_miss 82 = .ok (.invokevirtual 243, 3) := by decide +kernel
theorem dX10_miss_85 : decode cX10_miss 85 = .ok (.ireturn, 1) := by decide +kernel
theorem dX10_miss_86 : decode cX10_miss 86 = .ok (.iconst (-1), 1) := by decide +kernel
theorem dX10_miss_87 : decode cX10_miss 87 = .ok (.ireturn, 1) := by decide +kernel
theorem dX10_missStep_0 : decode cX10_missStep 0 = .ok (.aload_n 0, 1) := by decide +kernel
theorem dX10_missStep_1 : decode cX10_missStep 1 = .ok (.iload_n 1, 1) := by decide +kernel
theorem dX10_missStep_2 : decode cX10_missStep 2 = .ok (.invokevirtual 144, 3) := by decide +kernel
theorem dX10_missStep_5 : decode cX10_missStep 5 = .ok (.ifCond .eq 11, 3) := by decide +kernel
theorem dX10_missStep_8 : decode cX10_missStep 8 = .ok (.aload_n 0, 1) := by decide +kernel
theorem dX10_missStep_9 : decode cX10_missStep 9 = .ok (.iload_n 2, 1) := by decide +kernel
theorem dX10_missStep_10 : decode cX10_missStep 10 = .ok (.invokevirtual 144, 3) := by decide +kernel
theorem dX10_missStep_13 : decode cX10_missStep 13 = .ok (.ifCond .ne 5, 3) := by decide +kernel
theorem dX10_missStep_16 : decode cX10_missStep 16 = .ok (.iconst (-1), 1) := by decide +kernel
theorem dX10_missStep_17 : decode cX10_missStep 17 = .ok (.ireturn, 1) := by decide +kernel
theorem dX10_missStep_18 : decode cX10_missStep 18 = .ok (.aload_n 0, 1) := by decide +kernel
theorem dX10_missStep_19 : decode cX10_missStep 19 = .ok (.getfield 57, 3) := by decide +kernel
theorem dX10_missStep_22 : decode cX10_missStep 22 = .ok (.iload_n 1, 1) := by decide +kernel
theorem dX10_missStep_23 : decode cX10_missStep 23 = .ok (.iload_n 2, 1) := by decide +kernel
theorem dX10_missStep_24 : decode cX10_missStep 24 = .ok (.invokevirtual 233, 3) := by decide +kernel
theorem dX10_missStep_27 : decode cX10_missStep 27 = .ok (.aload_n 0, 1) := by decide +kernel
theorem dX10_missStep_28 : decode cX10_missStep 28 = .ok (.getfield 57, 3) := by decide +kernel
theorem dX10_missStep_31 : decode cX10_missStep 31 = .ok (.iload_n 3, 1) := by decide +kernel
theorem dX10_missStep_32 : decode cX10_missStep 32 = .ok (.iload 4, 2) := by decide +kernel
theorem dX10_missStep_34 : decode cX10_missStep 34 = .ok (.invokevirtual 246, 3) := by decide +kernel
theorem dX10_missStep_37 : decode cX10_missStep 37 = .ok (.ireturn, 1) := by decide +kernel
theorem dX1_shorten_0 : decode cX1_shorten 0 = .ok (.aload_n 0, 1) := by decide +kernel
theorem dX1_shorten_1 : decode cX1_shorten 1 = .ok (.iload_n 1, 1) := by decide +kernel
theorem dX1_shorten_2 : decode cX1_shorten 2 = .ok (.invokevirtual 43, 3) := by decide +kernel
theorem dX1_shorten_5 : decode cX1_shorten 5 = .ok (.istore_n 3, 1) := by decide +kernel
theorem dX1_shorten_6 : decode cX1_shorten 6 = .ok (.aload_n 0, 1) := by decide +kernel
theorem dX1_shorten_7 : decode cX1_shorten 7 = .ok (.iload_n 1, 1) := by decide +kernel
theorem dX1_shorten_8 : decode cX1_shorten 8 = .ok (.invokevirtual 28, 3) := by decide +kernel
theorem dX1_shorten_11 : decode cX1_shorten 11 = .ok (.ifCond .eq 10, 3) := by decide +kernel
theorem dX1_shorten_14 : decode cX1_shorten 14 = .ok (.aload_n 0, 1) := by decide +kernel
theorem dX1_shorten_15 : decode cX1_shorten 15 = .ok (.getfield 15, 3) := by decide +kernel
theorem dX1_shorten_18 : decode cX1_shorten 18 = .ok (.iload_n 1, 1) := by decide +kernel
theorem dX1_shorten_19 : decode cX1_shorten 19 = .ok (.iload_n 2, 1) := by decide +kernel
theorem dX1_shorten_20 : decode cX1_shorten 20 = .ok (.iastore, 1) := by decide +kernel
theorem dX1_shorten_21 : decode cX1_shorten 21 = .ok (.iload_n 3, 1) := by decide +kernel
theorem dX1_shorten_22 : decode cX1_shorten 22 = .ok (.ireturn, 1) := by decide +kernel
theorem dX1_writtenBits_0 : decode cX1_writtenBits 0 = .ok (.iconst 0, 1) := by decide +kernel
theorem dX1_writtenBits_1 : decode cX1_writtenBits 1 = .ok (.istore_n 1, 1) := by decide +kernel
theorem dX1_writtenBits_2 : decode cX1_writtenBits 2 = .ok (.iconst 0, 1) := by decide +kernel
theorem dX1_writtenBits_3 : decode cX1_writtenBits 3 = .ok (.istore_n 2, 1) := by decide +kernel
theorem dX1_writtenBits_4 : decode cX1_writtenBits 4 = .ok (.iload_n 2, 1) := by decide +kernel
theorem dX1_writtenBits_5 : decode cX1_writtenBits 5 = .ok (.iconst 4, 1) := by decide +kernel
theorem dX1_writtenBits_6 : decode cX1_writtenBits 6 = .ok (.if_icmp .ge 23, 3) := by decide +kernel
theorem dX1_writtenBits_9 : decode cX1_writtenBits 9 = .ok (.aload_n 0, 1) := by decide +kernel
theorem dX1_writtenBits_10 : decode cX1_writtenBits 10 = .ok (.iload_n 2, 1) := by decide +kernel
theorem dX1_writtenBits_11 : decode cX1_writtenBits 11 = .ok (.invokevirtual 32, 3) := by decide +kernel
theorem dX1_writtenBits_14 : decode cX1_writtenBits 14 = .ok (.ifCond .eq 9, 3) := by decide +kernel
theorem dX1_writtenBits_17 : decode cX1_writtenBits 17 = .ok (.iload_n 1, 1) := by decide +kernel
theorem dX1_writtenBits_18 : decode cX1_writtenBits 18 = .ok (.iconst 1, 1) := by decide +kernel
theorem dX1_writtenBits_19 : decode cX1_writtenBits 19 = .ok (.iload_n 2, 1) := by decide +kernel
theorem dX1_writtenBits_20 : decode cX1_writtenBits 20 = .ok (.ishl, 1) := by decide +kernel
theorem dX1_writtenBits_21 : decode cX1_writtenBits 21 = .ok (.ior, 1) := by decide +kernel
theorem dX1_writtenBits_22 : decode cX1_writtenBits 22 = .ok (.istore_n 1, 1) := by decide +kernel
theorem dX1_writtenBits_23 : decode cX1_writtenBits 23 = .ok (.iinc 2 1, 3) := by decide +kernel
theorem dX1_writtenBits_26 : decode cX1_writtenBits 26 = .ok (.goto (-22), 3) := by decide +kernel
theorem dX1_writtenBits_29 : decode cX1_writtenBits 29 = .ok (.iload_n 1, 1) := by decide +kernel
theorem dX1_writtenBits_30 : decode cX1_writtenBits 30 = .ok (.ireturn, 1) := by decide +kernel
theorem dX4_stepAt_0 : decode cX4_stepAt 0 = .ok (.iload_n 1, 1) := by decide +kernel
theorem dX4_stepAt_1 : decode cX4_stepAt 1 = .ok (.ifCond .lt 26, 3) := by decide +kernel
theorem dX4_stepAt_4 : decode cX4_stepAt 4 = .ok (.iload_n 1, 1) := by decide +kernel
theorem dX4_stepAt_5 : decode cX4_stepAt 5 = .ok (.aload_n 0, 1) := by decide +kernel
theorem dX4_stepAt_6 : decode cX4_stepAt 6 = .ok (.getfield 31, 3) := by decide +kernel
theorem dX4_stepAt_9 : decode cX4_stepAt 9 = .ok (.if_icmp .ge 18, 3) := by decide +kernel
theorem dX4_stepAt_12 : decode cX4_stepAt 12 = .ok (.iload_n 1, 1) := by decide +kernel
theorem dX4_stepAt_13 : decode cX4_stepAt 13 = .ok (.bipush 64, 2) := by decide +kernel
theorem dX4_stepAt_15 : decode cX4_stepAt 15 = .ok (.if_icmp .ge 12, 3) := by decide +kernel
theorem dX4_stepAt_18 : decode cX4_stepAt 18 = .ok (.aload_n 0, 1) := by decide +kernel
theorem dX4_stepAt_19 : decode cX4_stepAt 19 = .ok (.getfield 27, 3) := by decide +kernel
theorem dX4_stepAt_22 : decode cX4_stepAt 22 = .ok (.iload_n 1, 1) := by decide +kernel
theorem dX4_stepAt_23 : decode cX4_stepAt 23 = .ok (.iaload, 1) := by decide +kernel
theorem dX4_stepAt_24 : decode cX4_stepAt 24 = .ok (.goto 4, 3) := by decide +kernel
theorem dX4_stepAt_27 : decode cX4_stepAt 27 = .ok (.iconst (-1), 1) := by decide +kernel
theorem dX4_stepAt_28 : decode cX4_stepAt 28 = .ok (.ireturn, 1) := by decide +kernel
theorem dX5_recordWithin_0 : decode cX5_recordWithin 0 = .ok (.iload_n 1, 1) := by decide +kernel
theorem dX5_recordWithin_1 : decode cX5_recordWithin 1 = .ok (.istore_n 2, 1) := by decide +kernel
theorem dX5_recordWithin_2 : decode cX5_recordWithin 2 = .ok (.iconst 0, 1) := by decide +kernel
theorem dX5_recordWithin_3 : decode cX5_recordWithin 3 = .ok (.istore_n 3, 1) := by decide +kernel
theorem dX5_recordWithin_4 : decode cX5_recordWithin 4 = .ok (.iload_n 3, 1) := by decide +kernel
theorem dX5_recordWithin_5 : decode cX5_recordWithin 5 = .ok (.iconst 3, 1) := by decide +kernel
theorem dX5_recordWithin_6 : decode cX5_recordWithin 6 = .ok (.if_icmp .gt 25, 3) := by decide +kernel
theorem dX5_recordWithin_9 : decode cX5_recordWithin 9 = .ok (.aload_n 0, 1) := by decide +kernel
theorem dX5_recordWithin_10 : decode cX5_recordWithin 10 = .ok (.iload_n 2, 1) := by decide +kernel
theorem dX5_recordWithin_11 : decode cX5_recordWithin 11 = .ok (.invokevirtual 82, 3) := by decide +kernel
theorem dX5_recordWithin_14 : decode cX5_recordWithin 14 = .ok (.bipush 6, 2) := by decide +kernel
theorem dX5_recordWithin_16 : decode cX5_recordWithin 16 = .ok (.if_icmp .ne 15, 3) := by decide +kernel
theorem dX5_recordWithin_19 : decode cX5_recordWithin 19 = .ok (.aload_n 0, 1) := by decide +kernel
theorem dX5_recordWithin_20 : decode cX5_recordWithin 20 = .ok (.iload_n 2, 1) := by decide +kernel
theorem dX5_recordWithin_21 : decode cX5_recordWithin 21 = .ok (.invokevirtual 86, 3) := by decide +kernel
theorem dX5_recordWithin_24 : decode cX5_recordWithin 24 = .ok (.istore_n 2, 1) := by decide +kernel
theorem dX5_recordWithin_25 : decode cX5_recordWithin 25 = .ok (.iinc 3 1, 3) := by decide +kernel
theorem dX5_recordWithin_28 : decode cX5_recordWithin 28 = .ok (.goto (-24), 3) := by decide +kernel
theorem dX5_recordWithin_31 : decode cX5_recordWithin 31 = .ok (.aload_n 0, 1) := by decide +kernel
theorem dX5_recordWithin_32 : decode cX5_recordWithin 32 = .ok (.iload_n 2, 1) := by decide +kernel
theorem dX5_recordWithin_33 : decode cX5_recordWithin 33 = .ok (.invokevirtual 82, 3) := by decide +kernel
theorem dX5_recordWithin_36 : decode cX5_recordWithin 36 = .ok (.bipush 7, 2) := by decide +kernel
theorem dX5_recordWithin_38 : decode cX5_recordWithin 38 = .ok (.if_icmp .ne 16, 3) := by decide +kernel
theorem dX5_recordWithin_41 : decode cX5_recordWithin 41 = .ok (.aload_n 0, 1) := by decide +kernel
theorem dX5_recordWithin_42 : decode cX5_recordWithin 42 = .ok (.iload_n 2, 1) := by decide +kernel
theorem dX5_recordWithin_43 : decode cX5_recordWithin 43 = .ok (.invokevirtual 86, 3) := by decide +kernel
theorem dX5_recordWithin_46 : decode cX5_recordWithin 46 = .ok (.bipush 6, 2) := by decide +kernel
theorem dX5_recordWithin_48 : decode cX5_recordWithin 48 = .ok (.invokestatic 92, 3) := by decide +kernel
theorem dX5_recordWithin_51 : decode cX5_recordWithin 51 = .ok (.goto 4, 3) := by decide +kernel
theorem dX5_recordWithin_54 : decode cX5_recordWithin 54 = .ok (.iconst (-1), 1) := by decide +kernel
theorem dX5_recordWithin_55 : decode cX5_recordWithin 55 = .ok (.ireturn, 1) := by decide +kernel
def f_X10_convert (p0 : Int32) (p1 : Int32) (p2 : Int32) (σ : ST) : Option (Int32 × ST) := (f_X1_isWritten  p0 σ).bind fun q1 => if q1.1 = 0 then (some ((-1), q1.2)) else ((f_X10_isPlan  p1 q1.2).bind fun q3 => if q3.1 = 0 then (some ((-1), q3.2)) else ((f_X1_isNumber  p2 q3.2).bind fun q5 => if q5.1 = 0 then (some ((-1), q5.2)) else ((f_X1_planOf  p0 q5.2).bind fun q7 => (f_X9_use  q7.1 p1 q7.2).bind fun q9 => (f_X4_run 89 50 p0 p1 q9).bind fun q11 => if 0 ≤ q11.1 then ((f_X5_rootType 4 p1 q11.2).bind fun q13 => (f_X2_pack 50 q13.1 q13.2).bind fun q15 => if (q15.1 87 2) ≤ 400 then ((f_X1_store  p2 p1 q15).bind fun q17 => some ((q17.1 87 2), q17)) else (some ((-4), q15))) else (some (q11.1, q11.2)))))

set_option maxRecDepth 100000 in
set_option maxHeartbeats 4000000 in
theorem b_X10_convert_e {p : Program} {l : Launch} {e : Env} {s : State} {m : MethodId} {args : Array Value} {below : List Frame} {meth : Method} {c : Code} {dC : Nat → ClassId} {dI : Nat → Nat → Nat} {a : Nat → Nat} {k : Nat → ClassId} {A : Nat → Prop} {q : Int32 × ST} (hC : CxA p s m args meth c dC dI k A cX10_convert RX10 (some .int) 5)   {p0 : Int32} {p1 : Int32} {p2 : Int32} {σ : ST} (h : f_X10_convert  p0 p1 p2 σ = some q) : GoA p l e ({ frames := 326, cells := 0, slots := 0, locals := 9104 } : Room) s m args below meth c (MQ below (qAi dC dI a k A q) args s 0 0 A) dC dI a k A 5 0 σ (lv_args 0 [.ref (a 0), .int p0, .int p1, .int p2]) [] := by
  have hC0 := hC
  obtain ⟨hx, hb, hr, hml, hown, hts, hlocks, hA, hN, hK⟩ := hC0
  intro H locs ls hP hD hS hl
  have hD0 : ∀ σ1 : ST, va_D A (wA a k σ1) := fun σ1 => wA_D hD
  replace hl : lv_has ls 5 [(0, .ref (a 0)), (1, .int p0), (2, .int p1), (3, .int p2)] := hl
  unfold f_X10_convert at h
  refine lv_aload_n hx hb dX10_convert_0 rfl (lv_at hl 0 rfl) ?_
  refine va_get (D := (dC, dI)) (ci := 10) (C := RX10) (T := TX10) (N := 16) hx hb hts inlX10 hown hK hP 0 gA_0 rfl 6 (by decide) (hts (.fieldLink RX10 48 "ShapeReader" "messages" "LShapeReader$Messages;") mw_21_12) (fun _ h9 => h9) rfl dX10_convert_1 ?_
  refine lv_iload_n hx hb dX10_convert_4 rfl (lv_at hl 1 rfl) ?_
  obtain ⟨q1, hc, h⟩ := ib h
  have hF := va_frees hD hS hA
  refine va_calli (va_runV (As := [.int p0]) (rest := []) ⟨hx, hb, hml, hown, hts⟩ (s_X1_isWritten hc) (cwV 1 hts (gV mw_24_13 mw_4_15 mw_4_16 mw_0_5 mw_48_0) rfl rfl rfl (by decide +kernel) ⟨(Nat.le_of_ble_eq_true rfl), (Nat.le_of_ble_eq_true rfl)⟩) (vV (ci := 1) (q0 := 37) hK hP hD hN rfl gA_37) rfl rfl hl.1 rfl (lv_room (Nat.le_of_ble_eq_true rfl)) dX10_convert_5 ⟨(Nat.le_of_ble_eq_true rfl), (Nat.le_of_ble_eq_true rfl)⟩) hS (fun q _ h => hF q h) hF (fun r2 u t H locs ht hvm hw hB _ _ hS => ?_)
  obtain rfl : r2 = q1.1 := hw
  replace hP : va_P (dC, dI) vwCl (wA a k q1.2) H := by rw [← ht]; exact hB.1
  replace hD := hD0 (q1.2)
  clear hB hF
  refine lv_if_eq (tgt := 30) hx hb dX10_convert_8 (by decide) (fun hc => ?_) (fun hc => ?_)
  · replace h := ip hc h
    refine lv_iconst (v := (-1)) hx hb dX10_convert_30 (by decide) ?_
    obtain rfl := Option.some.inj h
    exact W.iret hx hb hr (fun t ht hW => ⟨⟨_, (), rfl, rfl, ⟨by rw [ht]; exact hP, va_K.moved hW.alike hK, hD⟩⟩, hS.F ht⟩) hS.2.2 dX10_convert_31
  · replace h := iq hc h
    refine lv_aload_n hx hb dX10_convert_11 rfl (lv_at hl 0 rfl) ?_
    refine lv_iload_n hx hb dX10_convert_12 rfl (lv_at hl 2 rfl) ?_
    obtain ⟨q3, hc, h⟩ := ib h
    have hF := va_frees hD hS hA
    refine va_calli (va_runV (As := [.int p1]) (rest := []) ⟨hx, hb, hml, hown, hts⟩ (s_X10_isPlan hc) (cwV 1 hts (gV mw_23_15 mw_23_16 mw_23_17 mw_0_14 mw_52_29) rfl rfl rfl (by decide +kernel) ⟨(Nat.le_of_ble_eq_true rfl), (Nat.le_of_ble_eq_true rfl)⟩) (vV (ci := 10) (q0 := 0) hK hP hD hN rfl gA_0) rfl rfl hl.1 rfl (lv_room (Nat.le_of_ble_eq_true rfl)) dX10_convert_13 ⟨(Nat.le_of_ble_eq_true rfl), (Nat.le_of_ble_eq_true rfl)⟩) hS (fun q _ h => hF q h) hF (fun r4 u t H locs ht hvm hw hB _ _ hS => ?_)
    obtain rfl : r4 = q3.1 := hw
    replace hP : va_P (dC, dI) vwCl (wA a k q3.2) H := by rw [← ht]; exact hB.1
    replace hD := hD0 (q3.2)
    clear hB hF
    refine lv_if_eq (tgt := 30) hx hb dX10_convert_16 (by decide) (fun hc => ?_) (fun hc => ?_)
    · replace h := ip hc h
      refine lv_iconst (v := (-1)) hx hb dX10_convert_30 (by decide) ?_
      obtain rfl := Option.some.inj h
      exact W.iret hx hb hr (fun t ht hW => ⟨⟨_, (), rfl, rfl, ⟨by rw [ht]; exact hP, va_K.moved hW.alike hK, hD⟩⟩, hS.F ht⟩) hS.2.2 dX10_convert_31
    · replace h := iq hc h
      refine lv_aload_n hx hb dX10_convert_19 rfl (lv_at hl 0 rfl) ?_
      refine va_get (D := (dC, dI)) (ci := 10) (C := RX10) (T := TX10) (N := 16) hx hb hts inlX10 hown hK hP 0 gA_0 rfl 6 (by decide) (hts (.fieldLink RX10 48 "ShapeReader" "messages" "LShapeReader$Messages;") mw_21_12) (fun _ h9 => h9) rfl dX10_convert_20 ?_
      refine lv_iload_n hx hb dX10_convert_23 rfl (lv_at hl 3 rfl) ?_
      obtain ⟨q5, hc, h⟩ := ib h
      have hF := va_frees hD hS hA
      refine va_calli (va_runV (As := [.int p2]) (rest := []) ⟨hx, hb, hml, hown, hts⟩ (s_X1_isNumber hc) (cwV 1 hts (gV mw_23_14 mw_4_12 mw_4_13 mw_0_5 mw_47_29) rfl rfl rfl (by decide +kernel) ⟨(Nat.le_of_ble_eq_true rfl), (Nat.le_of_ble_eq_true rfl)⟩) (vV (ci := 1) (q0 := 37) hK hP hD hN rfl gA_37) rfl rfl hl.1 rfl (lv_room (Nat.le_of_ble_eq_true rfl)) dX10_convert_24 ⟨(Nat.le_of_ble_eq_true rfl), (Nat.le_of_ble_eq_true rfl)⟩) hS (fun q _ h => hF q h) hF (fun r6 u t H locs ht hvm hw hB _ _ hS => ?_)
      obtain rfl : r6 = q5.1 := hw
      replace hP : va_P (dC, dI) vwCl (wA a k q5.2) H := by rw [← ht]; exact hB.1
      replace hD := hD0 (q5.2)
      clear hB hF
      refine lv_if_ne (tgt := 32) hx hb dX10_convert_27 (by decide) (fun hc => ?_) (fun hc => ?_)
      · replace h := iq hc h
        refine lv_aload_n hx hb dX10_convert_32 rfl (lv_at hl 0 rfl) ?_
        refine va_get (D := (dC, dI)) (ci := 10) (C := RX10) (T := TX10) (N := 16) hx hb hts inlX10 hown hK hP 0 gA_0 rfl 8 (by decide) (hts (.fieldLink RX10 64 "ShapeReader" "ways" "LShapeReader$Ways;") mw_21_21) (fun _ h9 => h9) rfl dX10_convert_33 ?_
        refine lv_aload_n hx hb dX10_convert_36 rfl (lv_at hl 0 rfl) ?_
        refine va_get (D := (dC, dI)) (ci := 10) (C := RX10) (T := TX10) (N := 16) hx hb hts inlX10 hown hK hP 0 gA_0 rfl 6 (by decide) (hts (.fieldLink RX10 48 "ShapeReader" "messages" "LShapeReader$Messages;") mw_21_12) (fun _ h9 => h9) rfl dX10_convert_37 ?_
        refine lv_iload_n hx hb dX10_convert_40 rfl (lv_at hl 1 rfl) ?_
        obtain ⟨q7, hc, h⟩ := ib h
        have hF := va_frees hD hS hA
        refine va_calli (va_runV (As := [.int p0]) (rest := [.ref (a 48)]) ⟨hx, hb, hml, hown, hts⟩ (s_X1_planOf hc) (cwV 1 hts (gV mw_24_15 mw_11_3 mw_11_4 mw_0_5 mw_48_3) rfl rfl rfl (by decide +kernel) ⟨(Nat.le_of_ble_eq_true rfl), (Nat.le_of_ble_eq_true rfl)⟩) (vV (ci := 1) (q0 := 37) hK hP hD hN rfl gA_37) rfl rfl hl.1 rfl (lv_room (Nat.le_of_ble_eq_true rfl)) dX10_convert_41 ⟨(Nat.le_of_ble_eq_true rfl), (Nat.le_of_ble_eq_true rfl)⟩) hS (fun q _ h => hF q h) hF (fun r8 u t H locs ht hvm hw hB _ _ hS => ?_)
        obtain rfl : r8 = q7.1 := hw
        replace hP : va_P (dC, dI) vwCl (wA a k q7.2) H := by rw [← ht]; exact hB.1
        replace hD := hD0 (q7.2)
        clear hB hF
        refine lv_iload_n hx hb dX10_convert_44 rfl (lv_at hl 2 rfl) ?_
        obtain ⟨q9, hc, h⟩ := ib h
        have hF := va_frees hD hS hA
        refine va_callv (va_runV (As := [.int q7.1, .int p1]) (rest := []) ⟨hx, hb, hml, hown, hts⟩ (s_X9_use hc) (cwV 2 hts (gV mw_25_12 mw_25_13 mw_25_14 mw_0_13 mw_52_22) rfl rfl rfl (by decide +kernel) ⟨(Nat.le_of_ble_eq_true rfl), (Nat.le_of_ble_eq_true rfl)⟩) (vV (ci := 9) (q0 := 48) hK hP hD hN rfl gA_48) rfl rfl hl.1 rfl (lv_room (Nat.le_of_ble_eq_true rfl)) dX10_convert_45 ⟨(Nat.le_of_ble_eq_true rfl), (Nat.le_of_ble_eq_true rfl)⟩) hS (fun q _ h => hF q h) hF (fun u t H locs ht hvm hw hB _ _ hS => ?_)
        replace hP : va_P (dC, dI) vwCl (wA a k q9) H := by rw [← ht]; exact hB.1
        replace hD := hD0 (q9)
        clear hB hF
        refine lv_aload_n hx hb dX10_convert_48 rfl (lv_at hl 0 rfl) ?_
        refine va_get (D := (dC, dI)) (ci := 10) (C := RX10) (T := TX10) (N := 16) hx hb hts inlX10 hown hK hP 0 gA_0 rfl 14 (by decide) (hts (.fieldLink RX10 104 "ShapeReader" "latest" "LShapeReader$Reading;") mw_22_13) (fun _ h9 => h9) rfl dX10_convert_49 ?_
        refine lv_iload_n hx hb dX10_convert_52 rfl (lv_at hl 1 rfl) ?_
        refine lv_iload_n hx hb dX10_convert_53 rfl (lv_at hl 2 rfl) ?_
        refine lv_aload_n hx hb dX10_convert_54 rfl (lv_at hl 0 rfl) ?_
        refine va_get (D := (dC, dI)) (ci := 10) (C := RX10) (T := TX10) (N := 16) hx hb hts inlX10 hown hK hP 0 gA_0 rfl 9 (by decide) (hts (.fieldLink RX10 73 "ShapeReader" "shown" "LShapeReader$Tree;") mw_21_26) (fun _ h9 => h9) rfl dX10_convert_55 ?_
        obtain ⟨q11, hc, h⟩ := ib h
        have hF := va_frees hD hS hA
        refine va_calli (va_runV (As := [.int p0, .int p1, .ref (a 50)]) (rest := []) ⟨hx, hb, hml, hown, hts⟩ (s_X4_run_89_50 hc) (cwV 3 hts (gV mw_25_15 mw_25_16 mw_25_17 mw_0_8 mw_49_0) rfl rfl rfl (by decide +kernel) ⟨(Nat.le_of_ble_eq_true rfl), (Nat.le_of_ble_eq_true rfl)⟩) (vV (ci := 4) (q0 := 89) hK hP hD hN rfl gA_89) rfl rfl hl.1 rfl (lv_room (Nat.le_of_ble_eq_true rfl)) dX10_convert_58 ⟨(Nat.le_of_ble_eq_true rfl), (Nat.le_of_ble_eq_true rfl)⟩) hS (fun q _ h => hF q h) hF (fun r12 u t H locs ht hvm hw hB _ _ hS => ?_)
        obtain rfl : r12 = q11.1 := hw
        replace hP : va_P (dC, dI) vwCl (wA a k q11.2) H := by rw [← ht]; exact hB.1
        replace hD := hD0 (q11.2)
        clear hB hF
        refine lv_istore (lv' := [(4, .int q11.1), (0, .ref (a 0)), (1, .int p0), (2, .int p1), (3, .int p2)]) hx hb dX10_convert_61 hl (by decide) rfl (fun ls hl => ?_)
        refine lv_iload hx hb dX10_convert_63 (lv_at hl 0 rfl) ?_
        refine lv_if_ge (tgt := 71) hx hb dX10_convert_65 (by decide) (fun hc => ?_) (fun hc => ?_)
        · replace h := ip hc h
          refine lv_aload_n hx hb dX10_convert_71 rfl (lv_at hl 1 rfl) ?_
          refine va_get (D := (dC, dI)) (ci := 10) (C := RX10) (T := TX10) (N := 16) hx hb hts inlX10 hown hK hP 0 gA_0 rfl 13 (by decide) (hts (.fieldLink RX10 95 "ShapeReader" "packer" "LShapeReader$Packer;") mw_22_8) (fun _ h9 => h9) rfl dX10_convert_72 ?_
          refine lv_aload_n hx hb dX10_convert_75 rfl (lv_at hl 1 rfl) ?_
          refine va_get (D := (dC, dI)) (ci := 10) (C := RX10) (T := TX10) (N := 16) hx hb hts inlX10 hown hK hP 0 gA_0 rfl 9 (by decide) (hts (.fieldLink RX10 73 "ShapeReader" "shown" "LShapeReader$Tree;") mw_21_26) (fun _ h9 => h9) rfl dX10_convert_76 ?_
          refine lv_aload_n hx hb dX10_convert_79 rfl (lv_at hl 1 rfl) ?_
          refine va_get (D := (dC, dI)) (ci := 10) (C := RX10) (T := TX10) (N := 16) hx hb hts inlX10 hown hK hP 0 gA_0 rfl 3 (by decide) (hts (.fieldLink RX10 29 "ShapeReader" "shapes" "LShapeReader$Shapes;") mw_21_1) (fun _ h9 => h9) rfl dX10_convert_80 ?_
          refine lv_iload_n hx hb dX10_convert_83 rfl (lv_at hl 3 rfl) ?_
          obtain ⟨q13, hc, h⟩ := ib h
          have hF := va_frees hD hS hA
          refine va_calli (va_runV (As := [.int p1]) (rest := [.ref (a 50), .ref (a 87)]) ⟨hx, hb, hml, hown, hts⟩ (s_X5_rootType_4 hc) (cwV 1 hts (gV mw_23_18 mw_3_6 mw_3_7 mw_0_9 mw_49_28) rfl rfl rfl (by decide +kernel) ⟨(Nat.le_of_ble_eq_true rfl), (Nat.le_of_ble_eq_true rfl)⟩) (vV (ci := 5) (q0 := 4) hK hP hD hN rfl gA_4) rfl rfl hl.1 rfl (lv_room (Nat.le_of_ble_eq_true rfl)) dX10_convert_84 ⟨(Nat.le_of_ble_eq_true rfl), (Nat.le_of_ble_eq_true rfl)⟩) hS (fun q _ h => hF q h) hF (fun r14 u t H locs ht hvm hw hB _ _ hS => ?_)
          obtain rfl : r14 = q13.1 := hw
          replace hP : va_P (dC, dI) vwCl (wA a k q13.2) H := by rw [← ht]; exact hB.1
          replace hD := hD0 (q13.2)
          clear hB hF
          obtain ⟨q15, hc, h⟩ := ib h
          have hF := va_frees hD hS hA
          refine va_callv (va_runV (As := [.ref (a 50), .int q13.1]) (rest := []) ⟨hx, hb, hml, hown, hts⟩ (s_X2_pack_50 hc) (cwV 2 hts (gV mw_23_22 mw_23_23 mw_23_24 mw_0_6 mw_48_10) rfl rfl rfl (by decide +kernel) ⟨(Nat.le_of_ble_eq_true rfl), (Nat.le_of_ble_eq_true rfl)⟩) (vV (ci := 2) (q0 := 87) hK hP hD hN rfl gA_87) rfl rfl hl.1 rfl (lv_room (Nat.le_of_ble_eq_true rfl)) dX10_convert_87 ⟨(Nat.le_of_ble_eq_true rfl), (Nat.le_of_ble_eq_true rfl)⟩) hS (fun q _ h => hF q h) hF (fun u t H locs ht hvm hw hB _ _ hS => ?_)
          replace hP : va_P (dC, dI) vwCl (wA a k q15) H := by rw [← ht]; exact hB.1
          replace hD := hD0 (q15)
          clear hB hF
          refine lv_aload_n hx hb dX10_convert_90 rfl (lv_at hl 1 rfl) ?_
          refine va_get (D := (dC, dI)) (ci := 10) (C := RX10) (T := TX10) (N := 16) hx hb hts inlX10 hown hK hP 0 gA_0 rfl 13 (by decide) (hts (.fieldLink RX10 95 "ShapeReader" "packer" "LShapeReader$Packer;") mw_22_8) (fun _ h9 => h9) rfl dX10_convert_91 ?_
          refine va_get (D := (dC, dI)) (ci := 2) (C := RX2) (T := TX2) (N := 3) hx hb hts inlX2 hown hK hP 87 gA_87 rfl 2 (by decide) (hts (.fieldLink RX10 157 "ShapeReader$Packer" "size" "I") mw_23_25) (fun _ h9 => h9) rfl dX10_convert_94 ?_
          refine lv_sipush (v := 400) hx hb dX10_convert_97 (by decide) ?_
          refine lv_icmp_le (tgt := 106) hx hb dX10_convert_100 (by decide) (fun hc => ?_) (fun hc => ?_)
          · replace h := ip hc h
            refine lv_aload_n hx hb dX10_convert_106 rfl (lv_at hl 1 rfl) ?_
            refine va_get (D := (dC, dI)) (ci := 10) (C := RX10) (T := TX10) (N := 16) hx hb hts inlX10 hown hK hP 0 gA_0 rfl 6 (by decide) (hts (.fieldLink RX10 48 "ShapeReader" "messages" "LShapeReader$Messages;") mw_21_12) (fun _ h9 => h9) rfl dX10_convert_107 ?_
            refine lv_iload_n hx hb dX10_convert_110 rfl (lv_at hl 4 rfl) ?_
            refine lv_iload_n hx hb dX10_convert_111 rfl (lv_at hl 3 rfl) ?_
            refine lv_aload_n hx hb dX10_convert_112 rfl (lv_at hl 1 rfl) ?_
            refine va_get (D := (dC, dI)) (ci := 10) (C := RX10) (T := TX10) (N := 16) hx hb hts inlX10 hown hK hP 0 gA_0 rfl 13 (by decide) (hts (.fieldLink RX10 95 "ShapeReader" "packer" "LShapeReader$Packer;") mw_22_8) (fun _ h9 => h9) rfl dX10_convert_113 ?_
            obtain ⟨q17, hc, h⟩ := ib h
            have hF := va_frees hD hS hA
            refine va_callv (va_runV (As := [.int p2, .int p1, .ref (a 87)]) (rest := []) ⟨hx, hb, hml, hown, hts⟩ (s_X1_store hc) (cwV 3 hts (gV mw_23_27 mw_23_28 mw_23_29 mw_0_5 mw_48_7) rfl rfl rfl (by decide +kernel) ⟨(Nat.le_of_ble_eq_true rfl), (Nat.le_of_ble_eq_true rfl)⟩) (vV (ci := 1) (q0 := 37) hK hP hD hN rfl gA_37) rfl rfl hl.1 rfl (lv_room (Nat.le_of_ble_eq_true rfl)) dX10_convert_116 ⟨(Nat.le_of_ble_eq_true rfl), (Nat.le_of_ble_eq_true rfl)⟩) hS (fun q _ h => hF q h) hF (fun u t H locs ht hvm hw hB _ _ hS => ?_)
            replace hP : va_P (dC, dI) vwCl (wA a k q17) H := by rw [← ht]; exact hB.1
            replace hD := hD0 (q17)
            clear hB hF
            refine lv_aload_n hx hb dX10_convert_119 rfl (lv_at hl 1 rfl) ?_
            refine va_get (D := (dC, dI)) (ci := 10) (C := RX10) (T := TX10) (N := 16) hx hb hts inlX10 hown hK hP 0 gA_0 rfl 13 (by decide) (hts (.fieldLink RX10 95 "ShapeReader" "packer" "LShapeReader$Packer;") mw_22_8) (fun _ h9 => h9) rfl dX10_convert_120 ?_
            refine va_get (D := (dC, dI)) (ci := 2) (C := RX2) (T := TX2) (N := 3) hx hb hts inlX2 hown hK hP 87 gA_87 rfl 2 (by decide) (hts (.fieldLink RX10 157 "ShapeReader$Packer" "size" "I") mw_23_25) (fun _ h9 => h9) rfl dX10_convert_123 ?_
            obtain rfl := Option.some.inj h
            exact W.iret hx hb hr (fun t ht hW => ⟨⟨_, (), rfl, rfl, ⟨by rw [ht]; exact hP, va_K.moved hW.alike hK, hD⟩⟩, hS.F ht⟩) hS.2.2 dX10_convert_126
          · replace h := iq hc h
            refine lv_bipush (v := (-4)) hx hb dX10_convert_103 (by decide) ?_
            obtain rfl := Option.some.inj h
            exact W.iret hx hb hr (fun t ht hW => ⟨⟨_, (), rfl, rfl, ⟨by rw [ht]; exact hP, va_K.moved hW.alike hK, hD⟩⟩, hS.F ht⟩) hS.2.2 dX10_convert_105
        · replace h := iq hc h
          refine lv_iload hx hb dX10_convert_68 (lv_at hl 0 rfl) ?_
          obtain rfl := Option.some.inj h
          exact W.iret hx hb hr (fun t ht hW => ⟨⟨_, (), rfl, rfl, ⟨by rw [ht]; exact hP, va_K.moved hW.alike hK, hD⟩⟩, hS.F ht⟩) hS.2.2 dX10_convert_70
      · replace h := ip hc h
        refine lv_iconst (v := (-1)) hx hb dX10_convert_30 (by decide) ?_
        obtain rfl := Option.some.inj h
        exact W.iret hx hb hr (fun t ht hW => ⟨⟨_, (), rfl, rfl, ⟨by rw [ht]; exact hP, va_K.moved hW.alike hK, hD⟩⟩, hS.F ht⟩) hS.2.2 dX10_convert_31

theorem s_X10_convert {l : Launch} {dC : Nat → ClassId} {dI : Nat → Nat → Nat} {a : Nat → Nat} {k : Nat → ClassId} {sz : Nat} {p0 : Int32} {p1 : Int32} {p2 : Int32} {σ : ST} {q : Int32 × ST} (h : f_X10_convert  p0 p1 p2 σ = some q) : Met l yX10_convert (.code yX10_convert cX10_convert 5 (some .int) :: pw) ({ frames := 326, cells := 0, slots := 0, locals := 9104 } : Room) (va_Pc [.ref (a 0), .int p0, .int p1, .int p2] (vPre dC dI (wA a k σ) (tA k) sz)) (qAi dC dI a k (va_A (wA a k σ) sz) q) 0 0 (va_A (wA a k σ) sz) := metA (fun A => qAi dC dI a k A q) (plainFor_of_name (by decide)) (Nat.le_of_ble_eq_true rfl) (fun _ _ _ _ _ _ _ _ hC => b_X10_convert_e hC h)

def f_X1_writtenBits_23 (k4 : Int32 → Int32 → ST → Option (Int32 × ST)) (x1 : Int32) (x2 : Int32) (σ : ST) : Option (Int32 × ST) := k4 x1 (x2 + 1) σ
def f_X1_writtenBits_4  : Nat → Int32 → Int32 → ST → Option (Int32 × ST)
  | 0, _, _, _ => none
  | n + 1, x1, x2, σ => if 4 ≤ x2 then (some (x1, σ)) else ((f_X1_isWritten  x2 σ).bind fun q1 => if q1.1 = 0 then (f_X1_writtenBits_23 (f_X1_writtenBits_4  n) x1 x2 q1.2) else (f_X1_writtenBits_23 (f_X1_writtenBits_4  n) (x1 ||| (1 <<< (x2 &&& 31))) x2 q1.2))
def f_X1_writtenBits (σ : ST) : Option (Int32 × ST) := f_X1_writtenBits_4  FU 0 0 σ

set_option maxRecDepth 100000 in
set_option maxHeartbeats 4000000 in
theorem b_X1_writtenBits_23 {p : Program} {l : Launch} {e : Env} {s : State} {m : MethodId} {args : Array Value} {below : List Frame} {meth : Method} {c : Code} {dC : Nat → ClassId} {dI : Nat → Nat → Nat} {a : Nat → Nat} {k : Nat → ClassId} {A : Nat → Prop} {q : Int32 × ST} (hC : CxA p s m args meth c dC dI k A cX1_writtenBits RX1 (some .int) 3)  {k4 : Int32 → Int32 → ST → Option (Int32 × ST)} (hk4 : ∀ (x1 : Int32) (x2 : Int32) (σ : ST), k4 x1 x2 σ = some q → GoA p l e ({ frames := 2, cells := 0, slots := 0, locals := 42 } : Room) s m args below meth c (MQ below (qAi dC dI a k A q) args s 0 0 A) dC dI a k A 3 4 σ [(0, .ref (a 37)), (1, .int x1), (2, .int x2)] []) {x1 : Int32} {x2 : Int32} {σ : ST} (h : f_X1_writtenBits_23 k4 x1 x2 σ = some q) : GoA p l e ({ frames := 2, cells := 0, slots := 0, locals := 42 } : Room) s m args below meth c (MQ below (qAi dC dI a k A q) args s 0 0 A) dC dI a k A 3 23 σ [(0, .ref (a 37)), (1, .int x1), (2, .int x2)] [] := by
  have hC0 := hC
  obtain ⟨hx, hb, hr, hml, hown, hts, hlocks, hA, hN, hK⟩ := hC0
  intro H locs ls hP hD hS hl
  have hD0 : ∀ σ1 : ST, va_D A (wA a k σ1) := fun σ1 => wA_D hD
  unfold f_X1_writtenBits_23 at h
  refine lv_iinc (v := (x2 + 1)) (lv' := [(2, .int (x2 + 1)), (0, .ref (a 37)), (1, .int x1)]) hx hb dX1_writtenBits_23 hl (k := 2) rfl rfl (by decide) rfl (fun ls hl => ?_)
  refine lv_goto (tgt := 4) hx hb dX1_writtenBits_26 (by decide) ?_
  exact hk4 _ _ _ h _ _ _ hP hD hS (lv_sub hl [1, 2, 0] rfl)

set_option maxRecDepth 100000 in
set_option maxHeartbeats 4000000 in
theorem b_X1_writtenBits_4 {p : Program} {l : Launch} {e : Env} {s : State} {m : MethodId} {args : Array Value} {below : List Frame} {meth : Method} {c : Code} {dC : Nat → ClassId} {dI : Nat → Nat → Nat} {a : Nat → Nat} {k : Nat → ClassId} {A : Nat → Prop} {q : Int32 × ST} (hC : CxA p s m args meth c dC dI k A cX1_writtenBits RX1 (some .int) 3)   : ∀ (n : Nat) (x1 : Int32) (x2 : Int32) (σ : ST), f_X1_writtenBits_4  n x1 x2 σ = some q → GoA p l e ({ frames := 2, cells := 0, slots := 0, locals := 42 } : Room) s m args below meth c (MQ below (qAi dC dI a k A q) args s 0 0 A) dC dI a k A 3 4 σ [(0, .ref (a 37)), (1, .int x1), (2, .int x2)] [] := by
  intro n
  induction n with
  | zero =>
    intro x1 x2 σ h
    rw [f_X1_writtenBits_4] at h
    cases h
  | succ n ih =>
    intro x1 x2 σ h
    have hC0 := hC
    obtain ⟨hx, hb, hr, hml, hown, hts, hlocks, hA, hN, hK⟩ := hC0
    intro H locs ls hP hD hS hl
    have hD0 : ∀ σ1 : ST, va_D A (wA a k σ1) := fun σ1 => wA_D hD
    rw [f_X1_writtenBits_4] at h
    refine lv_iload_n hx hb dX1_writtenBits_4 rfl (lv_at hl 2 rfl) ?_
    refine lv_iconst (v := 4) hx hb dX1_writtenBits_5 (by decide) ?_
    refine lv_icmp_ge (tgt := 29) hx hb dX1_writtenBits_6 (by decide) (fun hc => ?_) (fun hc => ?_)
    · replace h := ip hc h
      refine lv_iload_n hx hb dX1_writtenBits_29 rfl (lv_at hl 1 rfl) ?_
      obtain rfl := Option.some.inj h
      exact W.iret hx hb hr (fun t ht hW => ⟨⟨_, (), rfl, rfl, ⟨by rw [ht]; exact hP, va_K.moved hW.alike hK, hD⟩⟩, hS.F ht⟩) hS.2.2 dX1_writtenBits_30
    · replace h := iq hc h
      refine lv_aload_n hx hb dX1_writtenBits_9 rfl (lv_at hl 0 rfl) ?_
      refine lv_iload_n hx hb dX1_writtenBits_10 rfl (lv_at hl 2 rfl) ?_
      obtain ⟨q1, hc, h⟩ := ib h
      have hF := va_frees hD hS hA
      refine va_calli (va_runV (As := [.int x2]) (rest := []) ⟨hx, hb, hml, hown, hts⟩ (s_X1_isWritten hc) (cwV 1 hts (gV mw_4_14 mw_4_15 mw_4_16 mw_0_5 mw_48_0) rfl rfl rfl (by decide +kernel) ⟨(Nat.le_of_ble_eq_true rfl), (Nat.le_of_ble_eq_true rfl)⟩) (vV (ci := 1) (q0 := 37) hK hP hD hN rfl gA_37) rfl rfl hl.1 rfl (lv_room (Nat.le_of_ble_eq_true rfl)) dX1_writtenBits_11 ⟨(Nat.le_of_ble_eq_true rfl), (Nat.le_of_ble_eq_true rfl)⟩) hS (fun q _ h => hF q h) hF (fun r2 u t H locs ht hvm hw hB _ _ hS => ?_)
      obtain rfl : r2 = q1.1 := hw
      replace hP : va_P (dC, dI) vwCl (wA a k q1.2) H := by rw [← ht]; exact hB.1
      replace hD := hD0 (q1.2)
      clear hB hF
      refine lv_if_eq (tgt := 23) hx hb dX1_writtenBits_14 (by decide) (fun hc => ?_) (fun hc => ?_)
      · replace h := ip hc h
        exact b_X1_writtenBits_23 hC ih h _ _ _ hP hD hS (lv_sub hl [0, 1, 2] rfl)
      · replace h := iq hc h
        refine lv_iload_n hx hb dX1_writtenBits_17 rfl (lv_at hl 1 rfl) ?_
        refine lv_iconst (v := 1) hx hb dX1_writtenBits_18 (by decide) ?_
        refine lv_iload_n hx hb dX1_writtenBits_19 rfl (lv_at hl 2 rfl) ?_
        refine lv_ishl hx hb dX1_writtenBits_20 ?_
        refine lv_ior hx hb dX1_writtenBits_21 ?_
        refine lv_istore_n (lv' := [(1, .int (x1 ||| (1 <<< (x2 &&& 31)))), (0, .ref (a 37)), (2, .int x2)]) hx hb dX1_writtenBits_22 rfl hl (by decide) rfl (fun ls hl => ?_)
        exact b_X1_writtenBits_23 hC ih h _ _ _ hP hD hS (lv_sub hl [1, 0, 2] rfl)

set_option maxRecDepth 100000 in
set_option maxHeartbeats 4000000 in
theorem b_X1_writtenBits_e {p : Program} {l : Launch} {e : Env} {s : State} {m : MethodId} {args : Array Value} {below : List Frame} {meth : Method} {c : Code} {dC : Nat → ClassId} {dI : Nat → Nat → Nat} {a : Nat → Nat} {k : Nat → ClassId} {A : Nat → Prop} {q : Int32 × ST} (hC : CxA p s m args meth c dC dI k A cX1_writtenBits RX1 (some .int) 3)    {σ : ST} (h : f_X1_writtenBits   σ = some q) : GoA p l e ({ frames := 2, cells := 0, slots := 0, locals := 42 } : Room) s m args below meth c (MQ below (qAi dC dI a k A q) args s 0 0 A) dC dI a k A 3 0 σ (lv_args 0 [.ref (a 37)]) [] := by
  have hC0 := hC
  obtain ⟨hx, hb, hr, hml, hown, hts, hlocks, hA, hN, hK⟩ := hC0
  intro H locs ls hP hD hS hl
  have hD0 : ∀ σ1 : ST, va_D A (wA a k σ1) := fun σ1 => wA_D hD
  replace hl : lv_has ls 3 [(0, .ref (a 37))] := hl
  unfold f_X1_writtenBits at h
  refine lv_iconst (v := 0) hx hb dX1_writtenBits_0 (by decide) ?_
  refine lv_istore_n (lv' := [(1, .int 0), (0, .ref (a 37))]) hx hb dX1_writtenBits_1 rfl hl (by decide) rfl (fun ls hl => ?_)
  refine lv_iconst (v := 0) hx hb dX1_writtenBits_2 (by decide) ?_
  refine lv_istore_n (lv' := [(2, .int 0), (1, .int 0), (0, .ref (a 37))]) hx hb dX1_writtenBits_3 rfl hl (by decide) rfl (fun ls hl => ?_)
  exact b_X1_writtenBits_4 hC FU _ _ _ h _ _ _ hP hD hS (lv_sub hl [2, 1, 0] rfl)

theorem s_X1_writtenBits {l : Launch} {dC : Nat → ClassId} {dI : Nat → Nat → Nat} {a : Nat → Nat} {k : Nat → ClassId} {sz : Nat}  {σ : ST} {q : Int32 × ST} (h : f_X1_writtenBits   σ = some q) : Met l yX1_writtenBits (.code yX1_writtenBits cX1_writtenBits 3 (some .int) :: pw) ({ frames := 2, cells := 0, slots := 0, locals := 42 } : Room) (va_Pc [.ref (a 37)] (vPre dC dI (wA a k σ) (tA k) sz)) (qAi dC dI a k (va_A (wA a k σ) sz) q) 0 0 (va_A (wA a k σ) sz) := metA (fun A => qAi dC dI a k A q) (plainFor_of_name (by decide)) (Nat.le_of_ble_eq_true rfl) (fun _ _ _ _ _ _ _ _ hC => b_X1_writtenBits_e hC h)

def f_X10_count (p0 : Int32) (σ : ST) : Option (Int32 × ST) := if p0 = 0 then (some ((σ.1 4 0), σ)) else (if p0 = 1 then ((f_X1_writtenBits   σ).bind fun q7 => some (q7.1, q7.2)) else (if p0 = 2 then (some ((σ.1 50 1), σ)) else (if p0 = 3 then (some ((σ.1 48 2), σ)) else (if p0 = 4 then (some ((σ.1 48 3), σ)) else (if p0 = 5 then (some ((σ.1 0 1), σ)) else (some ((-1), σ)))))))

set_option maxRecDepth 100000 in
set_option maxHeartbeats 4000000 in
theorem b_X10_count_e {p : Program} {l : Launch} {e : Env} {s : State} {m : MethodId} {args : Array Value} {below : List Frame} {meth : Method} {c : Code} {dC : Nat → ClassId} {dI : Nat → Nat → Nat} {a : Nat → Nat} {k : Nat → ClassId} {A : Nat → Prop} {q : Int32 × ST} (hC : CxA p s m args meth c dC dI k A cX10_count RX10 (some .int) 2)   {p0 : Int32} {σ : ST} (h : f_X10_count  p0 σ = some q) : GoA p l e ({ frames := 3, cells := 0, slots := 0, locals := 64 } : Room) s m args below meth c (MQ below (qAi dC dI a k A q) args s 0 0 A) dC dI a k A 2 0 σ (lv_args 0 [.ref (a 0), .int p0]) [] := by
  have hC0 := hC
  obtain ⟨hx, hb, hr, hml, hown, hts, hlocks, hA, hN, hK⟩ := hC0
  intro H locs ls hP hD hS hl
  have hD0 : ∀ σ1 : ST, va_D A (wA a k σ1) := fun σ1 => wA_D hD
  replace hl : lv_has ls 2 [(0, .ref (a 0)), (1, .int p0)] := hl
  unfold f_X10_count at h
  refine lv_iload_n hx hb dX10_count_0 rfl (lv_at hl 1 rfl) ?_
  rcases (il_sw6 p0 (0) (1) (2) (3) (4) (5)) with s1 | s2 | s3 | s4 | s5 | s6 | ⟨s1, s2, s3, s4, s5, s6⟩
  · replace h := ip s1 h
    refine lv_tableIn (off := 39) (tgt := 40) hx hb dX10_count_1 (by rw [s1]; decide) (by rw [s1]; decide) (by rw [s1]; rfl) (by decide) ?_
    refine lv_aload_n hx hb dX10_count_40 rfl (lv_at hl 0 rfl) ?_
    refine va_get (D := (dC, dI)) (ci := 10) (C := RX10) (T := TX10) (N := 16) hx hb hts inlX10 hown hK hP 0 gA_0 rfl 3 (by decide) (hts (.fieldLink RX10 29 "ShapeReader" "shapes" "LShapeReader$Shapes;") mw_21_1) (fun _ h9 => h9) rfl dX10_count_41 ?_
    refine va_get (D := (dC, dI)) (ci := 5) (C := RX5) (T := TX5) (N := 17) hx hb hts inlX5 hown hK hP 4 gA_4 rfl 0 (by decide) (hts (.fieldLink RX10 137 "ShapeReader$Shapes" "planCount" "I") mw_23_13) (fun _ h9 => h9) rfl dX10_count_44 ?_
    obtain rfl := Option.some.inj h
    exact W.iret hx hb hr (fun t ht hW => ⟨⟨_, (), rfl, rfl, ⟨by rw [ht]; exact hP, va_K.moved hW.alike hK, hD⟩⟩, hS.F ht⟩) hS.2.2 dX10_count_47
  · replace h := ip s2 (iq (by rw [s2]; decide) h)
    refine lv_tableIn (off := 47) (tgt := 48) hx hb dX10_count_1 (by rw [s2]; decide) (by rw [s2]; decide) (by rw [s2]; rfl) (by decide) ?_
    refine lv_aload_n hx hb dX10_count_48 rfl (lv_at hl 0 rfl) ?_
    refine va_get (D := (dC, dI)) (ci := 10) (C := RX10) (T := TX10) (N := 16) hx hb hts inlX10 hown hK hP 0 gA_0 rfl 6 (by decide) (hts (.fieldLink RX10 48 "ShapeReader" "messages" "LShapeReader$Messages;") mw_21_12) (fun _ h9 => h9) rfl dX10_count_49 ?_
    obtain ⟨q7, hc, h⟩ := ib h
    have hF := va_frees hD hS hA
    refine va_calli (va_runV (As := []) (rest := []) ⟨hx, hb, hml, hown, hts⟩ (s_X1_writtenBits hc) (cwV 0 hts (gV mw_26_12 mw_26_13 mw_26_14 mw_0_5 mw_48_8) rfl rfl rfl (by decide +kernel) ⟨(Nat.le_of_ble_eq_true rfl), (Nat.le_of_ble_eq_true rfl)⟩) (vV (ci := 1) (q0 := 37) hK hP hD hN rfl gA_37) rfl rfl hl.1 rfl (lv_room (Nat.le_of_ble_eq_true rfl)) dX10_count_52 ⟨(Nat.le_of_ble_eq_true rfl), (Nat.le_of_ble_eq_true rfl)⟩) hS (fun q _ h => hF q h) hF (fun r8 u t H locs ht hvm hw hB _ _ hS => ?_)
    obtain rfl : r8 = q7.1 := hw
    replace hP : va_P (dC, dI) vwCl (wA a k q7.2) H := by rw [← ht]; exact hB.1
    replace hD := hD0 (q7.2)
    clear hB hF
    obtain rfl := Option.some.inj h
    exact W.iret hx hb hr (fun t ht hW => ⟨⟨_, (), rfl, rfl, ⟨by rw [ht]; exact hP, va_K.moved hW.alike hK, hD⟩⟩, hS.F ht⟩) hS.2.2 dX10_count_55
  · replace h := ip s3 (iq (by rw [s3]; decide) (iq (by rw [s3]; decide) h))
    refine lv_tableIn (off := 55) (tgt := 56) hx hb dX10_count_1 (by rw [s3]; decide) (by rw [s3]; decide) (by rw [s3]; rfl) (by decide) ?_
    refine lv_aload_n hx hb dX10_count_56 rfl (lv_at hl 0 rfl) ?_
    refine va_get (D := (dC, dI)) (ci := 10) (C := RX10) (T := TX10) (N := 16) hx hb hts inlX10 hown hK hP 0 gA_0 rfl 9 (by decide) (hts (.fieldLink RX10 73 "ShapeReader" "shown" "LShapeReader$Tree;") mw_21_26) (fun _ h9 => h9) rfl dX10_count_57 ?_
    refine va_get (D := (dC, dI)) (ci := 7) (C := RX7) (T := TX7) (N := 13) hx hb hts inlX7 hown hK hP 50 gA_50 rfl 1 (by decide) (hts (.fieldLink RX10 305 "ShapeReader$Tree" "size" "I") mw_26_15) (fun _ h9 => h9) rfl dX10_count_60 ?_
    obtain rfl := Option.some.inj h
    exact W.iret hx hb hr (fun t ht hW => ⟨⟨_, (), rfl, rfl, ⟨by rw [ht]; exact hP, va_K.moved hW.alike hK, hD⟩⟩, hS.F ht⟩) hS.2.2 dX10_count_63
  · replace h := ip s4 (iq (by rw [s4]; decide) (iq (by rw [s4]; decide) (iq (by rw [s4]; decide) h)))
    refine lv_tableIn (off := 63) (tgt := 64) hx hb dX10_count_1 (by rw [s4]; decide) (by rw [s4]; decide) (by rw [s4]; rfl) (by decide) ?_
    refine lv_aload_n hx hb dX10_count_64 rfl (lv_at hl 0 rfl) ?_
    refine va_get (D := (dC, dI)) (ci := 10) (C := RX10) (T := TX10) (N := 16) hx hb hts inlX10 hown hK hP 0 gA_0 rfl 8 (by decide) (hts (.fieldLink RX10 64 "ShapeReader" "ways" "LShapeReader$Ways;") mw_21_21) (fun _ h9 => h9) rfl dX10_count_65 ?_
    refine va_get (D := (dC, dI)) (ci := 9) (C := RX9) (T := TX9) (N := 4) hx hb hts inlX9 hown hK hP 48 gA_48 rfl 2 (by decide) (hts (.fieldLink RX10 306 "ShapeReader$Ways" "found" "I") mw_26_16) (fun _ h9 => h9) rfl dX10_count_68 ?_
    obtain rfl := Option.some.inj h
    exact W.iret hx hb hr (fun t ht hW => ⟨⟨_, (), rfl, rfl, ⟨by rw [ht]; exact hP, va_K.moved hW.alike hK, hD⟩⟩, hS.F ht⟩) hS.2.2 dX10_count_71
  · replace h := ip s5 (iq (by rw [s5]; decide) (iq (by rw [s5]; decide) (iq (by rw [s5]; decide) (iq (by rw [s5]; decide) h))))
    refine lv_tableIn (off := 71) (tgt := 72) hx hb dX10_count_1 (by rw [s5]; decide) (by rw [s5]; decide) (by rw [s5]; rfl) (by decide) ?_
    refine lv_aload_n hx hb dX10_count_72 rfl (lv_at hl 0 rfl) ?_
    refine va_get (D := (dC, dI)) (ci := 10) (C := RX10) (T := TX10) (N := 16) hx hb hts inlX10 hown hK hP 0 gA_0 rfl 8 (by decide) (hts (.fieldLink RX10 64 "ShapeReader" "ways" "LShapeReader$Ways;") mw_21_21) (fun _ h9 => h9) rfl dX10_count_73 ?_
    refine va_get (D := (dC, dI)) (ci := 9) (C := RX9) (T := TX9) (N := 4) hx hb hts inlX9 hown hK hP 48 gA_48 rfl 3 (by decide) (hts (.fieldLink RX10 309 "ShapeReader$Ways" "notFound" "I") mw_26_17) (fun _ h9 => h9) rfl dX10_count_76 ?_
    obtain rfl := Option.some.inj h
    exact W.iret hx hb hr (fun t ht hW => ⟨⟨_, (), rfl, rfl, ⟨by rw [ht]; exact hP, va_K.moved hW.alike hK, hD⟩⟩, hS.F ht⟩) hS.2.2 dX10_count_79
  · replace h := ip s6 (iq (by rw [s6]; decide) (iq (by rw [s6]; decide) (iq (by rw [s6]; decide) (iq (by rw [s6]; decide) (iq (by rw [s6]; decide) h)))))
    refine lv_tableIn (off := 79) (tgt := 80) hx hb dX10_count_1 (by rw [s6]; decide) (by rw [s6]; decide) (by rw [s6]; rfl) (by decide) ?_
    refine lv_aload_n hx hb dX10_count_80 rfl (lv_at hl 0 rfl) ?_
    refine va_get (D := (dC, dI)) (ci := 10) (C := RX10) (T := TX10) (N := 16) hx hb hts inlX10 hown hK hP 0 gA_0 rfl 1 (by decide) (hts (.fieldLink RX10 13 "ShapeReader" "tapeSize" "I") mw_20_22) (fun _ h9 => h9) rfl dX10_count_81 ?_
    obtain rfl := Option.some.inj h
    exact W.iret hx hb hr (fun t ht hW => ⟨⟨_, (), rfl, rfl, ⟨by rw [ht]; exact hP, va_K.moved hW.alike hK, hD⟩⟩, hS.F ht⟩) hS.2.2 dX10_count_84
  · replace h := (iq s6 (iq s5 (iq s4 (iq s3 (iq s2 (iq s1 h))))))
    refine lv_tableOut (tgt := 85) hx hb dX10_count_1 (by have a0 := il_ne s1; have e0 : (0 : Int32).toInt = 0 := (by decide); have a1 := il_ne s2; have e1 : (1 : Int32).toInt = 1 := (by decide); have a2 := il_ne s3; have e2 : (2 : Int32).toInt = 2 := (by decide); have a3 := il_ne s4; have e3 : (3 : Int32).toInt = 3 := (by decide); have a4 := il_ne s5; have e4 : (4 : Int32).toInt = 4 := (by decide); have a5 := il_ne s6; have e5 : (5 : Int32).toInt = 5 := (by decide); omega) (by decide) ?_
    refine lv_iconst (v := (-1)) hx hb dX10_count_85 (by decide) ?_
    obtain rfl := Option.some.inj h
    exact W.iret hx hb hr (fun t ht hW => ⟨⟨_, (), rfl, rfl, ⟨by rw [ht]; exact hP, va_K.moved hW.alike hK, hD⟩⟩, hS.F ht⟩) hS.2.2 dX10_count_86

theorem s_X10_count {l : Launch} {dC : Nat → ClassId} {dI : Nat → Nat → Nat} {a : Nat → Nat} {k : Nat → ClassId} {sz : Nat} {p0 : Int32} {σ : ST} {q : Int32 × ST} (h : f_X10_count  p0 σ = some q) : Met l yX10_count (.code yX10_count cX10_count 2 (some .int) :: pw) ({ frames := 3, cells := 0, slots := 0, locals := 64 } : Room) (va_Pc [.ref (a 0), .int p0] (vPre dC dI (wA a k σ) (tA k) sz)) (qAi dC dI a k (va_A (wA a k σ) sz) q) 0 0 (va_A (wA a k σ) sz) := metA (fun A => qAi dC dI a k A q) (plainFor_of_name (by decide)) (Nat.le_of_ble_eq_true rfl) (fun _ _ _ _ _ _ _ _ hC => b_X10_count_e hC h)

def f_X1_shorten (p0 : Int32) (p1 : Int32) (σ : ST) : Option (Int32 × ST) := (f_X1_sizeOf  p0 σ).bind fun q1 => (f_X1_isNumber  p0 q1.2).bind fun q3 => if q3.1 = 0 then (some (q1.1, q3.2)) else (if 0 ≤ p0.toInt ∧ p0.toInt < 4 then (some (q1.1, (stI q3.2 39 p0.toNatClampNeg p1))) else none)

set_option maxRecDepth 100000 in
set_option maxHeartbeats 4000000 in
theorem b_X1_shorten_e {p : Program} {l : Launch} {e : Env} {s : State} {m : MethodId} {args : Array Value} {below : List Frame} {meth : Method} {c : Code} {dC : Nat → ClassId} {dI : Nat → Nat → Nat} {a : Nat → Nat} {k : Nat → ClassId} {A : Nat → Prop} {q : Int32 × ST} (hC : CxA p s m args meth c dC dI k A cX1_shorten RX1 (some .int) 4)   {p0 : Int32} {p1 : Int32} {σ : ST} (h : f_X1_shorten  p0 p1 σ = some q) : GoA p l e ({ frames := 2, cells := 0, slots := 0, locals := 42 } : Room) s m args below meth c (MQ below (qAi dC dI a k A q) args s 0 0 A) dC dI a k A 4 0 σ (lv_args 0 [.ref (a 37), .int p0, .int p1]) [] := by
  have hC0 := hC
  obtain ⟨hx, hb, hr, hml, hown, hts, hlocks, hA, hN, hK⟩ := hC0
  intro H locs ls hP hD hS hl
  have hD0 : ∀ σ1 : ST, va_D A (wA a k σ1) := fun σ1 => wA_D hD
  replace hl : lv_has ls 4 [(0, .ref (a 37)), (1, .int p0), (2, .int p1)] := hl
  unfold f_X1_shorten at h
  refine lv_aload_n hx hb dX1_shorten_0 rfl (lv_at hl 0 rfl) ?_
  refine lv_iload_n hx hb dX1_shorten_1 rfl (lv_at hl 1 rfl) ?_
  obtain ⟨q1, hc, h⟩ := ib h
  have hF := va_frees hD hS hA
  refine va_calli (va_runV (As := [.int p0]) (rest := []) ⟨hx, hb, hml, hown, hts⟩ (s_X1_sizeOf hc) (cwV 1 hts (gV mw_4_23 mw_4_24 mw_4_25 mw_0_5 mw_48_2) rfl rfl rfl (by decide +kernel) ⟨(Nat.le_of_ble_eq_true rfl), (Nat.le_of_ble_eq_true rfl)⟩) (vV (ci := 1) (q0 := 37) hK hP hD hN rfl gA_37) rfl rfl hl.1 rfl (lv_room (Nat.le_of_ble_eq_true rfl)) dX1_shorten_2 ⟨(Nat.le_of_ble_eq_true rfl), (Nat.le_of_ble_eq_true rfl)⟩) hS (fun q _ h => hF q h) hF (fun r2 u t H locs ht hvm hw hB _ _ hS => ?_)
  obtain rfl : r2 = q1.1 := hw
  replace hP : va_P (dC, dI) vwCl (wA a k q1.2) H := by rw [← ht]; exact hB.1
  replace hD := hD0 (q1.2)
  clear hB hF
  refine lv_istore_n (lv' := [(3, .int q1.1), (0, .ref (a 37)), (1, .int p0), (2, .int p1)]) hx hb dX1_shorten_5 rfl hl (by decide) rfl (fun ls hl => ?_)
  refine lv_aload_n hx hb dX1_shorten_6 rfl (lv_at hl 1 rfl) ?_
  refine lv_iload_n hx hb dX1_shorten_7 rfl (lv_at hl 2 rfl) ?_
  obtain ⟨q3, hc, h⟩ := ib h
  have hF := va_frees hD hS hA
  refine va_calli (va_runV (As := [.int p0]) (rest := []) ⟨hx, hb, hml, hown, hts⟩ (s_X1_isNumber hc) (cwV 1 hts (gV mw_4_11 mw_4_12 mw_4_13 mw_0_5 mw_47_29) rfl rfl rfl (by decide +kernel) ⟨(Nat.le_of_ble_eq_true rfl), (Nat.le_of_ble_eq_true rfl)⟩) (vV (ci := 1) (q0 := 37) hK hP hD hN rfl gA_37) rfl rfl hl.1 rfl (lv_room (Nat.le_of_ble_eq_true rfl)) dX1_shorten_8 ⟨(Nat.le_of_ble_eq_true rfl), (Nat.le_of_ble_eq_true rfl)⟩) hS (fun q _ h => hF q h) hF (fun r4 u t H locs ht hvm hw hB _ _ hS => ?_)
  obtain rfl : r4 = q3.1 := hw
  replace hP : va_P (dC, dI) vwCl (wA a k q3.2) H := by rw [← ht]; exact hB.1
  replace hD := hD0 (q3.2)
  clear hB hF
  refine lv_if_eq (tgt := 21) hx hb dX1_shorten_11 (by decide) (fun hc => ?_) (fun hc => ?_)
  · replace h := ip hc h
    refine lv_iload_n hx hb dX1_shorten_21 rfl (lv_at hl 0 rfl) ?_
    obtain rfl := Option.some.inj h
    exact W.iret hx hb hr (fun t ht hW => ⟨⟨_, (), rfl, rfl, ⟨by rw [ht]; exact hP, va_K.moved hW.alike hK, hD⟩⟩, hS.F ht⟩) hS.2.2 dX1_shorten_22
  · replace h := iq hc h
    refine lv_aload_n hx hb dX1_shorten_14 rfl (lv_at hl 1 rfl) ?_
    refine va_get (D := (dC, dI)) (ci := 1) (C := RX1) (T := TX1) (N := 3) hx hb hts inlX1 hown hK hP 37 gA_37 rfl 1 (by decide) (hts (.fieldLink RX1 15 "ShapeReader$Messages" "sizes" "[I") mw_4_8) (fun _ h9 => h9) rfl dX1_shorten_15 ?_
    refine lv_iload_n hx hb dX1_shorten_18 rfl (lv_at hl 2 rfl) ?_
    refine lv_iload_n hx hb dX1_shorten_19 rfl (lv_at hl 3 rfl) ?_
    obtain ⟨hg5, h⟩ := ig h
    refine va_iast hx hb hK hP hD hS 39 33 gA_39 yA_39 (vp_in_iff.mpr hg5) dX1_shorten_20 (fun H locs hP hD hS => ?_)
    replace hP := uA_39 hP
    replace hD := hD0 ((stI q3.2 39 p0.toNatClampNeg p1))
    refine lv_iload_n hx hb dX1_shorten_21 rfl (lv_at hl 0 rfl) ?_
    obtain rfl := Option.some.inj h
    exact W.iret hx hb hr (fun t ht hW => ⟨⟨_, (), rfl, rfl, ⟨by rw [ht]; exact hP, va_K.moved hW.alike hK, hD⟩⟩, hS.F ht⟩) hS.2.2 dX1_shorten_22

theorem s_X1_shorten {l : Launch} {dC : Nat → ClassId} {dI : Nat → Nat → Nat} {a : Nat → Nat} {k : Nat → ClassId} {sz : Nat} {p0 : Int32} {p1 : Int32} {σ : ST} {q : Int32 × ST} (h : f_X1_shorten  p0 p1 σ = some q) : Met l yX1_shorten (.code yX1_shorten cX1_shorten 4 (some .int) :: pw) ({ frames := 2, cells := 0, slots := 0, locals := 42 } : Room) (va_Pc [.ref (a 37), .int p0, .int p1] (vPre dC dI (wA a k σ) (tA k) sz)) (qAi dC dI a k (va_A (wA a k σ) sz) q) 0 0 (va_A (wA a k σ) sz) := metA (fun A => qAi dC dI a k A q) (plainFor_of_name (by decide)) (Nat.le_of_ble_eq_true rfl) (fun _ _ _ _ _ _ _ _ hC => b_X1_shorten_e hC h)

def f_X10_cut (p0 : Int32) (p1 : Int32) (σ : ST) : Option (Int32 × ST) := (f_X1_isWritten  p0 σ).bind fun q1 => if q1.1 = 0 then (some ((-1), q1.2)) else (if p1 < 0 then (some ((-1), q1.2)) else ((f_X1_sizeOf  p0 q1.2).bind fun q3 => if p1 ≤ q3.1 then ((f_X1_shorten  p0 p1 q3.2).bind fun q5 => some (q5.1, q5.2)) else (some ((-1), q3.2))))

set_option maxRecDepth 100000 in
set_option maxHeartbeats 4000000 in
theorem b_X10_cut_e {p : Program} {l : Launch} {e : Env} {s : State} {m : MethodId} {args : Array Value} {below : List Frame} {meth : Method} {c : Code} {dC : Nat → ClassId} {dI : Nat → Nat → Nat} {a : Nat → Nat} {k : Nat → ClassId} {A : Nat → Prop} {q : Int32 × ST} (hC : CxA p s m args meth c dC dI k A cX10_cut RX10 (some .int) 3)   {p0 : Int32} {p1 : Int32} {σ : ST} (h : f_X10_cut  p0 p1 σ = some q) : GoA p l e ({ frames := 3, cells := 0, slots := 0, locals := 65 } : Room) s m args below meth c (MQ below (qAi dC dI a k A q) args s 0 0 A) dC dI a k A 3 0 σ (lv_args 0 [.ref (a 0), .int p0, .int p1]) [] := by
  have hC0 := hC
  obtain ⟨hx, hb, hr, hml, hown, hts, hlocks, hA, hN, hK⟩ := hC0
  intro H locs ls hP hD hS hl
  have hD0 : ∀ σ1 : ST, va_D A (wA a k σ1) := fun σ1 => wA_D hD
  replace hl : lv_has ls 3 [(0, .ref (a 0)), (1, .int p0), (2, .int p1)] := hl
  unfold f_X10_cut at h
  refine lv_aload_n hx hb dX10_cut_0 rfl (lv_at hl 0 rfl) ?_
  refine va_get (D := (dC, dI)) (ci := 10) (C := RX10) (T := TX10) (N := 16) hx hb hts inlX10 hown hK hP 0 gA_0 rfl 6 (by decide) (hts (.fieldLink RX10 48 "ShapeReader" "messages" "LShapeReader$Messages;") mw_21_12) (fun _ h9 => h9) rfl dX10_cut_1 ?_
  refine lv_iload_n hx hb dX10_cut_4 rfl (lv_at hl 1 rfl) ?_
  obtain ⟨q1, hc, h⟩ := ib h
  have hF := va_frees hD hS hA
  refine va_calli (va_runV (As := [.int p0]) (rest := []) ⟨hx, hb, hml, hown, hts⟩ (s_X1_isWritten hc) (cwV 1 hts (gV mw_24_13 mw_4_15 mw_4_16 mw_0_5 mw_48_0) rfl rfl rfl (by decide +kernel) ⟨(Nat.le_of_ble_eq_true rfl), (Nat.le_of_ble_eq_true rfl)⟩) (vV (ci := 1) (q0 := 37) hK hP hD hN rfl gA_37) rfl rfl hl.1 rfl (lv_room (Nat.le_of_ble_eq_true rfl)) dX10_cut_5 ⟨(Nat.le_of_ble_eq_true rfl), (Nat.le_of_ble_eq_true rfl)⟩) hS (fun q _ h => hF q h) hF (fun r2 u t H locs ht hvm hw hB _ _ hS => ?_)
  obtain rfl : r2 = q1.1 := hw
  replace hP : va_P (dC, dI) vwCl (wA a k q1.2) H := by rw [← ht]; exact hB.1
  replace hD := hD0 (q1.2)
  clear hB hF
  refine lv_if_eq (tgt := 27) hx hb dX10_cut_8 (by decide) (fun hc => ?_) (fun hc => ?_)
  · replace h := ip hc h
    refine lv_iconst (v := (-1)) hx hb dX10_cut_27 (by decide) ?_
    obtain rfl := Option.some.inj h
    exact W.iret hx hb hr (fun t ht hW => ⟨⟨_, (), rfl, rfl, ⟨by rw [ht]; exact hP, va_K.moved hW.alike hK, hD⟩⟩, hS.F ht⟩) hS.2.2 dX10_cut_28
  · replace h := iq hc h
    refine lv_iload_n hx hb dX10_cut_11 rfl (lv_at hl 2 rfl) ?_
    refine lv_if_lt (tgt := 27) hx hb dX10_cut_12 (by decide) (fun hc => ?_) (fun hc => ?_)
    · replace h := ip hc h
      refine lv_iconst (v := (-1)) hx hb dX10_cut_27 (by decide) ?_
      obtain rfl := Option.some.inj h
      exact W.iret hx hb hr (fun t ht hW => ⟨⟨_, (), rfl, rfl, ⟨by rw [ht]; exact hP, va_K.moved hW.alike hK, hD⟩⟩, hS.F ht⟩) hS.2.2 dX10_cut_28
    · replace h := iq hc h
      refine lv_iload_n hx hb dX10_cut_15 rfl (lv_at hl 2 rfl) ?_
      refine lv_aload_n hx hb dX10_cut_16 rfl (lv_at hl 0 rfl) ?_
      refine va_get (D := (dC, dI)) (ci := 10) (C := RX10) (T := TX10) (N := 16) hx hb hts inlX10 hown hK hP 0 gA_0 rfl 6 (by decide) (hts (.fieldLink RX10 48 "ShapeReader" "messages" "LShapeReader$Messages;") mw_21_12) (fun _ h9 => h9) rfl dX10_cut_17 ?_
      refine lv_iload_n hx hb dX10_cut_20 rfl (lv_at hl 1 rfl) ?_
      obtain ⟨q3, hc, h⟩ := ib h
      have hF := va_frees hD hS hA
      refine va_calli (va_runV (As := [.int p0]) (rest := [.int p1]) ⟨hx, hb, hml, hown, hts⟩ (s_X1_sizeOf hc) (cwV 1 hts (gV mw_24_14 mw_4_24 mw_4_25 mw_0_5 mw_48_2) rfl rfl rfl (by decide +kernel) ⟨(Nat.le_of_ble_eq_true rfl), (Nat.le_of_ble_eq_true rfl)⟩) (vV (ci := 1) (q0 := 37) hK hP hD hN rfl gA_37) rfl rfl hl.1 rfl (lv_room (Nat.le_of_ble_eq_true rfl)) dX10_cut_21 ⟨(Nat.le_of_ble_eq_true rfl), (Nat.le_of_ble_eq_true rfl)⟩) hS (fun q _ h => hF q h) hF (fun r4 u t H locs ht hvm hw hB _ _ hS => ?_)
      obtain rfl : r4 = q3.1 := hw
      replace hP : va_P (dC, dI) vwCl (wA a k q3.2) H := by rw [← ht]; exact hB.1
      replace hD := hD0 (q3.2)
      clear hB hF
      refine lv_icmp_le (tgt := 29) hx hb dX10_cut_24 (by decide) (fun hc => ?_) (fun hc => ?_)
      · replace h := ip hc h
        refine lv_aload_n hx hb dX10_cut_29 rfl (lv_at hl 0 rfl) ?_
        refine va_get (D := (dC, dI)) (ci := 10) (C := RX10) (T := TX10) (N := 16) hx hb hts inlX10 hown hK hP 0 gA_0 rfl 6 (by decide) (hts (.fieldLink RX10 48 "ShapeReader" "messages" "LShapeReader$Messages;") mw_21_12) (fun _ h9 => h9) rfl dX10_cut_30 ?_
        refine lv_iload_n hx hb dX10_cut_33 rfl (lv_at hl 1 rfl) ?_
        refine lv_iload_n hx hb dX10_cut_34 rfl (lv_at hl 2 rfl) ?_
        obtain ⟨q5, hc, h⟩ := ib h
        have hF := va_frees hD hS hA
        refine va_calli (va_runV (As := [.int p0, .int p1]) (rest := []) ⟨hx, hb, hml, hown, hts⟩ (s_X1_shorten hc) (cwV 2 hts (gV mw_24_23 mw_24_24 mw_24_25 mw_0_5 mw_48_6) rfl rfl rfl (by decide +kernel) ⟨(Nat.le_of_ble_eq_true rfl), (Nat.le_of_ble_eq_true rfl)⟩) (vV (ci := 1) (q0 := 37) hK hP hD hN rfl gA_37) rfl rfl hl.1 rfl (lv_room (Nat.le_of_ble_eq_true rfl)) dX10_cut_35 ⟨(Nat.le_of_ble_eq_true rfl), (Nat.le_of_ble_eq_true rfl)⟩) hS (fun q _ h => hF q h) hF (fun r6 u t H locs ht hvm hw hB _ _ hS => ?_)
        obtain rfl : r6 = q5.1 := hw
        replace hP : va_P (dC, dI) vwCl (wA a k q5.2) H := by rw [← ht]; exact hB.1
        replace hD := hD0 (q5.2)
        clear hB hF
        obtain rfl := Option.some.inj h
        exact W.iret hx hb hr (fun t ht hW => ⟨⟨_, (), rfl, rfl, ⟨by rw [ht]; exact hP, va_K.moved hW.alike hK, hD⟩⟩, hS.F ht⟩) hS.2.2 dX10_cut_38
      · replace h := iq hc h
        refine lv_iconst (v := (-1)) hx hb dX10_cut_27 (by decide) ?_
        obtain rfl := Option.some.inj h
        exact W.iret hx hb hr (fun t ht hW => ⟨⟨_, (), rfl, rfl, ⟨by rw [ht]; exact hP, va_K.moved hW.alike hK, hD⟩⟩, hS.F ht⟩) hS.2.2 dX10_cut_28

theorem s_X10_cut {l : Launch} {dC : Nat → ClassId} {dI : Nat → Nat → Nat} {a : Nat → Nat} {k : Nat → ClassId} {sz : Nat} {p0 : Int32} {p1 : Int32} {σ : ST} {q : Int32 × ST} (h : f_X10_cut  p0 p1 σ = some q) : Met l yX10_cut (.code yX10_cut cX10_cut 3 (some .int) :: pw) ({ frames := 3, cells := 0, slots := 0, locals := 65 } : Room) (va_Pc [.ref (a 0), .int p0, .int p1] (vPre dC dI (wA a k σ) (tA k) sz)) (qAi dC dI a k (va_A (wA a k σ) sz) q) 0 0 (va_A (wA a k σ) sz) := metA (fun A => qAi dC dI a k A q) (plainFor_of_name (by decide)) (Nat.le_of_ble_eq_true rfl) (fun _ _ _ _ _ _ _ _ hC => b_X10_cut_e hC h)

def f_X10_failure (p0 : Int32) (σ : ST) : Option (Int32 × ST) := if (σ.1 89 7) = 0 then (some ((-1), σ)) else (if p0 = 0 then (some ((σ.1 89 7), σ)) else (if p0 = 1 then (some ((σ.1 89 10), σ)) else (if p0 = 2 then (some ((σ.1 89 8), σ)) else (some ((-1), σ)))))

set_option maxRecDepth 100000 in
set_option maxHeartbeats 4000000 in
theorem b_X10_failure_e {p : Program} {l : Launch} {e : Env} {s : State} {m : MethodId} {args : Array Value} {below : List Frame} {meth : Method} {c : Code} {dC : Nat → ClassId} {dI : Nat → Nat → Nat} {a : Nat → Nat} {k : Nat → ClassId} {A : Nat → Prop} {q : Int32 × ST} (hC : CxA p s m args meth c dC dI k A cX10_failure RX10 (some .int) 2)   {p0 : Int32} {σ : ST} (h : f_X10_failure  p0 σ = some q) : GoA p l e ({ frames := 0, cells := 0, slots := 0, locals := 0 } : Room) s m args below meth c (MQ below (qAi dC dI a k A q) args s 0 0 A) dC dI a k A 2 0 σ (lv_args 0 [.ref (a 0), .int p0]) [] := by
  have hC0 := hC
  obtain ⟨hx, hb, hr, hml, hown, hts, hlocks, hA, hN, hK⟩ := hC0
  intro H locs ls hP hD hS hl
  have hD0 : ∀ σ1 : ST, va_D A (wA a k σ1) := fun σ1 => wA_D hD
  replace hl : lv_has ls 2 [(0, .ref (a 0)), (1, .int p0)] := hl
  unfold f_X10_failure at h
  refine lv_aload_n hx hb dX10_failure_0 rfl (lv_at hl 0 rfl) ?_
  refine va_get (D := (dC, dI)) (ci := 10) (C := RX10) (T := TX10) (N := 16) hx hb hts inlX10 hown hK hP 0 gA_0 rfl 14 (by decide) (hts (.fieldLink RX10 104 "ShapeReader" "latest" "LShapeReader$Reading;") mw_22_13) (fun _ h9 => h9) rfl dX10_failure_1 ?_
  refine va_get (D := (dC, dI)) (ci := 4) (C := RX4) (T := TX4) (N := 12) hx hb hts inlX4 hown hK hP 89 gA_89 rfl 7 (by decide) (hts (.fieldLink RX10 256 "ShapeReader$Reading" "failure" "I") mw_25_18) (fun _ h9 => h9) rfl dX10_failure_4 ?_
  refine lv_if_ne (tgt := 12) hx hb dX10_failure_7 (by decide) (fun hc => ?_) (fun hc => ?_)
  · replace h := iq hc h
    refine lv_iload_n hx hb dX10_failure_12 rfl (lv_at hl 1 rfl) ?_
    rcases (il_sw3 p0 (0) (1) (2)) with s1 | s2 | s3 | ⟨s1, s2, s3⟩
    · replace h := ip s1 h
      refine lv_tableIn (off := 27) (tgt := 40) hx hb dX10_failure_13 (by rw [s1]; decide) (by rw [s1]; decide) (by rw [s1]; rfl) (by decide) ?_
      refine lv_aload_n hx hb dX10_failure_40 rfl (lv_at hl 0 rfl) ?_
      refine va_get (D := (dC, dI)) (ci := 10) (C := RX10) (T := TX10) (N := 16) hx hb hts inlX10 hown hK hP 0 gA_0 rfl 14 (by decide) (hts (.fieldLink RX10 104 "ShapeReader" "latest" "LShapeReader$Reading;") mw_22_13) (fun _ h9 => h9) rfl dX10_failure_41 ?_
      refine va_get (D := (dC, dI)) (ci := 4) (C := RX4) (T := TX4) (N := 12) hx hb hts inlX4 hown hK hP 89 gA_89 rfl 7 (by decide) (hts (.fieldLink RX10 256 "ShapeReader$Reading" "failure" "I") mw_25_18) (fun _ h9 => h9) rfl dX10_failure_44 ?_
      obtain rfl := Option.some.inj h
      exact W.iret hx hb hr (fun t ht hW => ⟨⟨_, (), rfl, rfl, ⟨by rw [ht]; exact hP, va_K.moved hW.alike hK, hD⟩⟩, hS.F ht⟩) hS.2.2 dX10_failure_47
    · replace h := ip s2 (iq (by rw [s2]; decide) h)
      refine lv_tableIn (off := 35) (tgt := 48) hx hb dX10_failure_13 (by rw [s2]; decide) (by rw [s2]; decide) (by rw [s2]; rfl) (by decide) ?_
      refine lv_aload_n hx hb dX10_failure_48 rfl (lv_at hl 0 rfl) ?_
      refine va_get (D := (dC, dI)) (ci := 10) (C := RX10) (T := TX10) (N := 16) hx hb hts inlX10 hown hK hP 0 gA_0 rfl 14 (by decide) (hts (.fieldLink RX10 104 "ShapeReader" "latest" "LShapeReader$Reading;") mw_22_13) (fun _ h9 => h9) rfl dX10_failure_49 ?_
      refine va_get (D := (dC, dI)) (ci := 4) (C := RX4) (T := TX4) (N := 12) hx hb hts inlX4 hown hK hP 89 gA_89 rfl 10 (by decide) (hts (.fieldLink RX10 259 "ShapeReader$Reading" "steps" "I") mw_25_19) (fun _ h9 => h9) rfl dX10_failure_52 ?_
      obtain rfl := Option.some.inj h
      exact W.iret hx hb hr (fun t ht hW => ⟨⟨_, (), rfl, rfl, ⟨by rw [ht]; exact hP, va_K.moved hW.alike hK, hD⟩⟩, hS.F ht⟩) hS.2.2 dX10_failure_55
    · replace h := ip s3 (iq (by rw [s3]; decide) (iq (by rw [s3]; decide) h))
      refine lv_tableIn (off := 43) (tgt := 56) hx hb dX10_failure_13 (by rw [s3]; decide) (by rw [s3]; decide) (by rw [s3]; rfl) (by decide) ?_
      refine lv_aload_n hx hb dX10_failure_56 rfl (lv_at hl 0 rfl) ?_
      refine va_get (D := (dC, dI)) (ci := 10) (C := RX10) (T := TX10) (N := 16) hx hb hts inlX10 hown hK hP 0 gA_0 rfl 14 (by decide) (hts (.fieldLink RX10 104 "ShapeReader" "latest" "LShapeReader$Reading;") mw_22_13) (fun _ h9 => h9) rfl dX10_failure_57 ?_
      refine va_get (D := (dC, dI)) (ci := 4) (C := RX4) (T := TX4) (N := 12) hx hb hts inlX4 hown hK hP 89 gA_89 rfl 8 (by decide) (hts (.fieldLink RX10 262 "ShapeReader$Reading" "failedAt" "I") mw_25_20) (fun _ h9 => h9) rfl dX10_failure_60 ?_
      obtain rfl := Option.some.inj h
      exact W.iret hx hb hr (fun t ht hW => ⟨⟨_, (), rfl, rfl, ⟨by rw [ht]; exact hP, va_K.moved hW.alike hK, hD⟩⟩, hS.F ht⟩) hS.2.2 dX10_failure_63
    · replace h := (iq s3 (iq s2 (iq s1 h)))
      refine lv_tableOut (tgt := 64) hx hb dX10_failure_13 (by have a0 := il_ne s1; have e0 : (0 : Int32).toInt = 0 := (by decide); have a1 := il_ne s2; have e1 : (1 : Int32).toInt = 1 := (by decide); have a2 := il_ne s3; have e2 : (2 : Int32).toInt = 2 := (by decide); omega) (by decide) ?_
      refine lv_iconst (v := (-1)) hx hb dX10_failure_64 (by decide) ?_
      obtain rfl := Option.some.inj h
      exact W.iret hx hb hr (fun t ht hW => ⟨⟨_, (), rfl, rfl, ⟨by rw [ht]; exact hP, va_K.moved hW.alike hK, hD⟩⟩, hS.F ht⟩) hS.2.2 dX10_failure_65
  · replace h := ip hc h
    refine lv_iconst (v := (-1)) hx hb dX10_failure_10 (by decide) ?_
    obtain rfl := Option.some.inj h
    exact W.iret hx hb hr (fun t ht hW => ⟨⟨_, (), rfl, rfl, ⟨by rw [ht]; exact hP, va_K.moved hW.alike hK, hD⟩⟩, hS.F ht⟩) hS.2.2 dX10_failure_11

theorem s_X10_failure {l : Launch} {dC : Nat → ClassId} {dI : Nat → Nat → Nat} {a : Nat → Nat} {k : Nat → ClassId} {sz : Nat} {p0 : Int32} {σ : ST} {q : Int32 × ST} (h : f_X10_failure  p0 σ = some q) : Met l yX10_failure (.code yX10_failure cX10_failure 2 (some .int) :: pw) ({ frames := 0, cells := 0, slots := 0, locals := 0 } : Room) (va_Pc [.ref (a 0), .int p0] (vPre dC dI (wA a k σ) (tA k) sz)) (qAi dC dI a k (va_A (wA a k σ) sz) q) 0 0 (va_A (wA a k σ) sz) := metA (fun A => qAi dC dI a k A q) (plainFor_of_name (by decide)) (Nat.le_of_ble_eq_true rfl) (fun _ _ _ _ _ _ _ _ hC => b_X10_failure_e hC h)

def f_X4_stepAt (b : Nat) (t : Nat) (p0 : Int32) (σ : ST) : Option (Int32 × ST) := if p0 < 0 then (some ((-1), σ)) else (if (σ.1 b 10) ≤ p0 then (some ((-1), σ)) else (if 64 ≤ p0 then (some ((-1), σ)) else (if 0 ≤ p0.toInt ∧ p0.toInt < 64 then (some ((σ.1 (b + 1) p0.toNatClampNeg), σ)) else none)))

set_option maxRecDepth 100000 in
set_option maxHeartbeats 4000000 in
theorem b_X4_stepAt_e_89_50 {p : Program} {l : Launch} {e : Env} {s : State} {m : MethodId} {args : Array Value} {below : List Frame} {meth : Method} {c : Code} {dC : Nat → ClassId} {dI : Nat → Nat → Nat} {a : Nat → Nat} {k : Nat → ClassId} {A : Nat → Prop} {q : Int32 × ST} (hC : CxA p s m args meth c dC dI k A cX4_stepAt RX4 (some .int) 2)   {p0 : Int32} {σ : ST} (h : f_X4_stepAt 89 50 p0 σ = some q) : GoA p l e ({ frames := 0, cells := 0, slots := 0, locals := 0 } : Room) s m args below meth c (MQ below (qAi dC dI a k A q) args s 0 0 A) dC dI a k A 2 0 σ (lv_args 0 [.ref (a 89), .int p0]) [] := by
  have hC0 := hC
  obtain ⟨hx, hb, hr, hml, hown, hts, hlocks, hA, hN, hK⟩ := hC0
  intro H locs ls hP hD hS hl
  have hD0 : ∀ σ1 : ST, va_D A (wA a k σ1) := fun σ1 => wA_D hD
  replace hl : lv_has ls 2 [(0, .ref (a 89)), (1, .int p0)] := hl
  unfold f_X4_stepAt at h
  refine lv_iload_n hx hb dX4_stepAt_0 rfl (lv_at hl 1 rfl) ?_
  refine lv_if_lt (tgt := 27) hx hb dX4_stepAt_1 (by decide) (fun hc => ?_) (fun hc => ?_)
  · replace h := ip hc h
    refine lv_iconst (v := (-1)) hx hb dX4_stepAt_27 (by decide) ?_
    obtain rfl := Option.some.inj h
    exact W.iret hx hb hr (fun t ht hW => ⟨⟨_, (), rfl, rfl, ⟨by rw [ht]; exact hP, va_K.moved hW.alike hK, hD⟩⟩, hS.F ht⟩) hS.2.2 dX4_stepAt_28
  · replace h := iq hc h
    refine lv_iload_n hx hb dX4_stepAt_4 rfl (lv_at hl 1 rfl) ?_
    refine lv_aload_n hx hb dX4_stepAt_5 rfl (lv_at hl 0 rfl) ?_
    refine va_get (D := (dC, dI)) (ci := 4) (C := RX4) (T := TX4) (N := 12) hx hb hts inlX4 hown hK hP 89 gA_89 rfl 10 (by decide) (hts (.fieldLink RX4 31 "ShapeReader$Reading" "steps" "I") mw_10_26) (fun _ h9 => h9) rfl dX4_stepAt_6 ?_
    refine lv_icmp_ge (tgt := 27) hx hb dX4_stepAt_9 (by decide) (fun hc => ?_) (fun hc => ?_)
    · replace h := ip hc h
      refine lv_iconst (v := (-1)) hx hb dX4_stepAt_27 (by decide) ?_
      obtain rfl := Option.some.inj h
      exact W.iret hx hb hr (fun t ht hW => ⟨⟨_, (), rfl, rfl, ⟨by rw [ht]; exact hP, va_K.moved hW.alike hK, hD⟩⟩, hS.F ht⟩) hS.2.2 dX4_stepAt_28
    · replace h := iq hc h
      refine lv_iload_n hx hb dX4_stepAt_12 rfl (lv_at hl 1 rfl) ?_
      refine lv_bipush (v := 64) hx hb dX4_stepAt_13 (by decide) ?_
      refine lv_icmp_ge (tgt := 27) hx hb dX4_stepAt_15 (by decide) (fun hc => ?_) (fun hc => ?_)
      · replace h := ip hc h
        refine lv_iconst (v := (-1)) hx hb dX4_stepAt_27 (by decide) ?_
        obtain rfl := Option.some.inj h
        exact W.iret hx hb hr (fun t ht hW => ⟨⟨_, (), rfl, rfl, ⟨by rw [ht]; exact hP, va_K.moved hW.alike hK, hD⟩⟩, hS.F ht⟩) hS.2.2 dX4_stepAt_28
      · replace h := iq hc h
        refine lv_aload_n hx hb dX4_stepAt_18 rfl (lv_at hl 0 rfl) ?_
        refine va_get (D := (dC, dI)) (ci := 4) (C := RX4) (T := TX4) (N := 12) hx hb hts inlX4 hown hK hP 89 gA_89 rfl 9 (by decide) (hts (.fieldLink RX4 27 "ShapeReader$Reading" "path" "[I") mw_10_25) (fun _ h9 => h9) rfl dX4_stepAt_19 ?_
        refine lv_iload_n hx hb dX4_stepAt_22 rfl (lv_at hl 1 rfl) ?_
        obtain ⟨hg1, h⟩ := ig h
        refine va_iald hx hb hK hP 90 76 gA_90 yA_90 (vp_in_iff.mpr hg1) dX4_stepAt_23 ?_
        refine lv_goto (tgt := 28) hx hb dX4_stepAt_24 (by decide) ?_
        obtain rfl := Option.some.inj h
        exact W.iret hx hb hr (fun t ht hW => ⟨⟨_, (), rfl, rfl, ⟨by rw [ht]; exact hP, va_K.moved hW.alike hK, hD⟩⟩, hS.F ht⟩) hS.2.2 dX4_stepAt_28

theorem s_X4_stepAt_89_50 {l : Launch} {dC : Nat → ClassId} {dI : Nat → Nat → Nat} {a : Nat → Nat} {k : Nat → ClassId} {sz : Nat} {p0 : Int32} {σ : ST} {q : Int32 × ST} (h : f_X4_stepAt 89 50 p0 σ = some q) : Met l yX4_stepAt (.code yX4_stepAt cX4_stepAt 2 (some .int) :: pw) ({ frames := 0, cells := 0, slots := 0, locals := 0 } : Room) (va_Pc [.ref (a 89), .int p0] (vPre dC dI (wA a k σ) (tA k) sz)) (qAi dC dI a k (va_A (wA a k σ) sz) q) 0 0 (va_A (wA a k σ) sz) := metA (fun A => qAi dC dI a k A q) (plainFor_of_name (by decide)) (Nat.le_of_ble_eq_true rfl) (fun _ _ _ _ _ _ _ _ hC => b_X4_stepAt_e_89_50 hC h)

def f_X10_failureStep (p0 : Int32) (σ : ST) : Option (Int32 × ST) := if (σ.1 89 7) = 0 then (some ((-1), σ)) else ((f_X4_stepAt 89 50 p0 σ).bind fun q1 => some (q1.1, q1.2))

set_option maxRecDepth 100000 in
set_option maxHeartbeats 4000000 in
theorem b_X10_failureStep_e {p : Program} {l : Launch} {e : Env} {s : State} {m : MethodId} {args : Array Value} {below : List Frame} {meth : Method} {c : Code} {dC : Nat → ClassId} {dI : Nat → Nat → Nat} {a : Nat → Nat} {k : Nat → ClassId} {A : Nat → Prop} {q : Int32 × ST} (hC : CxA p s m args meth c dC dI k A cX10_failureStep RX10 (some .int) 2)   {p0 : Int32} {σ : ST} (h : f_X10_failureStep  p0 σ = some q) : GoA p l e ({ frames := 1, cells := 0, slots := 0, locals := 21 } : Room) s m args below meth c (MQ below (qAi dC dI a k A q) args s 0 0 A) dC dI a k A 2 0 σ (lv_args 0 [.ref (a 0), .int p0]) [] := by
  have hC0 := hC
  obtain ⟨hx, hb, hr, hml, hown, hts, hlocks, hA, hN, hK⟩ := hC0
  intro H locs ls hP hD hS hl
  have hD0 : ∀ σ1 : ST, va_D A (wA a k σ1) := fun σ1 => wA_D hD
  replace hl : lv_has ls 2 [(0, .ref (a 0)), (1, .int p0)] := hl
  unfold f_X10_failureStep at h
  refine lv_aload_n hx hb dX10_failureStep_0 rfl (lv_at hl 0 rfl) ?_
  refine va_get (D := (dC, dI)) (ci := 10) (C := RX10) (T := TX10) (N := 16) hx hb hts inlX10 hown hK hP 0 gA_0 rfl 14 (by decide) (hts (.fieldLink RX10 104 "ShapeReader" "latest" "LShapeReader$Reading;") mw_22_13) (fun _ h9 => h9) rfl dX10_failureStep_1 ?_
  refine va_get (D := (dC, dI)) (ci := 4) (C := RX4) (T := TX4) (N := 12) hx hb hts inlX4 hown hK hP 89 gA_89 rfl 7 (by decide) (hts (.fieldLink RX10 256 "ShapeReader$Reading" "failure" "I") mw_25_18) (fun _ h9 => h9) rfl dX10_failureStep_4 ?_
  refine lv_if_ne (tgt := 14) hx hb dX10_failureStep_7 (by decide) (fun hc => ?_) (fun hc => ?_)
  · replace h := iq hc h
    refine lv_aload_n hx hb dX10_failureStep_14 rfl (lv_at hl 0 rfl) ?_
    refine va_get (D := (dC, dI)) (ci := 10) (C := RX10) (T := TX10) (N := 16) hx hb hts inlX10 hown hK hP 0 gA_0 rfl 14 (by decide) (hts (.fieldLink RX10 104 "ShapeReader" "latest" "LShapeReader$Reading;") mw_22_13) (fun _ h9 => h9) rfl dX10_failureStep_15 ?_
    refine lv_iload_n hx hb dX10_failureStep_18 rfl (lv_at hl 1 rfl) ?_
    obtain ⟨q1, hc, h⟩ := ib h
    have hF := va_frees hD hS hA
    refine va_calli (va_runV (As := [.int p0]) (rest := []) ⟨hx, hb, hml, hown, hts⟩ (s_X4_stepAt_89_50 hc) (cwV 1 hts (gV mw_25_21 mw_25_22 mw_25_23 mw_0_8 mw_49_1) rfl rfl rfl (by decide +kernel) ⟨(Nat.le_of_ble_eq_true rfl), (Nat.le_of_ble_eq_true rfl)⟩) (vV (ci := 4) (q0 := 89) hK hP hD hN rfl gA_89) rfl rfl hl.1 rfl (lv_room (Nat.le_of_ble_eq_true rfl)) dX10_failureStep_19 ⟨(Nat.le_of_ble_eq_true rfl), (Nat.le_of_ble_eq_true rfl)⟩) hS (fun q _ h => hF q h) hF (fun r2 u t H locs ht hvm hw hB _ _ hS => ?_)
    obtain rfl : r2 = q1.1 := hw
    replace hP : va_P (dC, dI) vwCl (wA a k q1.2) H := by rw [← ht]; exact hB.1
    replace hD := hD0 (q1.2)
    clear hB hF
    obtain rfl := Option.some.inj h
    exact W.iret hx hb hr (fun t ht hW => ⟨⟨_, (), rfl, rfl, ⟨by rw [ht]; exact hP, va_K.moved hW.alike hK, hD⟩⟩, hS.F ht⟩) hS.2.2 dX10_failureStep_22
  · replace h := ip hc h
    refine lv_iconst (v := (-1)) hx hb dX10_failureStep_10 (by decide) ?_
    refine lv_goto (tgt := 22) hx hb dX10_failureStep_11 (by decide) ?_
    obtain rfl := Option.some.inj h
    exact W.iret hx hb hr (fun t ht hW => ⟨⟨_, (), rfl, rfl, ⟨by rw [ht]; exact hP, va_K.moved hW.alike hK, hD⟩⟩, hS.F ht⟩) hS.2.2 dX10_failureStep_22

theorem s_X10_failureStep {l : Launch} {dC : Nat → ClassId} {dI : Nat → Nat → Nat} {a : Nat → Nat} {k : Nat → ClassId} {sz : Nat} {p0 : Int32} {σ : ST} {q : Int32 × ST} (h : f_X10_failureStep  p0 σ = some q) : Met l yX10_failureStep (.code yX10_failureStep cX10_failureStep 2 (some .int) :: pw) ({ frames := 1, cells := 0, slots := 0, locals := 21 } : Room) (va_Pc [.ref (a 0), .int p0] (vPre dC dI (wA a k σ) (tA k) sz)) (qAi dC dI a k (va_A (wA a k σ) sz) q) 0 0 (va_A (wA a k σ) sz) := metA (fun A => qAi dC dI a k A q) (plainFor_of_name (by decide)) (Nat.le_of_ble_eq_true rfl) (fun _ _ _ _ _ _ _ _ hC => b_X10_failureStep_e hC h)

def f_X10_feedFour_40 (k3 : Int32 → Int32 → ST → Option (ST)) (x1 : Int32) (x2 : Int32) (σ : ST) : Option (ST) := k3 x1 (x2 + (-8)) σ
def f_X10_feedFour_3  : Nat → Int32 → Int32 → ST → Option (ST)
  | 0, _, _, _ => none
  | n + 1, x1, x2, σ => if x2 < 0 then (some σ) else (if 1000 ≤ (σ.1 0 1) then (f_X10_feedFour_40 (f_X10_feedFour_3  n) x1 x2 σ) else (if 0 ≤ (σ.1 0 1).toInt ∧ (σ.1 0 1).toInt < 1000 then ((some (stI (stI σ 1 (σ.1 0 1).toNatClampNeg (vp_nar .byte ((x1 >>> (x2 &&& 31)).toInt8.toInt32))) 0 1 (((stI σ 1 (σ.1 0 1).toNatClampNeg (vp_nar .byte ((x1 >>> (x2 &&& 31)).toInt8.toInt32))).1 0 1) + 1))).bind fun z2 => f_X10_feedFour_40 (f_X10_feedFour_3  n) x1 x2 z2) else none))
def f_X10_feedFour (p0 : Int32) (σ : ST) : Option (ST) := f_X10_feedFour_3  FU p0 24 σ

set_option maxRecDepth 100000 in
set_option maxHeartbeats 4000000 in
theorem b_X10_feedFour_40 {p : Program} {l : Launch} {e : Env} {s : State} {m : MethodId} {args : Array Value} {below : List Frame} {meth : Method} {c : Code} {dC : Nat → ClassId} {dI : Nat → Nat → Nat} {a : Nat → Nat} {k : Nat → ClassId} {A : Nat → Prop} {q : ST} (hC : CxA p s m args meth c dC dI k A cX10_feedFour RX10 none 3)  {k3 : Int32 → Int32 → ST → Option (ST)} (hk3 : ∀ (x1 : Int32) (x2 : Int32) (σ : ST), k3 x1 x2 σ = some q → GoA p l e ({ frames := 0, cells := 0, slots := 0, locals := 0 } : Room) s m args below meth c (MQ below (qAv dC dI a k A q) args s 0 0 A) dC dI a k A 3 3 σ [(0, .ref (a 0)), (1, .int x1), (2, .int x2)] []) {x1 : Int32} {x2 : Int32} {σ : ST} (h : f_X10_feedFour_40 k3 x1 x2 σ = some q) : GoA p l e ({ frames := 0, cells := 0, slots := 0, locals := 0 } : Room) s m args below meth c (MQ below (qAv dC dI a k A q) args s 0 0 A) dC dI a k A 3 40 σ [(0, .ref (a 0)), (1, .int x1), (2, .int x2)] [] := by
  have hC0 := hC
  obtain ⟨hx, hb, hr, hml, hown, hts, hlocks, hA, hN, hK⟩ := hC0
  intro H locs ls hP hD hS hl
  have hD0 : ∀ σ1 : ST, va_D A (wA a k σ1) := fun σ1 => wA_D hD
  unfold f_X10_feedFour_40 at h
  refine lv_iinc (v := (x2 + (-8))) (lv' := [(2, .int (x2 + (-8))), (0, .ref (a 0)), (1, .int x1)]) hx hb dX10_feedFour_40 hl (k := 2) rfl rfl (by decide) rfl (fun ls hl => ?_)
  refine lv_goto (tgt := 3) hx hb dX10_feedFour_43 (by decide) ?_
  exact hk3 _ _ _ h _ _ _ hP hD hS (lv_sub hl [1, 2, 0] rfl)

set_option maxRecDepth 100000 in
set_option maxHeartbeats 4000000 in
theorem b_X10_feedFour_3 {p : Program} {l : Launch} {e : Env} {s : State} {m : MethodId} {args : Array Value} {below : List Frame} {meth : Method} {c : Code} {dC : Nat → ClassId} {dI : Nat → Nat → Nat} {a : Nat → Nat} {k : Nat → ClassId} {A : Nat → Prop} {q : ST} (hC : CxA p s m args meth c dC dI k A cX10_feedFour RX10 none 3)   : ∀ (n : Nat) (x1 : Int32) (x2 : Int32) (σ : ST), f_X10_feedFour_3  n x1 x2 σ = some q → GoA p l e ({ frames := 0, cells := 0, slots := 0, locals := 0 } : Room) s m args below meth c (MQ below (qAv dC dI a k A q) args s 0 0 A) dC dI a k A 3 3 σ [(0, .ref (a 0)), (1, .int x1), (2, .int x2)] [] := by
  intro n
  induction n with
  | zero =>
    intro x1 x2 σ h
    rw [f_X10_feedFour_3] at h
    cases h
  | succ n ih =>
    intro x1 x2 σ h
    have hC0 := hC
    obtain ⟨hx, hb, hr, hml, hown, hts, hlocks, hA, hN, hK⟩ := hC0
    intro H locs ls hP hD hS hl
    have hD0 : ∀ σ1 : ST, va_D A (wA a k σ1) := fun σ1 => wA_D hD
    rw [f_X10_feedFour_3] at h
    refine lv_iload_n hx hb dX10_feedFour_3 rfl (lv_at hl 2 rfl) ?_
    refine lv_if_lt (tgt := 46) hx hb dX10_feedFour_4 (by decide) (fun hc => ?_) (fun hc => ?_)
    · replace h := ip hc h
      obtain rfl := Option.some.inj h
      exact W.vret hx hb hr (fun t ht hW => ⟨⟨(), rfl, trivial, ⟨by rw [ht]; exact hP, va_K.moved hW.alike hK, hD⟩⟩, hS.F ht⟩) hS.2.2 dX10_feedFour_46
    · replace h := iq hc h
      refine lv_aload_n hx hb dX10_feedFour_7 rfl (lv_at hl 0 rfl) ?_
      refine va_get (D := (dC, dI)) (ci := 10) (C := RX10) (T := TX10) (N := 16) hx hb hts inlX10 hown hK hP 0 gA_0 rfl 1 (by decide) (hts (.fieldLink RX10 13 "ShapeReader" "tapeSize" "I") mw_20_22) (fun _ h9 => h9) rfl dX10_feedFour_8 ?_
      refine lv_sipush (v := 1000) hx hb dX10_feedFour_11 (by decide) ?_
      refine lv_icmp_ge (tgt := 40) hx hb dX10_feedFour_14 (by decide) (fun hc => ?_) (fun hc => ?_)
      · replace h := ip hc h
        exact b_X10_feedFour_40 hC ih h _ _ _ hP hD hS (lv_sub hl [0, 1, 2] rfl)
      · replace h := iq hc h
        refine lv_aload_n hx hb dX10_feedFour_17 rfl (lv_at hl 0 rfl) ?_
        refine va_get (D := (dC, dI)) (ci := 10) (C := RX10) (T := TX10) (N := 16) hx hb hts inlX10 hown hK hP 0 gA_0 rfl 0 (by decide) (hts (.fieldLink RX10 9 "ShapeReader" "tape" "[B") mw_20_21) (fun _ h9 => h9) rfl dX10_feedFour_18 ?_
        refine lv_aload_n hx hb dX10_feedFour_21 rfl (lv_at hl 0 rfl) ?_
        refine va_get (D := (dC, dI)) (ci := 10) (C := RX10) (T := TX10) (N := 16) hx hb hts inlX10 hown hK hP 0 gA_0 rfl 1 (by decide) (hts (.fieldLink RX10 13 "ShapeReader" "tapeSize" "I") mw_20_22) (fun _ h9 => h9) rfl dX10_feedFour_22 ?_
        refine lv_iload_n hx hb dX10_feedFour_25 rfl (lv_at hl 1 rfl) ?_
        refine lv_iload_n hx hb dX10_feedFour_26 rfl (lv_at hl 2 rfl) ?_
        refine lv_ishr hx hb dX10_feedFour_27 ?_
        refine lv_i2b (v := (x1 >>> (x2 &&& 31)).toInt8.toInt32) hx hb dX10_feedFour_28 rfl ?_
        obtain ⟨hg1, h⟩ := ig h
        refine va_bast hx hb hK hP hD hS 1 0 gA_1 yA_1 (vp_in_iff.mpr hg1) dX10_feedFour_29 (fun H locs hP hD hS => ?_)
        replace hP := uA_1 hP
        replace hD := hD0 ((stI σ 1 (σ.1 0 1).toNatClampNeg (vp_nar .byte ((x1 >>> (x2 &&& 31)).toInt8.toInt32))))
        refine lv_aload_n hx hb dX10_feedFour_30 rfl (lv_at hl 0 rfl) ?_
        refine lv_dup hx hb dX10_feedFour_31 rfl ?_
        refine va_get (D := (dC, dI)) (ci := 10) (C := RX10) (T := TX10) (N := 16) hx hb hts inlX10 hown hK hP 0 gA_0 rfl 1 (by decide) (hts (.fieldLink RX10 13 "ShapeReader" "tapeSize" "I") mw_20_22) (fun _ h9 => h9) rfl dX10_feedFour_32 ?_
        refine lv_iconst (v := 1) hx hb dX10_feedFour_35 (by decide) ?_
        refine lv_iadd hx hb dX10_feedFour_36 ?_
        refine va_put (D := (dC, dI)) (ci := 10) (ty := .int) (C := RX10) (T := TX10) (N := 16) hx hb hts inlX10 tyX10 tyX10_ok nmX10 hown hK hP hD hS 0 gA_0 rfl 1 (by decide) (hts (.fieldLink RX10 13 "ShapeReader" "tapeSize" "I") mw_20_22) (fun _ h9 => h9) rfl (by decide +kernel) rfl rfl (Nat.le_of_ble_eq_true rfl) dX10_feedFour_37 (fun H locs hP hD hS => ?_)
        replace hP := uA_0_1 hP
        replace hD := hD0 ((stI (stI σ 1 (σ.1 0 1).toNatClampNeg (vp_nar .byte ((x1 >>> (x2 &&& 31)).toInt8.toInt32))) 0 1 (((stI σ 1 (σ.1 0 1).toNatClampNeg (vp_nar .byte ((x1 >>> (x2 &&& 31)).toInt8.toInt32))).1 0 1) + 1)))
        obtain ⟨z2, hs, h⟩ := ib h
        replace hs := Option.some.inj hs
        replace hP : va_P (dC, dI) vwCl (wA a k z2) H := by rw [← hs]; exact hP
        replace hD := hD0 z2
        clear hs
        exact b_X10_feedFour_40 hC ih h _ _ _ hP hD hS (lv_sub hl [0, 1, 2] rfl)

set_option maxRecDepth 100000 in
set_option maxHeartbeats 4000000 in
theorem b_X10_feedFour_e {p : Program} {l : Launch} {e : Env} {s : State} {m : MethodId} {args : Array Value} {below : List Frame} {meth : Method} {c : Code} {dC : Nat → ClassId} {dI : Nat → Nat → Nat} {a : Nat → Nat} {k : Nat → ClassId} {A : Nat → Prop} {q : ST} (hC : CxA p s m args meth c dC dI k A cX10_feedFour RX10 none 3)   {p0 : Int32} {σ : ST} (h : f_X10_feedFour  p0 σ = some q) : GoA p l e ({ frames := 0, cells := 0, slots := 0, locals := 0 } : Room) s m args below meth c (MQ below (qAv dC dI a k A q) args s 0 0 A) dC dI a k A 3 0 σ (lv_args 0 [.ref (a 0), .int p0]) [] := by
  have hC0 := hC
  obtain ⟨hx, hb, hr, hml, hown, hts, hlocks, hA, hN, hK⟩ := hC0
  intro H locs ls hP hD hS hl
  have hD0 : ∀ σ1 : ST, va_D A (wA a k σ1) := fun σ1 => wA_D hD
  replace hl : lv_has ls 3 [(0, .ref (a 0)), (1, .int p0)] := hl
  unfold f_X10_feedFour at h
  refine lv_bipush (v := 24) hx hb dX10_feedFour_0 (by decide) ?_
  refine lv_istore_n (lv' := [(2, .int 24), (0, .ref (a 0)), (1, .int p0)]) hx hb dX10_feedFour_2 rfl hl (by decide) rfl (fun ls hl => ?_)
  exact b_X10_feedFour_3 hC FU _ _ _ h _ _ _ hP hD hS (lv_sub hl [1, 2, 0] rfl)

theorem s_X10_feedFour {l : Launch} {dC : Nat → ClassId} {dI : Nat → Nat → Nat} {a : Nat → Nat} {k : Nat → ClassId} {sz : Nat} {p0 : Int32} {σ : ST} {q : ST} (h : f_X10_feedFour  p0 σ = some q) : Met l yX10_feedFour (.code yX10_feedFour cX10_feedFour 3 none :: pw) ({ frames := 0, cells := 0, slots := 0, locals := 0 } : Room) (va_Pc [.ref (a 0), .int p0] (vPre dC dI (wA a k σ) (tA k) sz)) (qAv dC dI a k (va_A (wA a k σ) sz) q) 0 0 (va_A (wA a k σ) sz) := metA (fun A => qAv dC dI a k A q) (plainFor_of_name (by decide)) (Nat.le_of_ble_eq_true rfl) (fun _ _ _ _ _ _ _ _ hC => b_X10_feedFour_e hC h)

def f_X10_feed (p0 : Int32) (p1 : Int32) (p2 : Int32) (p3 : Int32) (p4 : Int32) (σ : ST) : Option (Int32 × ST) := if ((σ.1 0 1) + 20) ≤ 1000 then ((f_X10_feedFour  p0 σ).bind fun q1 => (f_X10_feedFour  p1 q1).bind fun q3 => (f_X10_feedFour  p2 q3).bind fun q5 => (f_X10_feedFour  p3 q5).bind fun q7 => (f_X10_feedFour  p4 q7).bind fun q9 => some ((q9.1 0 1), q9)) else (some ((-1), σ))

set_option maxRecDepth 100000 in
set_option maxHeartbeats 4000000 in
theorem b_X10_feed_e {p : Program} {l : Launch} {e : Env} {s : State} {m : MethodId} {args : Array Value} {below : List Frame} {meth : Method} {c : Code} {dC : Nat → ClassId} {dI : Nat → Nat → Nat} {a : Nat → Nat} {k : Nat → ClassId} {A : Nat → Prop} {q : Int32 × ST} (hC : CxA p s m args meth c dC dI k A cX10_feed RX10 (some .int) 6)   {p0 : Int32} {p1 : Int32} {p2 : Int32} {p3 : Int32} {p4 : Int32} {σ : ST} (h : f_X10_feed  p0 p1 p2 p3 p4 σ = some q) : GoA p l e ({ frames := 1, cells := 0, slots := 0, locals := 22 } : Room) s m args below meth c (MQ below (qAi dC dI a k A q) args s 0 0 A) dC dI a k A 6 0 σ (lv_args 0 [.ref (a 0), .int p0, .int p1, .int p2, .int p3, .int p4]) [] := by
  have hC0 := hC
  obtain ⟨hx, hb, hr, hml, hown, hts, hlocks, hA, hN, hK⟩ := hC0
  intro H locs ls hP hD hS hl
  have hD0 : ∀ σ1 : ST, va_D A (wA a k σ1) := fun σ1 => wA_D hD
  replace hl : lv_has ls 6 [(0, .ref (a 0)), (1, .int p0), (2, .int p1), (3, .int p2), (4, .int p3), (5, .int p4)] := hl
  unfold f_X10_feed at h
  refine lv_aload_n hx hb dX10_feed_0 rfl (lv_at hl 0 rfl) ?_
  refine va_get (D := (dC, dI)) (ci := 10) (C := RX10) (T := TX10) (N := 16) hx hb hts inlX10 hown hK hP 0 gA_0 rfl 1 (by decide) (hts (.fieldLink RX10 13 "ShapeReader" "tapeSize" "I") mw_20_22) (fun _ h9 => h9) rfl dX10_feed_1 ?_
  refine lv_bipush (v := 20) hx hb dX10_feed_4 (by decide) ?_
  refine lv_iadd hx hb dX10_feed_6 ?_
  refine lv_sipush (v := 1000) hx hb dX10_feed_7 (by decide) ?_
  refine lv_icmp_le (tgt := 15) hx hb dX10_feed_10 (by decide) (fun hc => ?_) (fun hc => ?_)
  · replace h := ip hc h
    refine lv_aload_n hx hb dX10_feed_15 rfl (lv_at hl 0 rfl) ?_
    refine lv_iload_n hx hb dX10_feed_16 rfl (lv_at hl 1 rfl) ?_
    obtain ⟨q1, hc, h⟩ := ib h
    have hF := va_frees hD hS hA
    refine va_callv (va_runV (As := [.int p0]) (rest := []) ⟨hx, hb, hml, hown, hts⟩ (s_X10_feedFour hc) (cwV 1 hts (gV mw_22_15 mw_22_16 mw_22_17 mw_0_14 mw_52_26) rfl rfl rfl (by decide +kernel) ⟨(Nat.le_of_ble_eq_true rfl), (Nat.le_of_ble_eq_true rfl)⟩) (vV (ci := 10) (q0 := 0) hK hP hD hN rfl gA_0) rfl rfl hl.1 rfl (lv_room (Nat.le_of_ble_eq_true rfl)) dX10_feed_17 ⟨(Nat.le_of_ble_eq_true rfl), (Nat.le_of_ble_eq_true rfl)⟩) hS (fun q _ h => hF q h) hF (fun u t H locs ht hvm hw hB _ _ hS => ?_)
    replace hP : va_P (dC, dI) vwCl (wA a k q1) H := by rw [← ht]; exact hB.1
    replace hD := hD0 (q1)
    clear hB hF
    refine lv_aload_n hx hb dX10_feed_20 rfl (lv_at hl 0 rfl) ?_
    refine lv_iload_n hx hb dX10_feed_21 rfl (lv_at hl 2 rfl) ?_
    obtain ⟨q3, hc, h⟩ := ib h
    have hF := va_frees hD hS hA
    refine va_callv (va_runV (As := [.int p1]) (rest := []) ⟨hx, hb, hml, hown, hts⟩ (s_X10_feedFour hc) (cwV 1 hts (gV mw_22_15 mw_22_16 mw_22_17 mw_0_14 mw_52_26) rfl rfl rfl (by decide +kernel) ⟨(Nat.le_of_ble_eq_true rfl), (Nat.le_of_ble_eq_true rfl)⟩) (vV (ci := 10) (q0 := 0) hK hP hD hN rfl gA_0) rfl rfl hl.1 rfl (lv_room (Nat.le_of_ble_eq_true rfl)) dX10_feed_22 ⟨(Nat.le_of_ble_eq_true rfl), (Nat.le_of_ble_eq_true rfl)⟩) hS (fun q _ h => hF q h) hF (fun u t H locs ht hvm hw hB _ _ hS => ?_)
    replace hP : va_P (dC, dI) vwCl (wA a k q3) H := by rw [← ht]; exact hB.1
    replace hD := hD0 (q3)
    clear hB hF
    refine lv_aload_n hx hb dX10_feed_25 rfl (lv_at hl 0 rfl) ?_
    refine lv_iload_n hx hb dX10_feed_26 rfl (lv_at hl 3 rfl) ?_
    obtain ⟨q5, hc, h⟩ := ib h
    have hF := va_frees hD hS hA
    refine va_callv (va_runV (As := [.int p2]) (rest := []) ⟨hx, hb, hml, hown, hts⟩ (s_X10_feedFour hc) (cwV 1 hts (gV mw_22_15 mw_22_16 mw_22_17 mw_0_14 mw_52_26) rfl rfl rfl (by decide +kernel) ⟨(Nat.le_of_ble_eq_true rfl), (Nat.le_of_ble_eq_true rfl)⟩) (vV (ci := 10) (q0 := 0) hK hP hD hN rfl gA_0) rfl rfl hl.1 rfl (lv_room (Nat.le_of_ble_eq_true rfl)) dX10_feed_27 ⟨(Nat.le_of_ble_eq_true rfl), (Nat.le_of_ble_eq_true rfl)⟩) hS (fun q _ h => hF q h) hF (fun u t H locs ht hvm hw hB _ _ hS => ?_)
    replace hP : va_P (dC, dI) vwCl (wA a k q5) H := by rw [← ht]; exact hB.1
    replace hD := hD0 (q5)
    clear hB hF
    refine lv_aload_n hx hb dX10_feed_30 rfl (lv_at hl 0 rfl) ?_
    refine lv_iload hx hb dX10_feed_31 (lv_at hl 4 rfl) ?_
    obtain ⟨q7, hc, h⟩ := ib h
    have hF := va_frees hD hS hA
    refine va_callv (va_runV (As := [.int p3]) (rest := []) ⟨hx, hb, hml, hown, hts⟩ (s_X10_feedFour hc) (cwV 1 hts (gV mw_22_15 mw_22_16 mw_22_17 mw_0_14 mw_52_26) rfl rfl rfl (by decide +kernel) ⟨(Nat.le_of_ble_eq_true rfl), (Nat.le_of_ble_eq_true rfl)⟩) (vV (ci := 10) (q0 := 0) hK hP hD hN rfl gA_0) rfl rfl hl.1 rfl (lv_room (Nat.le_of_ble_eq_true rfl)) dX10_feed_33 ⟨(Nat.le_of_ble_eq_true rfl), (Nat.le_of_ble_eq_true rfl)⟩) hS (fun q _ h => hF q h) hF (fun u t H locs ht hvm hw hB _ _ hS => ?_)
    replace hP : va_P (dC, dI) vwCl (wA a k q7) H := by rw [← ht]; exact hB.1
    replace hD := hD0 (q7)
    clear hB hF
    refine lv_aload_n hx hb dX10_feed_36 rfl (lv_at hl 0 rfl) ?_
    refine lv_iload hx hb dX10_feed_37 (lv_at hl 5 rfl) ?_
    obtain ⟨q9, hc, h⟩ := ib h
    have hF := va_frees hD hS hA
    refine va_callv (va_runV (As := [.int p4]) (rest := []) ⟨hx, hb, hml, hown, hts⟩ (s_X10_feedFour hc) (cwV 1 hts (gV mw_22_15 mw_22_16 mw_22_17 mw_0_14 mw_52_26) rfl rfl rfl (by decide +kernel) ⟨(Nat.le_of_ble_eq_true rfl), (Nat.le_of_ble_eq_true rfl)⟩) (vV (ci := 10) (q0 := 0) hK hP hD hN rfl gA_0) rfl rfl hl.1 rfl (lv_room (Nat.le_of_ble_eq_true rfl)) dX10_feed_39 ⟨(Nat.le_of_ble_eq_true rfl), (Nat.le_of_ble_eq_true rfl)⟩) hS (fun q _ h => hF q h) hF (fun u t H locs ht hvm hw hB _ _ hS => ?_)
    replace hP : va_P (dC, dI) vwCl (wA a k q9) H := by rw [← ht]; exact hB.1
    replace hD := hD0 (q9)
    clear hB hF
    refine lv_aload_n hx hb dX10_feed_42 rfl (lv_at hl 0 rfl) ?_
    refine va_get (D := (dC, dI)) (ci := 10) (C := RX10) (T := TX10) (N := 16) hx hb hts inlX10 hown hK hP 0 gA_0 rfl 1 (by decide) (hts (.fieldLink RX10 13 "ShapeReader" "tapeSize" "I") mw_20_22) (fun _ h9 => h9) rfl dX10_feed_43 ?_
    obtain rfl := Option.some.inj h
    exact W.iret hx hb hr (fun t ht hW => ⟨⟨_, (), rfl, rfl, ⟨by rw [ht]; exact hP, va_K.moved hW.alike hK, hD⟩⟩, hS.F ht⟩) hS.2.2 dX10_feed_46
  · replace h := iq hc h
    refine lv_iconst (v := (-1)) hx hb dX10_feed_13 (by decide) ?_
    obtain rfl := Option.some.inj h
    exact W.iret hx hb hr (fun t ht hW => ⟨⟨_, (), rfl, rfl, ⟨by rw [ht]; exact hP, va_K.moved hW.alike hK, hD⟩⟩, hS.F ht⟩) hS.2.2 dX10_feed_14

theorem s_X10_feed {l : Launch} {dC : Nat → ClassId} {dI : Nat → Nat → Nat} {a : Nat → Nat} {k : Nat → ClassId} {sz : Nat} {p0 : Int32} {p1 : Int32} {p2 : Int32} {p3 : Int32} {p4 : Int32} {σ : ST} {q : Int32 × ST} (h : f_X10_feed  p0 p1 p2 p3 p4 σ = some q) : Met l yX10_feed (.code yX10_feed cX10_feed 6 (some .int) :: pw) ({ frames := 1, cells := 0, slots := 0, locals := 22 } : Room) (va_Pc [.ref (a 0), .int p0, .int p1, .int p2, .int p3, .int p4] (vPre dC dI (wA a k σ) (tA k) sz)) (qAi dC dI a k (va_A (wA a k σ) sz) q) 0 0 (va_A (wA a k σ) sz) := metA (fun A => qAi dC dI a k A q) (plainFor_of_name (by decide)) (Nat.le_of_ble_eq_true rfl) (fun _ _ _ _ _ _ _ _ hC => b_X10_feed_e hC h)

def f_X5_recordWithin_31 (b : Nat) (x2 : Int32) (σ : ST) : Option (Int32 × ST) := (f_X5_sortOf b x2 σ).bind fun q1 => if q1.1 = 7 then ((f_X5_innerOf b x2 q1.2).bind fun q3 => (f_J9_floorMod_7cf53  q3.1 6 q3.2).bind fun q5 => some (q5.1, q5.2)) else (some ((-1), q1.2))
def f_X5_recordWithin_4 (b : Nat) : Nat → Int32 → Int32 → ST → Option (Int32 × ST)
  | 0, _, _, _ => none
  | n + 1, x2, x3, σ => if 3 < x3 then (f_X5_recordWithin_31 b x2 σ) else ((f_X5_sortOf b x2 σ).bind fun q1 => if q1.1 = 6 then ((f_X5_innerOf b x2 q1.2).bind fun q3 => f_X5_recordWithin_4 b n q3.1 (x3 + 1) q3.2) else (f_X5_recordWithin_31 b x2 q1.2))
def f_X5_recordWithin (b : Nat) (p0 : Int32) (σ : ST) : Option (Int32 × ST) := f_X5_recordWithin_4 b FU p0 0 σ

set_option maxRecDepth 100000 in
set_option maxHeartbeats 4000000 in
theorem b_X5_recordWithin_31_4 {p : Program} {l : Launch} {e : Env} {s : State} {m : MethodId} {args : Array Value} {below : List Frame} {meth : Method} {c : Code} {dC : Nat → ClassId} {dI : Nat → Nat → Nat} {a : Nat → Nat} {k : Nat → ClassId} {A : Nat → Prop} {q : Int32 × ST} (hC : CxA p s m args meth c dC dI k A cX5_recordWithin RX5 (some .int) 4)   {x2 : Int32} {σ : ST} (h : f_X5_recordWithin_31 4 x2 σ = some q) : GoA p l e ({ frames := 2, cells := 0, slots := 0, locals := 42 } : Room) s m args below meth c (MQ below (qAi dC dI a k A q) args s 0 0 A) dC dI a k A 4 31 σ [(0, .ref (a 4)), (2, .int x2)] [] := by
  have hC0 := hC
  obtain ⟨hx, hb, hr, hml, hown, hts, hlocks, hA, hN, hK⟩ := hC0
  intro H locs ls hP hD hS hl
  have hD0 : ∀ σ1 : ST, va_D A (wA a k σ1) := fun σ1 => wA_D hD
  unfold f_X5_recordWithin_31 at h
  refine lv_aload_n hx hb dX5_recordWithin_31 rfl (lv_at hl 0 rfl) ?_
  refine lv_iload_n hx hb dX5_recordWithin_32 rfl (lv_at hl 1 rfl) ?_
  obtain ⟨q1, hc, h⟩ := ib h
  have hF := va_frees hD hS hA
  refine va_calli (va_runV (As := [.int x2]) (rest := []) ⟨hx, hb, hml, hown, hts⟩ (s_X5_sortOf_4 hc) (cwV 1 hts (gV mw_15_12 mw_2_13 mw_2_14 mw_0_9 mw_50_6) rfl rfl rfl (by decide +kernel) ⟨(Nat.le_of_ble_eq_true rfl), (Nat.le_of_ble_eq_true rfl)⟩) (vV (ci := 5) (q0 := 4) hK hP hD hN rfl gA_4) rfl rfl hl.1 rfl (lv_room (Nat.le_of_ble_eq_true rfl)) dX5_recordWithin_33 ⟨(Nat.le_of_ble_eq_true rfl), (Nat.le_of_ble_eq_true rfl)⟩) hS (fun q _ h => hF q h) hF (fun r2 u t H locs ht hvm hw hB _ _ hS => ?_)
  obtain rfl : r2 = q1.1 := hw
  replace hP : va_P (dC, dI) vwCl (wA a k q1.2) H := by rw [← ht]; exact hB.1
  replace hD := hD0 (q1.2)
  clear hB hF
  refine lv_bipush (v := 7) hx hb dX5_recordWithin_36 (by decide) ?_
  refine lv_icmp_ne (tgt := 54) hx hb dX5_recordWithin_38 (by decide) (fun hc => ?_) (fun hc => ?_)
  · replace h := iq hc h
    refine lv_iconst (v := (-1)) hx hb dX5_recordWithin_54 (by decide) ?_
    obtain rfl := Option.some.inj h
    exact W.iret hx hb hr (fun t ht hW => ⟨⟨_, (), rfl, rfl, ⟨by rw [ht]; exact hP, va_K.moved hW.alike hK, hD⟩⟩, hS.F ht⟩) hS.2.2 dX5_recordWithin_55
  · replace h := ip hc h
    refine lv_aload_n hx hb dX5_recordWithin_41 rfl (lv_at hl 0 rfl) ?_
    refine lv_iload_n hx hb dX5_recordWithin_42 rfl (lv_at hl 1 rfl) ?_
    obtain ⟨q3, hc, h⟩ := ib h
    have hF := va_frees hD hS hA
    refine va_calli (va_runV (As := [.int x2]) (rest := []) ⟨hx, hb, hml, hown, hts⟩ (s_X5_innerOf_4 hc) (cwV 1 hts (gV mw_15_13 mw_2_16 mw_2_17 mw_0_9 mw_50_7) rfl rfl rfl (by decide +kernel) ⟨(Nat.le_of_ble_eq_true rfl), (Nat.le_of_ble_eq_true rfl)⟩) (vV (ci := 5) (q0 := 4) hK hP hD hN rfl gA_4) rfl rfl hl.1 rfl (lv_room (Nat.le_of_ble_eq_true rfl)) dX5_recordWithin_43 ⟨(Nat.le_of_ble_eq_true rfl), (Nat.le_of_ble_eq_true rfl)⟩) hS (fun q _ h => hF q h) hF (fun r4 u t H locs ht hvm hw hB _ _ hS => ?_)
    obtain rfl : r4 = q3.1 := hw
    replace hP : va_P (dC, dI) vwCl (wA a k q3.2) H := by rw [← ht]; exact hB.1
    replace hD := hD0 (q3.2)
    clear hB hF
    refine lv_bipush (v := 6) hx hb dX5_recordWithin_46 (by decide) ?_
    obtain ⟨q5, hc, h⟩ := ib h
    have hF := va_frees hD hS hA
    refine va_calli (va_runS (As := [.int q3.1, .int 6]) (rest := []) ⟨hx, hb, hml, hown, hts⟩ (s_J9_floorMod_7cf53 hc) (va_cwS 2 hts (gS mw_15_15 mw_1_5 mw_1_6 mw_57_22) rfl rfl rfl (by decide +kernel) ⟨(Nat.le_of_ble_eq_true rfl), (Nat.le_of_ble_eq_true rfl)⟩) (vS hK hP hD hN) rfl rfl hl.1 rfl (lv_room (Nat.le_of_ble_eq_true rfl)) dX5_recordWithin_48 ⟨(Nat.le_of_ble_eq_true rfl), (Nat.le_of_ble_eq_true rfl)⟩) hS (fun q _ h => hF q h) hF (fun r6 u t H locs ht hvm hw hB _ _ hS => ?_)
    obtain rfl : r6 = q5.1 := hw
    replace hP : va_P (dC, dI) vwCl (wA a k q5.2) H := by rw [← ht]; exact hB.1
    replace hD := hD0 (q5.2)
    clear hB hF
    refine lv_goto (tgt := 55) hx hb dX5_recordWithin_51 (by decide) ?_
    obtain rfl := Option.some.inj h
    exact W.iret hx hb hr (fun t ht hW => ⟨⟨_, (), rfl, rfl, ⟨by rw [ht]; exact hP, va_K.moved hW.alike hK, hD⟩⟩, hS.F ht⟩) hS.2.2 dX5_recordWithin_55

set_option maxRecDepth 100000 in
set_option maxHeartbeats 4000000 in
theorem b_X5_recordWithin_4_4 {p : Program} {l : Launch} {e : Env} {s : State} {m : MethodId} {args : Array Value} {below : List Frame} {meth : Method} {c : Code} {dC : Nat → ClassId} {dI : Nat → Nat → Nat} {a : Nat → Nat} {k : Nat → ClassId} {A : Nat → Prop} {q : Int32 × ST} (hC : CxA p s m args meth c dC dI k A cX5_recordWithin RX5 (some .int) 4)   : ∀ (n : Nat) (x2 : Int32) (x3 : Int32) (σ : ST), f_X5_recordWithin_4 4 n x2 x3 σ = some q → GoA p l e ({ frames := 2, cells := 0, slots := 0, locals := 42 } : Room) s m args below meth c (MQ below (qAi dC dI a k A q) args s 0 0 A) dC dI a k A 4 4 σ [(0, .ref (a 4)), (2, .int x2), (3, .int x3)] [] := by
  intro n
  induction n with
  | zero =>
    intro x2 x3 σ h
    rw [f_X5_recordWithin_4] at h
    cases h
  | succ n ih =>
    intro x2 x3 σ h
    have hC0 := hC
    obtain ⟨hx, hb, hr, hml, hown, hts, hlocks, hA, hN, hK⟩ := hC0
    intro H locs ls hP hD hS hl
    have hD0 : ∀ σ1 : ST, va_D A (wA a k σ1) := fun σ1 => wA_D hD
    rw [f_X5_recordWithin_4] at h
    refine lv_iload_n hx hb dX5_recordWithin_4 rfl (lv_at hl 2 rfl) ?_
    refine lv_iconst (v := 3) hx hb dX5_recordWithin_5 (by decide) ?_
    refine lv_icmp_gt (tgt := 31) hx hb dX5_recordWithin_6 (by decide) (fun hc => ?_) (fun hc => ?_)
    · replace h := ip hc h
      exact b_X5_recordWithin_31_4 hC h _ _ _ hP hD hS (lv_sub hl [0, 1] rfl)
    · replace h := iq hc h
      refine lv_aload_n hx hb dX5_recordWithin_9 rfl (lv_at hl 0 rfl) ?_
      refine lv_iload_n hx hb dX5_recordWithin_10 rfl (lv_at hl 1 rfl) ?_
      obtain ⟨q1, hc, h⟩ := ib h
      have hF := va_frees hD hS hA
      refine va_calli (va_runV (As := [.int x2]) (rest := []) ⟨hx, hb, hml, hown, hts⟩ (s_X5_sortOf_4 hc) (cwV 1 hts (gV mw_15_12 mw_2_13 mw_2_14 mw_0_9 mw_50_6) rfl rfl rfl (by decide +kernel) ⟨(Nat.le_of_ble_eq_true rfl), (Nat.le_of_ble_eq_true rfl)⟩) (vV (ci := 5) (q0 := 4) hK hP hD hN rfl gA_4) rfl rfl hl.1 rfl (lv_room (Nat.le_of_ble_eq_true rfl)) dX5_recordWithin_11 ⟨(Nat.le_of_ble_eq_true rfl), (Nat.le_of_ble_eq_true rfl)⟩) hS (fun q _ h => hF q h) hF (fun r2 u t H locs ht hvm hw hB _ _ hS => ?_)
      obtain rfl : r2 = q1.1 := hw
      replace hP : va_P (dC, dI) vwCl (wA a k q1.2) H := by rw [← ht]; exact hB.1
      replace hD := hD0 (q1.2)
      clear hB hF
      refine lv_bipush (v := 6) hx hb dX5_recordWithin_14 (by decide) ?_
      refine lv_icmp_ne (tgt := 31) hx hb dX5_recordWithin_16 (by decide) (fun hc => ?_) (fun hc => ?_)
      · replace h := iq hc h
        exact b_X5_recordWithin_31_4 hC h _ _ _ hP hD hS (lv_sub hl [0, 1] rfl)
      · replace h := ip hc h
        refine lv_aload_n hx hb dX5_recordWithin_19 rfl (lv_at hl 0 rfl) ?_
        refine lv_iload_n hx hb dX5_recordWithin_20 rfl (lv_at hl 1 rfl) ?_
        obtain ⟨q3, hc, h⟩ := ib h
        have hF := va_frees hD hS hA
        refine va_calli (va_runV (As := [.int x2]) (rest := []) ⟨hx, hb, hml, hown, hts⟩ (s_X5_innerOf_4 hc) (cwV 1 hts (gV mw_15_13 mw_2_16 mw_2_17 mw_0_9 mw_50_7) rfl rfl rfl (by decide +kernel) ⟨(Nat.le_of_ble_eq_true rfl), (Nat.le_of_ble_eq_true rfl)⟩) (vV (ci := 5) (q0 := 4) hK hP hD hN rfl gA_4) rfl rfl hl.1 rfl (lv_room (Nat.le_of_ble_eq_true rfl)) dX5_recordWithin_21 ⟨(Nat.le_of_ble_eq_true rfl), (Nat.le_of_ble_eq_true rfl)⟩) hS (fun q _ h => hF q h) hF (fun r4 u t H locs ht hvm hw hB _ _ hS => ?_)
        obtain rfl : r4 = q3.1 := hw
        replace hP : va_P (dC, dI) vwCl (wA a k q3.2) H := by rw [← ht]; exact hB.1
        replace hD := hD0 (q3.2)
        clear hB hF
        refine lv_istore_n (lv' := [(2, .int q3.1), (0, .ref (a 4)), (3, .int x3)]) hx hb dX5_recordWithin_24 rfl hl (by decide) rfl (fun ls hl => ?_)
        refine lv_iinc (v := (x3 + 1)) (lv' := [(3, .int (x3 + 1)), (2, .int q3.1), (0, .ref (a 4))]) hx hb dX5_recordWithin_25 hl (k := 2) rfl rfl (by decide) rfl (fun ls hl => ?_)
        refine lv_goto (tgt := 4) hx hb dX5_recordWithin_28 (by decide) ?_
        exact ih _ _ _ h _ _ _ hP hD hS (lv_sub hl [2, 1, 0] rfl)

set_option maxRecDepth 100000 in
set_option maxHeartbeats 4000000 in
theorem b_X5_recordWithin_e_4 {p : Program} {l : Launch} {e : Env} {s : State} {m : MethodId} {args : Array Value} {below : List Frame} {meth : Method} {c : Code} {dC : Nat → ClassId} {dI : Nat → Nat → Nat} {a : Nat → Nat} {k : Nat → ClassId} {A : Nat → Prop} {q : Int32 × ST} (hC : CxA p s m args meth c dC dI k A cX5_recordWithin RX5 (some .int) 4)   {p0 : Int32} {σ : ST} (h : f_X5_recordWithin 4 p0 σ = some q) : GoA p l e ({ frames := 2, cells := 0, slots := 0, locals := 42 } : Room) s m args below meth c (MQ below (qAi dC dI a k A q) args s 0 0 A) dC dI a k A 4 0 σ (lv_args 0 [.ref (a 4), .int p0]) [] := by
  have hC0 := hC
  obtain ⟨hx, hb, hr, hml, hown, hts, hlocks, hA, hN, hK⟩ := hC0
  intro H locs ls hP hD hS hl
  have hD0 : ∀ σ1 : ST, va_D A (wA a k σ1) := fun σ1 => wA_D hD
  replace hl : lv_has ls 4 [(0, .ref (a 4)), (1, .int p0)] := hl
  unfold f_X5_recordWithin at h
  refine lv_iload_n hx hb dX5_recordWithin_0 rfl (lv_at hl 1 rfl) ?_
  refine lv_istore_n (lv' := [(2, .int p0), (0, .ref (a 4)), (1, .int p0)]) hx hb dX5_recordWithin_1 rfl hl (by decide) rfl (fun ls hl => ?_)
  refine lv_iconst (v := 0) hx hb dX5_recordWithin_2 (by decide) ?_
  refine lv_istore_n (lv' := [(3, .int 0), (2, .int p0), (0, .ref (a 4)), (1, .int p0)]) hx hb dX5_recordWithin_3 rfl hl (by decide) rfl (fun ls hl => ?_)
  exact b_X5_recordWithin_4_4 hC FU _ _ _ h _ _ _ hP hD hS (lv_sub hl [2, 1, 0] rfl)

theorem s_X5_recordWithin_4 {l : Launch} {dC : Nat → ClassId} {dI : Nat → Nat → Nat} {a : Nat → Nat} {k : Nat → ClassId} {sz : Nat} {p0 : Int32} {σ : ST} {q : Int32 × ST} (h : f_X5_recordWithin 4 p0 σ = some q) : Met l yX5_recordWithin (.code yX5_recordWithin cX5_recordWithin 4 (some .int) :: pw) ({ frames := 2, cells := 0, slots := 0, locals := 42 } : Room) (va_Pc [.ref (a 4), .int p0] (vPre dC dI (wA a k σ) (tA k) sz)) (qAi dC dI a k (va_A (wA a k σ) sz) q) 0 0 (va_A (wA a k σ) sz) := metA (fun A => qAi dC dI a k A q) (plainFor_of_name (by decide)) (Nat.le_of_ble_eq_true rfl) (fun _ _ _ _ _ _ _ _ hC => b_X5_recordWithin_e_4 hC h)

def f_X10_field (p0 : Int32) (p1 : Int32) (p2 : Int32) (p3 : Int32) (σ : ST) : Option (Int32 × ST) := (f_X10_isPlan  p0 σ).bind fun q1 => if q1.1 = 0 then (some ((-1), q1.2)) else (if p1 < 0 then (some ((-1), q1.2)) else ((f_X5_recordsOf 4 p0 q1.2).bind fun q3 => if p1 < q3.1 then (if p2 < 0 then (some ((-1), q3.2)) else ((f_X5_fieldsOf 4 ((p0 * 6) + p1) q3.2).bind fun q5 => if p2 < q5.1 then ((f_X5_typeOf 4 ((p0 * 6) + p1) p2 q5.2).bind fun q7 => if p3 = 0 then ((f_X5_sortOf 4 q7.1 q7.2).bind fun q15 => some (q15.1, q15.2)) else (if p3 = 1 then ((f_X5_hasElse 4 ((p0 * 6) + p1) p2 q7.2).bind fun q17 => if q17.1 = 0 then (some (0, q17.2)) else (some (1, q17.2))) else (if p3 = 2 then ((f_X5_formerName 4 ((p0 * 6) + p1) p2 q7.2).bind fun q19 => if (lg_cmp q19.1 0) = 0 then (some (0, q19.2)) else (some (1, q19.2))) else (if p3 = 3 then ((f_X5_fieldName 4 ((p0 * 6) + p1) p2 q7.2).bind fun q21 => (f_X10_lettersIn  q21.1 q21.2).bind fun q23 => some (q23.1, q23.2)) else (if p3 = 4 then ((f_X5_branchesOf 4 q7.1 q7.2).bind fun q25 => some (q25.1, q25.2)) else (if p3 = 5 then ((f_X5_recordWithin 4 q7.1 q7.2).bind fun q27 => some (q27.1, q27.2)) else (some ((-1), q7.2)))))))) else (some ((-1), q5.2)))) else (some ((-1), q3.2))))

set_option maxRecDepth 100000 in
set_option maxHeartbeats 4000000 in
theorem b_X10_field_e {p : Program} {l : Launch} {e : Env} {s : State} {m : MethodId} {args : Array Value} {below : List Frame} {meth : Method} {c : Code} {dC : Nat → ClassId} {dI : Nat → Nat → Nat} {a : Nat → Nat} {k : Nat → ClassId} {A : Nat → Prop} {q : Int32 × ST} (hC : CxA p s m args meth c dC dI k A cX10_field RX10 (some .int) 7)   {p0 : Int32} {p1 : Int32} {p2 : Int32} {p3 : Int32} {σ : ST} (h : f_X10_field  p0 p1 p2 p3 σ = some q) : GoA p l e ({ frames := 3, cells := 0, slots := 0, locals := 65 } : Room) s m args below meth c (MQ below (qAi dC dI a k A q) args s 0 0 A) dC dI a k A 7 0 σ (lv_args 0 [.ref (a 0), .int p0, .int p1, .int p2, .int p3]) [] := by
  have hC0 := hC
  obtain ⟨hx, hb, hr, hml, hown, hts, hlocks, hA, hN, hK⟩ := hC0
  intro H locs ls hP hD hS hl
  have hD0 : ∀ σ1 : ST, va_D A (wA a k σ1) := fun σ1 => wA_D hD
  replace hl : lv_has ls 7 [(0, .ref (a 0)), (1, .int p0), (2, .int p1), (3, .int p2), (4, .int p3)] := hl
  unfold f_X10_field at h
  refine lv_aload_n hx hb dX10_field_0 rfl (lv_at hl 0 rfl) ?_
  refine lv_iload_n hx hb dX10_field_1 rfl (lv_at hl 1 rfl) ?_
  obtain ⟨q1, hc, h⟩ := ib h
  have hF := va_frees hD hS hA
  refine va_calli (va_runV (As := [.int p0]) (rest := []) ⟨hx, hb, hml, hown, hts⟩ (s_X10_isPlan hc) (cwV 1 hts (gV mw_23_15 mw_23_16 mw_23_17 mw_0_14 mw_52_29) rfl rfl rfl (by decide +kernel) ⟨(Nat.le_of_ble_eq_true rfl), (Nat.le_of_ble_eq_true rfl)⟩) (vV (ci := 10) (q0 := 0) hK hP hD hN rfl gA_0) rfl rfl hl.1 rfl (lv_room (Nat.le_of_ble_eq_true rfl)) dX10_field_2 ⟨(Nat.le_of_ble_eq_true rfl), (Nat.le_of_ble_eq_true rfl)⟩) hS (fun q _ h => hF q h) hF (fun r2 u t H locs ht hvm hw hB _ _ hS => ?_)
  obtain rfl : r2 = q1.1 := hw
  replace hP : va_P (dC, dI) vwCl (wA a k q1.2) H := by rw [← ht]; exact hB.1
  replace hD := hD0 (q1.2)
  clear hB hF
  refine lv_if_eq (tgt := 24) hx hb dX10_field_5 (by decide) (fun hc => ?_) (fun hc => ?_)
  · replace h := ip hc h
    refine lv_iconst (v := (-1)) hx hb dX10_field_24 (by decide) ?_
    obtain rfl := Option.some.inj h
    exact W.iret hx hb hr (fun t ht hW => ⟨⟨_, (), rfl, rfl, ⟨by rw [ht]; exact hP, va_K.moved hW.alike hK, hD⟩⟩, hS.F ht⟩) hS.2.2 dX10_field_25
  · replace h := iq hc h
    refine lv_iload_n hx hb dX10_field_8 rfl (lv_at hl 2 rfl) ?_
    refine lv_if_lt (tgt := 24) hx hb dX10_field_9 (by decide) (fun hc => ?_) (fun hc => ?_)
    · replace h := ip hc h
      refine lv_iconst (v := (-1)) hx hb dX10_field_24 (by decide) ?_
      obtain rfl := Option.some.inj h
      exact W.iret hx hb hr (fun t ht hW => ⟨⟨_, (), rfl, rfl, ⟨by rw [ht]; exact hP, va_K.moved hW.alike hK, hD⟩⟩, hS.F ht⟩) hS.2.2 dX10_field_25
    · replace h := iq hc h
      refine lv_iload_n hx hb dX10_field_12 rfl (lv_at hl 2 rfl) ?_
      refine lv_aload_n hx hb dX10_field_13 rfl (lv_at hl 0 rfl) ?_
      refine va_get (D := (dC, dI)) (ci := 10) (C := RX10) (T := TX10) (N := 16) hx hb hts inlX10 hown hK hP 0 gA_0 rfl 3 (by decide) (hts (.fieldLink RX10 29 "ShapeReader" "shapes" "LShapeReader$Shapes;") mw_21_1) (fun _ h9 => h9) rfl dX10_field_14 ?_
      refine lv_iload_n hx hb dX10_field_17 rfl (lv_at hl 1 rfl) ?_
      obtain ⟨q3, hc, h⟩ := ib h
      have hF := va_frees hD hS hA
      refine va_calli (va_runV (As := [.int p0]) (rest := [.int p1]) ⟨hx, hb, hml, hown, hts⟩ (s_X5_recordsOf_4 hc) (cwV 1 hts (gV mw_24_0 mw_1_13 mw_1_14 mw_0_9 mw_49_27) rfl rfl rfl (by decide +kernel) ⟨(Nat.le_of_ble_eq_true rfl), (Nat.le_of_ble_eq_true rfl)⟩) (vV (ci := 5) (q0 := 4) hK hP hD hN rfl gA_4) rfl rfl hl.1 rfl (lv_room (Nat.le_of_ble_eq_true rfl)) dX10_field_18 ⟨(Nat.le_of_ble_eq_true rfl), (Nat.le_of_ble_eq_true rfl)⟩) hS (fun q _ h => hF q h) hF (fun r4 u t H locs ht hvm hw hB _ _ hS => ?_)
      obtain rfl : r4 = q3.1 := hw
      replace hP : va_P (dC, dI) vwCl (wA a k q3.2) H := by rw [← ht]; exact hB.1
      replace hD := hD0 (q3.2)
      clear hB hF
      refine lv_icmp_lt (tgt := 26) hx hb dX10_field_21 (by decide) (fun hc => ?_) (fun hc => ?_)
      · replace h := ip hc h
        refine lv_iload_n hx hb dX10_field_26 rfl (lv_at hl 1 rfl) ?_
        refine lv_bipush (v := 6) hx hb dX10_field_27 (by decide) ?_
        refine lv_imul hx hb dX10_field_29 ?_
        refine lv_iload_n hx hb dX10_field_30 rfl (lv_at hl 2 rfl) ?_
        refine lv_iadd hx hb dX10_field_31 ?_
        refine lv_istore (lv' := [(5, .int ((p0 * 6) + p1)), (0, .ref (a 0)), (1, .int p0), (2, .int p1), (3, .int p2), (4, .int p3)]) hx hb dX10_field_32 hl (by decide) rfl (fun ls hl => ?_)
        refine lv_iload_n hx hb dX10_field_34 rfl (lv_at hl 4 rfl) ?_
        refine lv_if_lt (tgt := 51) hx hb dX10_field_35 (by decide) (fun hc => ?_) (fun hc => ?_)
        · replace h := ip hc h
          refine lv_iconst (v := (-1)) hx hb dX10_field_51 (by decide) ?_
          obtain rfl := Option.some.inj h
          exact W.iret hx hb hr (fun t ht hW => ⟨⟨_, (), rfl, rfl, ⟨by rw [ht]; exact hP, va_K.moved hW.alike hK, hD⟩⟩, hS.F ht⟩) hS.2.2 dX10_field_52
        · replace h := iq hc h
          refine lv_iload_n hx hb dX10_field_38 rfl (lv_at hl 4 rfl) ?_
          refine lv_aload_n hx hb dX10_field_39 rfl (lv_at hl 1 rfl) ?_
          refine va_get (D := (dC, dI)) (ci := 10) (C := RX10) (T := TX10) (N := 16) hx hb hts inlX10 hown hK hP 0 gA_0 rfl 3 (by decide) (hts (.fieldLink RX10 29 "ShapeReader" "shapes" "LShapeReader$Shapes;") mw_21_1) (fun _ h9 => h9) rfl dX10_field_40 ?_
          refine lv_iload hx hb dX10_field_43 (lv_at hl 0 rfl) ?_
          obtain ⟨q5, hc, h⟩ := ib h
          have hF := va_frees hD hS hA
          refine va_calli (va_runV (As := [.int ((p0 * 6) + p1)]) (rest := [.int p2]) ⟨hx, hb, hml, hown, hts⟩ (s_X5_fieldsOf_4 hc) (cwV 1 hts (gV mw_24_1 mw_1_28 mw_1_29 mw_0_9 mw_49_29) rfl rfl rfl (by decide +kernel) ⟨(Nat.le_of_ble_eq_true rfl), (Nat.le_of_ble_eq_true rfl)⟩) (vV (ci := 5) (q0 := 4) hK hP hD hN rfl gA_4) rfl rfl hl.1 rfl (lv_room (Nat.le_of_ble_eq_true rfl)) dX10_field_45 ⟨(Nat.le_of_ble_eq_true rfl), (Nat.le_of_ble_eq_true rfl)⟩) hS (fun q _ h => hF q h) hF (fun r6 u t H locs ht hvm hw hB _ _ hS => ?_)
          obtain rfl : r6 = q5.1 := hw
          replace hP : va_P (dC, dI) vwCl (wA a k q5.2) H := by rw [← ht]; exact hB.1
          replace hD := hD0 (q5.2)
          clear hB hF
          refine lv_icmp_lt (tgt := 53) hx hb dX10_field_48 (by decide) (fun hc => ?_) (fun hc => ?_)
          · replace h := ip hc h
            refine lv_aload_n hx hb dX10_field_53 rfl (lv_at hl 1 rfl) ?_
            refine va_get (D := (dC, dI)) (ci := 10) (C := RX10) (T := TX10) (N := 16) hx hb hts inlX10 hown hK hP 0 gA_0 rfl 3 (by decide) (hts (.fieldLink RX10 29 "ShapeReader" "shapes" "LShapeReader$Shapes;") mw_21_1) (fun _ h9 => h9) rfl dX10_field_54 ?_
            refine lv_iload hx hb dX10_field_57 (lv_at hl 0 rfl) ?_
            refine lv_iload_n hx hb dX10_field_59 rfl (lv_at hl 4 rfl) ?_
            obtain ⟨q7, hc, h⟩ := ib h
            have hF := va_frees hD hS hA
            refine va_calli (va_runV (As := [.int ((p0 * 6) + p1), .int p2]) (rest := []) ⟨hx, hb, hml, hown, hts⟩ (s_X5_typeOf_4 hc) (cwV 2 hts (gV mw_24_4 mw_2_7 mw_2_8 mw_0_9 mw_50_3) rfl rfl rfl (by decide +kernel) ⟨(Nat.le_of_ble_eq_true rfl), (Nat.le_of_ble_eq_true rfl)⟩) (vV (ci := 5) (q0 := 4) hK hP hD hN rfl gA_4) rfl rfl hl.1 rfl (lv_room (Nat.le_of_ble_eq_true rfl)) dX10_field_60 ⟨(Nat.le_of_ble_eq_true rfl), (Nat.le_of_ble_eq_true rfl)⟩) hS (fun q _ h => hF q h) hF (fun r8 u t H locs ht hvm hw hB _ _ hS => ?_)
            obtain rfl : r8 = q7.1 := hw
            replace hP : va_P (dC, dI) vwCl (wA a k q7.2) H := by rw [← ht]; exact hB.1
            replace hD := hD0 (q7.2)
            clear hB hF
            refine lv_istore (lv' := [(6, .int q7.1), (5, .int ((p0 * 6) + p1)), (0, .ref (a 0)), (1, .int p0), (2, .int p1), (3, .int p2), (4, .int p3)]) hx hb dX10_field_63 hl (by decide) rfl (fun ls hl => ?_)
            refine lv_iload hx hb dX10_field_65 (lv_at hl 6 rfl) ?_
            rcases (il_sw6 p3 (0) (1) (2) (3) (4) (5)) with s9 | s10 | s11 | s12 | s13 | s14 | ⟨s9, s10, s11, s12, s13, s14⟩
            · replace h := ip s9 h
              refine lv_tableIn (off := 37) (tgt := 104) hx hb dX10_field_67 (by rw [s9]; decide) (by rw [s9]; decide) (by rw [s9]; rfl) (by decide) ?_
              refine lv_aload_n hx hb dX10_field_104 rfl (lv_at hl 2 rfl) ?_
              refine va_get (D := (dC, dI)) (ci := 10) (C := RX10) (T := TX10) (N := 16) hx hb hts inlX10 hown hK hP 0 gA_0 rfl 3 (by decide) (hts (.fieldLink RX10 29 "ShapeReader" "shapes" "LShapeReader$Shapes;") mw_21_1) (fun _ h9 => h9) rfl dX10_field_105 ?_
              refine lv_iload hx hb dX10_field_108 (lv_at hl 0 rfl) ?_
              obtain ⟨q15, hc, h⟩ := ib h
              have hF := va_frees hD hS hA
              refine va_calli (va_runV (As := [.int q7.1]) (rest := []) ⟨hx, hb, hml, hown, hts⟩ (s_X5_sortOf_4 hc) (cwV 1 hts (gV mw_24_5 mw_2_13 mw_2_14 mw_0_9 mw_50_6) rfl rfl rfl (by decide +kernel) ⟨(Nat.le_of_ble_eq_true rfl), (Nat.le_of_ble_eq_true rfl)⟩) (vV (ci := 5) (q0 := 4) hK hP hD hN rfl gA_4) rfl rfl hl.1 rfl (lv_room (Nat.le_of_ble_eq_true rfl)) dX10_field_110 ⟨(Nat.le_of_ble_eq_true rfl), (Nat.le_of_ble_eq_true rfl)⟩) hS (fun q _ h => hF q h) hF (fun r16 u t H locs ht hvm hw hB _ _ hS => ?_)
              obtain rfl : r16 = q15.1 := hw
              replace hP : va_P (dC, dI) vwCl (wA a k q15.2) H := by rw [← ht]; exact hB.1
              replace hD := hD0 (q15.2)
              clear hB hF
              obtain rfl := Option.some.inj h
              exact W.iret hx hb hr (fun t ht hW => ⟨⟨_, (), rfl, rfl, ⟨by rw [ht]; exact hP, va_K.moved hW.alike hK, hD⟩⟩, hS.F ht⟩) hS.2.2 dX10_field_113
            · replace h := ip s10 (iq (by rw [s10]; decide) h)
              refine lv_tableIn (off := 47) (tgt := 114) hx hb dX10_field_67 (by rw [s10]; decide) (by rw [s10]; decide) (by rw [s10]; rfl) (by decide) ?_
              refine lv_aload_n hx hb dX10_field_114 rfl (lv_at hl 2 rfl) ?_
              refine va_get (D := (dC, dI)) (ci := 10) (C := RX10) (T := TX10) (N := 16) hx hb hts inlX10 hown hK hP 0 gA_0 rfl 3 (by decide) (hts (.fieldLink RX10 29 "ShapeReader" "shapes" "LShapeReader$Shapes;") mw_21_1) (fun _ h9 => h9) rfl dX10_field_115 ?_
              refine lv_iload hx hb dX10_field_118 (lv_at hl 1 rfl) ?_
              refine lv_iload_n hx hb dX10_field_120 rfl (lv_at hl 5 rfl) ?_
              obtain ⟨q17, hc, h⟩ := ib h
              have hF := va_frees hD hS hA
              refine va_calli (va_runV (As := [.int ((p0 * 6) + p1), .int p2]) (rest := []) ⟨hx, hb, hml, hown, hts⟩ (s_X5_hasElse_4 hc) (cwV 2 hts (gV mw_24_6 mw_2_4 mw_2_5 mw_0_9 mw_50_4) rfl rfl rfl (by decide +kernel) ⟨(Nat.le_of_ble_eq_true rfl), (Nat.le_of_ble_eq_true rfl)⟩) (vV (ci := 5) (q0 := 4) hK hP hD hN rfl gA_4) rfl rfl hl.1 rfl (lv_room (Nat.le_of_ble_eq_true rfl)) dX10_field_121 ⟨(Nat.le_of_ble_eq_true rfl), (Nat.le_of_ble_eq_true rfl)⟩) hS (fun q _ h => hF q h) hF (fun r18 u t H locs ht hvm hw hB _ _ hS => ?_)
              obtain rfl : r18 = q17.1 := hw
              replace hP : va_P (dC, dI) vwCl (wA a k q17.2) H := by rw [← ht]; exact hB.1
              replace hD := hD0 (q17.2)
              clear hB hF
              refine lv_if_eq (tgt := 131) hx hb dX10_field_124 (by decide) (fun hc => ?_) (fun hc => ?_)
              · replace h := ip hc h
                refine lv_iconst (v := 0) hx hb dX10_field_131 (by decide) ?_
                obtain rfl := Option.some.inj h
                exact W.iret hx hb hr (fun t ht hW => ⟨⟨_, (), rfl, rfl, ⟨by rw [ht]; exact hP, va_K.moved hW.alike hK, hD⟩⟩, hS.F ht⟩) hS.2.2 dX10_field_132
              · replace h := iq hc h
                refine lv_iconst (v := 1) hx hb dX10_field_127 (by decide) ?_
                refine lv_goto (tgt := 132) hx hb dX10_field_128 (by decide) ?_
                obtain rfl := Option.some.inj h
                exact W.iret hx hb hr (fun t ht hW => ⟨⟨_, (), rfl, rfl, ⟨by rw [ht]; exact hP, va_K.moved hW.alike hK, hD⟩⟩, hS.F ht⟩) hS.2.2 dX10_field_132
            · replace h := ip s11 (iq (by rw [s11]; decide) (iq (by rw [s11]; decide) h))
              refine lv_tableIn (off := 66) (tgt := 133) hx hb dX10_field_67 (by rw [s11]; decide) (by rw [s11]; decide) (by rw [s11]; rfl) (by decide) ?_
              refine lv_aload_n hx hb dX10_field_133 rfl (lv_at hl 2 rfl) ?_
              refine va_get (D := (dC, dI)) (ci := 10) (C := RX10) (T := TX10) (N := 16) hx hb hts inlX10 hown hK hP 0 gA_0 rfl 3 (by decide) (hts (.fieldLink RX10 29 "ShapeReader" "shapes" "LShapeReader$Shapes;") mw_21_1) (fun _ h9 => h9) rfl dX10_field_134 ?_
              refine lv_iload hx hb dX10_field_137 (lv_at hl 1 rfl) ?_
              refine lv_iload_n hx hb dX10_field_139 rfl (lv_at hl 5 rfl) ?_
              obtain ⟨q19, hc, h⟩ := ib h
              have hF := va_frees hD hS hA
              refine va_calll (va_runV (As := [.int ((p0 * 6) + p1), .int p2]) (rest := []) ⟨hx, hb, hml, hown, hts⟩ (s_X5_formerName_4 hc) (cwV 2 hts (gV mw_24_7 mw_15_21 mw_15_22 mw_0_9 mw_50_2) rfl rfl rfl (by decide +kernel) ⟨(Nat.le_of_ble_eq_true rfl), (Nat.le_of_ble_eq_true rfl)⟩) (vV (ci := 5) (q0 := 4) hK hP hD hN rfl gA_4) rfl rfl hl.1 rfl (lv_room (Nat.le_of_ble_eq_true rfl)) dX10_field_140 ⟨(Nat.le_of_ble_eq_true rfl), (Nat.le_of_ble_eq_true rfl)⟩) hS (fun q _ h => hF q h) hF (fun r20 u t H locs ht hvm hw hB _ _ hS => ?_)
              obtain rfl : r20 = q19.1 := hw
              replace hP : va_P (dC, dI) vwCl (wA a k q19.2) H := by rw [← ht]; exact hB.1
              replace hD := hD0 (q19.2)
              clear hB hF
              refine lv_lconst (v := 0) hx hb dX10_field_143 (by decide) ?_
              refine W.lcmp hx hb dX10_field_144 ?_
              refine lv_if_eq (tgt := 152) hx hb dX10_field_145 (by decide) (fun hc => ?_) (fun hc => ?_)
              · replace h := ip hc h
                refine lv_iconst (v := 0) hx hb dX10_field_152 (by decide) ?_
                obtain rfl := Option.some.inj h
                exact W.iret hx hb hr (fun t ht hW => ⟨⟨_, (), rfl, rfl, ⟨by rw [ht]; exact hP, va_K.moved hW.alike hK, hD⟩⟩, hS.F ht⟩) hS.2.2 dX10_field_153
              · replace h := iq hc h
                refine lv_iconst (v := 1) hx hb dX10_field_148 (by decide) ?_
                refine lv_goto (tgt := 153) hx hb dX10_field_149 (by decide) ?_
                obtain rfl := Option.some.inj h
                exact W.iret hx hb hr (fun t ht hW => ⟨⟨_, (), rfl, rfl, ⟨by rw [ht]; exact hP, va_K.moved hW.alike hK, hD⟩⟩, hS.F ht⟩) hS.2.2 dX10_field_153
            · replace h := ip s12 (iq (by rw [s12]; decide) (iq (by rw [s12]; decide) (iq (by rw [s12]; decide) h)))
              refine lv_tableIn (off := 87) (tgt := 154) hx hb dX10_field_67 (by rw [s12]; decide) (by rw [s12]; decide) (by rw [s12]; rfl) (by decide) ?_
              refine lv_aload_n hx hb dX10_field_154 rfl (lv_at hl 2 rfl) ?_
              refine va_get (D := (dC, dI)) (ci := 10) (C := RX10) (T := TX10) (N := 16) hx hb hts inlX10 hown hK hP 0 gA_0 rfl 3 (by decide) (hts (.fieldLink RX10 29 "ShapeReader" "shapes" "LShapeReader$Shapes;") mw_21_1) (fun _ h9 => h9) rfl dX10_field_155 ?_
              refine lv_iload hx hb dX10_field_158 (lv_at hl 1 rfl) ?_
              refine lv_iload_n hx hb dX10_field_160 rfl (lv_at hl 5 rfl) ?_
              obtain ⟨q21, hc, h⟩ := ib h
              have hF := va_frees hD hS hA
              refine va_calll (va_runV (As := [.int ((p0 * 6) + p1), .int p2]) (rest := []) ⟨hx, hb, hml, hown, hts⟩ (s_X5_fieldName_4 hc) (cwV 2 hts (gV mw_24_8 mw_10_0 mw_10_1 mw_0_9 mw_50_1) rfl rfl rfl (by decide +kernel) ⟨(Nat.le_of_ble_eq_true rfl), (Nat.le_of_ble_eq_true rfl)⟩) (vV (ci := 5) (q0 := 4) hK hP hD hN rfl gA_4) rfl rfl hl.1 rfl (lv_room (Nat.le_of_ble_eq_true rfl)) dX10_field_161 ⟨(Nat.le_of_ble_eq_true rfl), (Nat.le_of_ble_eq_true rfl)⟩) hS (fun q _ h => hF q h) hF (fun r22 u t H locs ht hvm hw hB _ _ hS => ?_)
              obtain rfl : r22 = q21.1 := hw
              replace hP : va_P (dC, dI) vwCl (wA a k q21.2) H := by rw [← ht]; exact hB.1
              replace hD := hD0 (q21.2)
              clear hB hF
              obtain ⟨q23, hc, h⟩ := ib h
              have hF := va_frees hD hS hA
              refine va_calli (va_runS (As := [.long q21.1]) (rest := []) ⟨hx, hb, hml, hown, hts⟩ (s_X10_lettersIn hc) (va_cwS 1 hts (gS mw_24_3 mw_6_26 mw_0_14 mw_53_21) rfl rfl rfl (by decide +kernel) ⟨(Nat.le_of_ble_eq_true rfl), (Nat.le_of_ble_eq_true rfl)⟩) (vS hK hP hD hN) rfl rfl hl.1 rfl (lv_room (Nat.le_of_ble_eq_true rfl)) dX10_field_164 ⟨(Nat.le_of_ble_eq_true rfl), (Nat.le_of_ble_eq_true rfl)⟩) hS (fun q _ h => hF q h) hF (fun r24 u t H locs ht hvm hw hB _ _ hS => ?_)
              obtain rfl : r24 = q23.1 := hw
              replace hP : va_P (dC, dI) vwCl (wA a k q23.2) H := by rw [← ht]; exact hB.1
              replace hD := hD0 (q23.2)
              clear hB hF
              obtain rfl := Option.some.inj h
              exact W.iret hx hb hr (fun t ht hW => ⟨⟨_, (), rfl, rfl, ⟨by rw [ht]; exact hP, va_K.moved hW.alike hK, hD⟩⟩, hS.F ht⟩) hS.2.2 dX10_field_167
            · replace h := ip s13 (iq (by rw [s13]; decide) (iq (by rw [s13]; decide) (iq (by rw [s13]; decide) (iq (by rw [s13]; decide) h))))
              refine lv_tableIn (off := 101) (tgt := 168) hx hb dX10_field_67 (by rw [s13]; decide) (by rw [s13]; decide) (by rw [s13]; rfl) (by decide) ?_
              refine lv_aload_n hx hb dX10_field_168 rfl (lv_at hl 2 rfl) ?_
              refine va_get (D := (dC, dI)) (ci := 10) (C := RX10) (T := TX10) (N := 16) hx hb hts inlX10 hown hK hP 0 gA_0 rfl 3 (by decide) (hts (.fieldLink RX10 29 "ShapeReader" "shapes" "LShapeReader$Shapes;") mw_21_1) (fun _ h9 => h9) rfl dX10_field_169 ?_
              refine lv_iload hx hb dX10_field_172 (lv_at hl 0 rfl) ?_
              obtain ⟨q25, hc, h⟩ := ib h
              have hF := va_frees hD hS hA
              refine va_calli (va_runV (As := [.int q7.1]) (rest := []) ⟨hx, hb, hml, hown, hts⟩ (s_X5_branchesOf_4 hc) (cwV 1 hts (gV mw_24_9 mw_12_0 mw_12_1 mw_0_9 mw_50_9) rfl rfl rfl (by decide +kernel) ⟨(Nat.le_of_ble_eq_true rfl), (Nat.le_of_ble_eq_true rfl)⟩) (vV (ci := 5) (q0 := 4) hK hP hD hN rfl gA_4) rfl rfl hl.1 rfl (lv_room (Nat.le_of_ble_eq_true rfl)) dX10_field_174 ⟨(Nat.le_of_ble_eq_true rfl), (Nat.le_of_ble_eq_true rfl)⟩) hS (fun q _ h => hF q h) hF (fun r26 u t H locs ht hvm hw hB _ _ hS => ?_)
              obtain rfl : r26 = q25.1 := hw
              replace hP : va_P (dC, dI) vwCl (wA a k q25.2) H := by rw [← ht]; exact hB.1
              replace hD := hD0 (q25.2)
              clear hB hF
              obtain rfl := Option.some.inj h
              exact W.iret hx hb hr (fun t ht hW => ⟨⟨_, (), rfl, rfl, ⟨by rw [ht]; exact hP, va_K.moved hW.alike hK, hD⟩⟩, hS.F ht⟩) hS.2.2 dX10_field_177
            · replace h := ip s14 (iq (by rw [s14]; decide) (iq (by rw [s14]; decide) (iq (by rw [s14]; decide) (iq (by rw [s14]; decide) (iq (by rw [s14]; decide) h)))))
              refine lv_tableIn (off := 111) (tgt := 178) hx hb dX10_field_67 (by rw [s14]; decide) (by rw [s14]; decide) (by rw [s14]; rfl) (by decide) ?_
              refine lv_aload_n hx hb dX10_field_178 rfl (lv_at hl 2 rfl) ?_
              refine va_get (D := (dC, dI)) (ci := 10) (C := RX10) (T := TX10) (N := 16) hx hb hts inlX10 hown hK hP 0 gA_0 rfl 3 (by decide) (hts (.fieldLink RX10 29 "ShapeReader" "shapes" "LShapeReader$Shapes;") mw_21_1) (fun _ h9 => h9) rfl dX10_field_179 ?_
              refine lv_iload hx hb dX10_field_182 (lv_at hl 0 rfl) ?_
              obtain ⟨q27, hc, h⟩ := ib h
              have hF := va_frees hD hS hA
              refine va_calli (va_runV (As := [.int q7.1]) (rest := []) ⟨hx, hb, hml, hown, hts⟩ (s_X5_recordWithin_4 hc) (cwV 1 hts (gV mw_24_10 mw_24_11 mw_24_12 mw_0_9 mw_50_12) rfl rfl rfl (by decide +kernel) ⟨(Nat.le_of_ble_eq_true rfl), (Nat.le_of_ble_eq_true rfl)⟩) (vV (ci := 5) (q0 := 4) hK hP hD hN rfl gA_4) rfl rfl hl.1 rfl (lv_room (Nat.le_of_ble_eq_true rfl)) dX10_field_184 ⟨(Nat.le_of_ble_eq_true rfl), (Nat.le_of_ble_eq_true rfl)⟩) hS (fun q _ h => hF q h) hF (fun r28 u t H locs ht hvm hw hB _ _ hS => ?_)
              obtain rfl : r28 = q27.1 := hw
              replace hP : va_P (dC, dI) vwCl (wA a k q27.2) H := by rw [← ht]; exact hB.1
              replace hD := hD0 (q27.2)
              clear hB hF
              obtain rfl := Option.some.inj h
              exact W.iret hx hb hr (fun t ht hW => ⟨⟨_, (), rfl, rfl, ⟨by rw [ht]; exact hP, va_K.moved hW.alike hK, hD⟩⟩, hS.F ht⟩) hS.2.2 dX10_field_187
            · replace h := (iq s14 (iq s13 (iq s12 (iq s11 (iq s10 (iq s9 h))))))
              refine lv_tableOut (tgt := 188) hx hb dX10_field_67 (by have a0 := il_ne s9; have e0 : (0 : Int32).toInt = 0 := (by decide); have a1 := il_ne s10; have e1 : (1 : Int32).toInt = 1 := (by decide); have a2 := il_ne s11; have e2 : (2 : Int32).toInt = 2 := (by decide); have a3 := il_ne s12; have e3 : (3 : Int32).toInt = 3 := (by decide); have a4 := il_ne s13; have e4 : (4 : Int32).toInt = 4 := (by decide); have a5 := il_ne s14; have e5 : (5 : Int32).toInt = 5 := (by decide); omega) (by decide) ?_
              refine lv_iconst (v := (-1)) hx hb dX10_field_188 (by decide) ?_
              obtain rfl := Option.some.inj h
              exact W.iret hx hb hr (fun t ht hW => ⟨⟨_, (), rfl, rfl, ⟨by rw [ht]; exact hP, va_K.moved hW.alike hK, hD⟩⟩, hS.F ht⟩) hS.2.2 dX10_field_189
          · replace h := iq hc h
            refine lv_iconst (v := (-1)) hx hb dX10_field_51 (by decide) ?_
            obtain rfl := Option.some.inj h
            exact W.iret hx hb hr (fun t ht hW => ⟨⟨_, (), rfl, rfl, ⟨by rw [ht]; exact hP, va_K.moved hW.alike hK, hD⟩⟩, hS.F ht⟩) hS.2.2 dX10_field_52
      · replace h := iq hc h
        refine lv_iconst (v := (-1)) hx hb dX10_field_24 (by decide) ?_
        obtain rfl := Option.some.inj h
        exact W.iret hx hb hr (fun t ht hW => ⟨⟨_, (), rfl, rfl, ⟨by rw [ht]; exact hP, va_K.moved hW.alike hK, hD⟩⟩, hS.F ht⟩) hS.2.2 dX10_field_25

theorem s_X10_field {l : Launch} {dC : Nat → ClassId} {dI : Nat → Nat → Nat} {a : Nat → Nat} {k : Nat → ClassId} {sz : Nat} {p0 : Int32} {p1 : Int32} {p2 : Int32} {p3 : Int32} {σ : ST} {q : Int32 × ST} (h : f_X10_field  p0 p1 p2 p3 σ = some q) : Met l yX10_field (.code yX10_field cX10_field 7 (some .int) :: pw) ({ frames := 3, cells := 0, slots := 0, locals := 65 } : Room) (va_Pc [.ref (a 0), .int p0, .int p1, .int p2, .int p3] (vPre dC dI (wA a k σ) (tA k) sz)) (qAi dC dI a k (va_A (wA a k σ) sz) q) 0 0 (va_A (wA a k σ) sz) := metA (fun A => qAi dC dI a k A q) (plainFor_of_name (by decide)) (Nat.le_of_ble_eq_true rfl) (fun _ _ _ _ _ _ _ _ hC => b_X10_field_e hC h)

def f_X10_kept (p0 : Int32) (σ : ST) : Option (Int32 × ST) := if p0 = (-1) then (some ((σ.1 48 1), σ)) else ((f_X9_pairAt  p0 σ).bind fun q1 => some (q1.1, q1.2))

set_option maxRecDepth 100000 in
set_option maxHeartbeats 4000000 in
theorem b_X10_kept_e {p : Program} {l : Launch} {e : Env} {s : State} {m : MethodId} {args : Array Value} {below : List Frame} {meth : Method} {c : Code} {dC : Nat → ClassId} {dI : Nat → Nat → Nat} {a : Nat → Nat} {k : Nat → ClassId} {A : Nat → Prop} {q : Int32 × ST} (hC : CxA p s m args meth c dC dI k A cX10_kept RX10 (some .int) 2)   {p0 : Int32} {σ : ST} (h : f_X10_kept  p0 σ = some q) : GoA p l e ({ frames := 1, cells := 0, slots := 0, locals := 21 } : Room) s m args below meth c (MQ below (qAi dC dI a k A q) args s 0 0 A) dC dI a k A 2 0 σ (lv_args 0 [.ref (a 0), .int p0]) [] := by
  have hC0 := hC
  obtain ⟨hx, hb, hr, hml, hown, hts, hlocks, hA, hN, hK⟩ := hC0
  intro H locs ls hP hD hS hl
  have hD0 : ∀ σ1 : ST, va_D A (wA a k σ1) := fun σ1 => wA_D hD
  replace hl : lv_has ls 2 [(0, .ref (a 0)), (1, .int p0)] := hl
  unfold f_X10_kept at h
  refine lv_iload_n hx hb dX10_kept_0 rfl (lv_at hl 1 rfl) ?_
  refine lv_iconst (v := (-1)) hx hb dX10_kept_1 (by decide) ?_
  refine lv_icmp_ne (tgt := 15) hx hb dX10_kept_2 (by decide) (fun hc => ?_) (fun hc => ?_)
  · replace h := iq hc h
    refine lv_aload_n hx hb dX10_kept_15 rfl (lv_at hl 0 rfl) ?_
    refine va_get (D := (dC, dI)) (ci := 10) (C := RX10) (T := TX10) (N := 16) hx hb hts inlX10 hown hK hP 0 gA_0 rfl 8 (by decide) (hts (.fieldLink RX10 64 "ShapeReader" "ways" "LShapeReader$Ways;") mw_21_21) (fun _ h9 => h9) rfl dX10_kept_16 ?_
    refine lv_iload_n hx hb dX10_kept_19 rfl (lv_at hl 1 rfl) ?_
    obtain ⟨q1, hc, h⟩ := ib h
    have hF := va_frees hD hS hA
    refine va_calli (va_runV (As := [.int p0]) (rest := []) ⟨hx, hb, hml, hown, hts⟩ (s_X9_pairAt hc) (cwV 1 hts (gV mw_26_11 mw_20_16 mw_20_17 mw_0_13 mw_52_21) rfl rfl rfl (by decide +kernel) ⟨(Nat.le_of_ble_eq_true rfl), (Nat.le_of_ble_eq_true rfl)⟩) (vV (ci := 9) (q0 := 48) hK hP hD hN rfl gA_48) rfl rfl hl.1 rfl (lv_room (Nat.le_of_ble_eq_true rfl)) dX10_kept_20 ⟨(Nat.le_of_ble_eq_true rfl), (Nat.le_of_ble_eq_true rfl)⟩) hS (fun q _ h => hF q h) hF (fun r2 u t H locs ht hvm hw hB _ _ hS => ?_)
    obtain rfl : r2 = q1.1 := hw
    replace hP : va_P (dC, dI) vwCl (wA a k q1.2) H := by rw [← ht]; exact hB.1
    replace hD := hD0 (q1.2)
    clear hB hF
    obtain rfl := Option.some.inj h
    exact W.iret hx hb hr (fun t ht hW => ⟨⟨_, (), rfl, rfl, ⟨by rw [ht]; exact hP, va_K.moved hW.alike hK, hD⟩⟩, hS.F ht⟩) hS.2.2 dX10_kept_23
  · replace h := ip hc h
    refine lv_aload_n hx hb dX10_kept_5 rfl (lv_at hl 0 rfl) ?_
    refine va_get (D := (dC, dI)) (ci := 10) (C := RX10) (T := TX10) (N := 16) hx hb hts inlX10 hown hK hP 0 gA_0 rfl 8 (by decide) (hts (.fieldLink RX10 64 "ShapeReader" "ways" "LShapeReader$Ways;") mw_21_21) (fun _ h9 => h9) rfl dX10_kept_6 ?_
    refine va_get (D := (dC, dI)) (ci := 9) (C := RX9) (T := TX9) (N := 4) hx hb hts inlX9 hown hK hP 48 gA_48 rfl 1 (by decide) (hts (.fieldLink RX10 298 "ShapeReader$Ways" "size" "I") mw_26_10) (fun _ h9 => h9) rfl dX10_kept_9 ?_
    refine lv_goto (tgt := 23) hx hb dX10_kept_12 (by decide) ?_
    obtain rfl := Option.some.inj h
    exact W.iret hx hb hr (fun t ht hW => ⟨⟨_, (), rfl, rfl, ⟨by rw [ht]; exact hP, va_K.moved hW.alike hK, hD⟩⟩, hS.F ht⟩) hS.2.2 dX10_kept_23

theorem s_X10_kept {l : Launch} {dC : Nat → ClassId} {dI : Nat → Nat → Nat} {a : Nat → Nat} {k : Nat → ClassId} {sz : Nat} {p0 : Int32} {σ : ST} {q : Int32 × ST} (h : f_X10_kept  p0 σ = some q) : Met l yX10_kept (.code yX10_kept cX10_kept 2 (some .int) :: pw) ({ frames := 1, cells := 0, slots := 0, locals := 21 } : Room) (va_Pc [.ref (a 0), .int p0] (vPre dC dI (wA a k σ) (tA k) sz)) (qAi dC dI a k (va_A (wA a k σ) sz) q) 0 0 (va_A (wA a k σ) sz) := metA (fun A => qAi dC dI a k A q) (plainFor_of_name (by decide)) (Nat.le_of_ble_eq_true rfl) (fun _ _ _ _ _ _ _ _ hC => b_X10_kept_e hC h)

def f_X10_matches (p0 : Int32) (p1 : Int32) (σ : ST) : Option (Int32 × ST) := (f_X10_isPlan  p0 σ).bind fun q1 => if q1.1 = 0 then (some ((-1), q1.2)) else ((f_X10_isPlan  p1 q1.2).bind fun q3 => if q3.1 = 0 then (some ((-1), q3.2)) else ((f_X0_verdict  p0 p1 q3.2).bind fun q5 => some (q5.1, q5.2)))

set_option maxRecDepth 100000 in
set_option maxHeartbeats 4000000 in
theorem b_X10_matches_e {p : Program} {l : Launch} {e : Env} {s : State} {m : MethodId} {args : Array Value} {below : List Frame} {meth : Method} {c : Code} {dC : Nat → ClassId} {dI : Nat → Nat → Nat} {a : Nat → Nat} {k : Nat → ClassId} {A : Nat → Prop} {q : Int32 × ST} (hC : CxA p s m args meth c dC dI k A cX10_matches RX10 (some .int) 3)   {p0 : Int32} {p1 : Int32} {σ : ST} (h : f_X10_matches  p0 p1 σ = some q) : GoA p l e ({ frames := 327, cells := 0, slots := 0, locals := 8967 } : Room) s m args below meth c (MQ below (qAi dC dI a k A q) args s 0 0 A) dC dI a k A 3 0 σ (lv_args 0 [.ref (a 0), .int p0, .int p1]) [] := by
  have hC0 := hC
  obtain ⟨hx, hb, hr, hml, hown, hts, hlocks, hA, hN, hK⟩ := hC0
  intro H locs ls hP hD hS hl
  have hD0 : ∀ σ1 : ST, va_D A (wA a k σ1) := fun σ1 => wA_D hD
  replace hl : lv_has ls 3 [(0, .ref (a 0)), (1, .int p0), (2, .int p1)] := hl
  unfold f_X10_matches at h
  refine lv_aload_n hx hb dX10_matches_0 rfl (lv_at hl 0 rfl) ?_
  refine lv_iload_n hx hb dX10_matches_1 rfl (lv_at hl 1 rfl) ?_
  obtain ⟨q1, hc, h⟩ := ib h
  have hF := va_frees hD hS hA
  refine va_calli (va_runV (As := [.int p0]) (rest := []) ⟨hx, hb, hml, hown, hts⟩ (s_X10_isPlan hc) (cwV 1 hts (gV mw_23_15 mw_23_16 mw_23_17 mw_0_14 mw_52_29) rfl rfl rfl (by decide +kernel) ⟨(Nat.le_of_ble_eq_true rfl), (Nat.le_of_ble_eq_true rfl)⟩) (vV (ci := 10) (q0 := 0) hK hP hD hN rfl gA_0) rfl rfl hl.1 rfl (lv_room (Nat.le_of_ble_eq_true rfl)) dX10_matches_2 ⟨(Nat.le_of_ble_eq_true rfl), (Nat.le_of_ble_eq_true rfl)⟩) hS (fun q _ h => hF q h) hF (fun r2 u t H locs ht hvm hw hB _ _ hS => ?_)
  obtain rfl : r2 = q1.1 := hw
  replace hP : va_P (dC, dI) vwCl (wA a k q1.2) H := by rw [← ht]; exact hB.1
  replace hD := hD0 (q1.2)
  clear hB hF
  refine lv_if_eq (tgt := 16) hx hb dX10_matches_5 (by decide) (fun hc => ?_) (fun hc => ?_)
  · replace h := ip hc h
    refine lv_iconst (v := (-1)) hx hb dX10_matches_16 (by decide) ?_
    obtain rfl := Option.some.inj h
    exact W.iret hx hb hr (fun t ht hW => ⟨⟨_, (), rfl, rfl, ⟨by rw [ht]; exact hP, va_K.moved hW.alike hK, hD⟩⟩, hS.F ht⟩) hS.2.2 dX10_matches_17
  · replace h := iq hc h
    refine lv_aload_n hx hb dX10_matches_8 rfl (lv_at hl 0 rfl) ?_
    refine lv_iload_n hx hb dX10_matches_9 rfl (lv_at hl 2 rfl) ?_
    obtain ⟨q3, hc, h⟩ := ib h
    have hF := va_frees hD hS hA
    refine va_calli (va_runV (As := [.int p1]) (rest := []) ⟨hx, hb, hml, hown, hts⟩ (s_X10_isPlan hc) (cwV 1 hts (gV mw_23_15 mw_23_16 mw_23_17 mw_0_14 mw_52_29) rfl rfl rfl (by decide +kernel) ⟨(Nat.le_of_ble_eq_true rfl), (Nat.le_of_ble_eq_true rfl)⟩) (vV (ci := 10) (q0 := 0) hK hP hD hN rfl gA_0) rfl rfl hl.1 rfl (lv_room (Nat.le_of_ble_eq_true rfl)) dX10_matches_10 ⟨(Nat.le_of_ble_eq_true rfl), (Nat.le_of_ble_eq_true rfl)⟩) hS (fun q _ h => hF q h) hF (fun r4 u t H locs ht hvm hw hB _ _ hS => ?_)
    obtain rfl : r4 = q3.1 := hw
    replace hP : va_P (dC, dI) vwCl (wA a k q3.2) H := by rw [← ht]; exact hB.1
    replace hD := hD0 (q3.2)
    clear hB hF
    refine lv_if_ne (tgt := 18) hx hb dX10_matches_13 (by decide) (fun hc => ?_) (fun hc => ?_)
    · replace h := iq hc h
      refine lv_aload_n hx hb dX10_matches_18 rfl (lv_at hl 0 rfl) ?_
      refine va_get (D := (dC, dI)) (ci := 10) (C := RX10) (T := TX10) (N := 16) hx hb hts inlX10 hown hK hP 0 gA_0 rfl 7 (by decide) (hts (.fieldLink RX10 57 "ShapeReader" "matcher" "LShapeReader$Matcher;") mw_21_17) (fun _ h9 => h9) rfl dX10_matches_19 ?_
      refine lv_iload_n hx hb dX10_matches_22 rfl (lv_at hl 1 rfl) ?_
      refine lv_iload_n hx hb dX10_matches_23 rfl (lv_at hl 2 rfl) ?_
      obtain ⟨q5, hc, h⟩ := ib h
      have hF := va_frees hD hS hA
      refine va_calli (va_runV (As := [.int p0, .int p1]) (rest := []) ⟨hx, hb, hml, hown, hts⟩ (s_X0_verdict hc) (cwV 2 hts (gV mw_24_26 mw_24_27 mw_24_28 mw_0_4 mw_47_15) rfl rfl rfl (by decide +kernel) ⟨(Nat.le_of_ble_eq_true rfl), (Nat.le_of_ble_eq_true rfl)⟩) (vV (ci := 0) (q0 := 41) hK hP hD hN rfl gA_41) rfl rfl hl.1 rfl (lv_room (Nat.le_of_ble_eq_true rfl)) dX10_matches_24 ⟨(Nat.le_of_ble_eq_true rfl), (Nat.le_of_ble_eq_true rfl)⟩) hS (fun q _ h => hF q h) hF (fun r6 u t H locs ht hvm hw hB _ _ hS => ?_)
      obtain rfl : r6 = q5.1 := hw
      replace hP : va_P (dC, dI) vwCl (wA a k q5.2) H := by rw [← ht]; exact hB.1
      replace hD := hD0 (q5.2)
      clear hB hF
      obtain rfl := Option.some.inj h
      exact W.iret hx hb hr (fun t ht hW => ⟨⟨_, (), rfl, rfl, ⟨by rw [ht]; exact hP, va_K.moved hW.alike hK, hD⟩⟩, hS.F ht⟩) hS.2.2 dX10_matches_27
    · replace h := ip hc h
      refine lv_iconst (v := (-1)) hx hb dX10_matches_16 (by decide) ?_
      obtain rfl := Option.some.inj h
      exact W.iret hx hb hr (fun t ht hW => ⟨⟨_, (), rfl, rfl, ⟨by rw [ht]; exact hP, va_K.moved hW.alike hK, hD⟩⟩, hS.F ht⟩) hS.2.2 dX10_matches_17

theorem s_X10_matches {l : Launch} {dC : Nat → ClassId} {dI : Nat → Nat → Nat} {a : Nat → Nat} {k : Nat → ClassId} {sz : Nat} {p0 : Int32} {p1 : Int32} {σ : ST} {q : Int32 × ST} (h : f_X10_matches  p0 p1 σ = some q) : Met l yX10_matches (.code yX10_matches cX10_matches 3 (some .int) :: pw) ({ frames := 327, cells := 0, slots := 0, locals := 8967 } : Room) (va_Pc [.ref (a 0), .int p0, .int p1] (vPre dC dI (wA a k σ) (tA k) sz)) (qAi dC dI a k (va_A (wA a k σ) sz) q) 0 0 (va_A (wA a k σ) sz) := metA (fun A => qAi dC dI a k A q) (plainFor_of_name (by decide)) (Nat.le_of_ble_eq_true rfl) (fun _ _ _ _ _ _ _ _ hC => b_X10_matches_e hC h)

def f_X10_message (p0 : Int32) (p1 : Int32) (σ : ST) : Option (Int32 × ST) := (f_X1_isWritten  p0 σ).bind fun q1 => if q1.1 = 0 then (some ((-1), q1.2)) else (if p1 = 0 then ((f_X1_sizeOf  p0 q1.2).bind fun q5 => some (q5.1, q5.2)) else (if p1 = 1 then ((f_X1_planOf  p0 q1.2).bind fun q7 => some (q7.1, q7.2)) else (some ((-1), q1.2))))

set_option maxRecDepth 100000 in
set_option maxHeartbeats 4000000 in
theorem b_X10_message_e {p : Program} {l : Launch} {e : Env} {s : State} {m : MethodId} {args : Array Value} {below : List Frame} {meth : Method} {c : Code} {dC : Nat → ClassId} {dI : Nat → Nat → Nat} {a : Nat → Nat} {k : Nat → ClassId} {A : Nat → Prop} {q : Int32 × ST} (hC : CxA p s m args meth c dC dI k A cX10_message RX10 (some .int) 3)   {p0 : Int32} {p1 : Int32} {σ : ST} (h : f_X10_message  p0 p1 σ = some q) : GoA p l e ({ frames := 2, cells := 0, slots := 0, locals := 42 } : Room) s m args below meth c (MQ below (qAi dC dI a k A q) args s 0 0 A) dC dI a k A 3 0 σ (lv_args 0 [.ref (a 0), .int p0, .int p1]) [] := by
  have hC0 := hC
  obtain ⟨hx, hb, hr, hml, hown, hts, hlocks, hA, hN, hK⟩ := hC0
  intro H locs ls hP hD hS hl
  have hD0 : ∀ σ1 : ST, va_D A (wA a k σ1) := fun σ1 => wA_D hD
  replace hl : lv_has ls 3 [(0, .ref (a 0)), (1, .int p0), (2, .int p1)] := hl
  unfold f_X10_message at h
  refine lv_aload_n hx hb dX10_message_0 rfl (lv_at hl 0 rfl) ?_
  refine va_get (D := (dC, dI)) (ci := 10) (C := RX10) (T := TX10) (N := 16) hx hb hts inlX10 hown hK hP 0 gA_0 rfl 6 (by decide) (hts (.fieldLink RX10 48 "ShapeReader" "messages" "LShapeReader$Messages;") mw_21_12) (fun _ h9 => h9) rfl dX10_message_1 ?_
  refine lv_iload_n hx hb dX10_message_4 rfl (lv_at hl 1 rfl) ?_
  obtain ⟨q1, hc, h⟩ := ib h
  have hF := va_frees hD hS hA
  refine va_calli (va_runV (As := [.int p0]) (rest := []) ⟨hx, hb, hml, hown, hts⟩ (s_X1_isWritten hc) (cwV 1 hts (gV mw_24_13 mw_4_15 mw_4_16 mw_0_5 mw_48_0) rfl rfl rfl (by decide +kernel) ⟨(Nat.le_of_ble_eq_true rfl), (Nat.le_of_ble_eq_true rfl)⟩) (vV (ci := 1) (q0 := 37) hK hP hD hN rfl gA_37) rfl rfl hl.1 rfl (lv_room (Nat.le_of_ble_eq_true rfl)) dX10_message_5 ⟨(Nat.le_of_ble_eq_true rfl), (Nat.le_of_ble_eq_true rfl)⟩) hS (fun q _ h => hF q h) hF (fun r2 u t H locs ht hvm hw hB _ _ hS => ?_)
  obtain rfl : r2 = q1.1 := hw
  replace hP : va_P (dC, dI) vwCl (wA a k q1.2) H := by rw [← ht]; exact hB.1
  replace hD := hD0 (q1.2)
  clear hB hF
  refine lv_if_ne (tgt := 13) hx hb dX10_message_8 (by decide) (fun hc => ?_) (fun hc => ?_)
  · replace h := iq hc h
    refine lv_iload_n hx hb dX10_message_13 rfl (lv_at hl 2 rfl) ?_
    rcases (il_sw2 p1 (0) (1)) with s3 | s4 | ⟨s3, s4⟩
    · replace h := ip s3 h
      refine lv_lookup (off := 26) (tgt := 40) hx hb dX10_message_14 (by decide) (by rw [s3]; decide) (by decide) ?_
      refine lv_aload_n hx hb dX10_message_40 rfl (lv_at hl 0 rfl) ?_
      refine va_get (D := (dC, dI)) (ci := 10) (C := RX10) (T := TX10) (N := 16) hx hb hts inlX10 hown hK hP 0 gA_0 rfl 6 (by decide) (hts (.fieldLink RX10 48 "ShapeReader" "messages" "LShapeReader$Messages;") mw_21_12) (fun _ h9 => h9) rfl dX10_message_41 ?_
      refine lv_iload_n hx hb dX10_message_44 rfl (lv_at hl 1 rfl) ?_
      obtain ⟨q5, hc, h⟩ := ib h
      have hF := va_frees hD hS hA
      refine va_calli (va_runV (As := [.int p0]) (rest := []) ⟨hx, hb, hml, hown, hts⟩ (s_X1_sizeOf hc) (cwV 1 hts (gV mw_24_14 mw_4_24 mw_4_25 mw_0_5 mw_48_2) rfl rfl rfl (by decide +kernel) ⟨(Nat.le_of_ble_eq_true rfl), (Nat.le_of_ble_eq_true rfl)⟩) (vV (ci := 1) (q0 := 37) hK hP hD hN rfl gA_37) rfl rfl hl.1 rfl (lv_room (Nat.le_of_ble_eq_true rfl)) dX10_message_45 ⟨(Nat.le_of_ble_eq_true rfl), (Nat.le_of_ble_eq_true rfl)⟩) hS (fun q _ h => hF q h) hF (fun r6 u t H locs ht hvm hw hB _ _ hS => ?_)
      obtain rfl : r6 = q5.1 := hw
      replace hP : va_P (dC, dI) vwCl (wA a k q5.2) H := by rw [← ht]; exact hB.1
      replace hD := hD0 (q5.2)
      clear hB hF
      obtain rfl := Option.some.inj h
      exact W.iret hx hb hr (fun t ht hW => ⟨⟨_, (), rfl, rfl, ⟨by rw [ht]; exact hP, va_K.moved hW.alike hK, hD⟩⟩, hS.F ht⟩) hS.2.2 dX10_message_48
    · replace h := ip s4 (iq (by rw [s4]; decide) h)
      refine lv_lookup (off := 35) (tgt := 49) hx hb dX10_message_14 (by decide) (by rw [s4]; decide) (by decide) ?_
      refine lv_aload_n hx hb dX10_message_49 rfl (lv_at hl 0 rfl) ?_
      refine va_get (D := (dC, dI)) (ci := 10) (C := RX10) (T := TX10) (N := 16) hx hb hts inlX10 hown hK hP 0 gA_0 rfl 6 (by decide) (hts (.fieldLink RX10 48 "ShapeReader" "messages" "LShapeReader$Messages;") mw_21_12) (fun _ h9 => h9) rfl dX10_message_50 ?_
      refine lv_iload_n hx hb dX10_message_53 rfl (lv_at hl 1 rfl) ?_
      obtain ⟨q7, hc, h⟩ := ib h
      have hF := va_frees hD hS hA
      refine va_calli (va_runV (As := [.int p0]) (rest := []) ⟨hx, hb, hml, hown, hts⟩ (s_X1_planOf hc) (cwV 1 hts (gV mw_24_15 mw_11_3 mw_11_4 mw_0_5 mw_48_3) rfl rfl rfl (by decide +kernel) ⟨(Nat.le_of_ble_eq_true rfl), (Nat.le_of_ble_eq_true rfl)⟩) (vV (ci := 1) (q0 := 37) hK hP hD hN rfl gA_37) rfl rfl hl.1 rfl (lv_room (Nat.le_of_ble_eq_true rfl)) dX10_message_54 ⟨(Nat.le_of_ble_eq_true rfl), (Nat.le_of_ble_eq_true rfl)⟩) hS (fun q _ h => hF q h) hF (fun r8 u t H locs ht hvm hw hB _ _ hS => ?_)
      obtain rfl : r8 = q7.1 := hw
      replace hP : va_P (dC, dI) vwCl (wA a k q7.2) H := by rw [← ht]; exact hB.1
      replace hD := hD0 (q7.2)
      clear hB hF
      obtain rfl := Option.some.inj h
      exact W.iret hx hb hr (fun t ht hW => ⟨⟨_, (), rfl, rfl, ⟨by rw [ht]; exact hP, va_K.moved hW.alike hK, hD⟩⟩, hS.F ht⟩) hS.2.2 dX10_message_57
    · replace h := (iq s4 (iq s3 h))
      refine lv_lookup (off := 44) (tgt := 58) hx hb dX10_message_14 (by decide) (by have a0 := il_ne s3; have e0 : (0 : Int32).toInt = 0 := (by decide); have a1 := il_ne s4; have e1 : (1 : Int32).toInt = 1 := (by decide); exact lk_dflt2 (by omega)) (by decide) ?_
      refine lv_iconst (v := (-1)) hx hb dX10_message_58 (by decide) ?_
      obtain rfl := Option.some.inj h
      exact W.iret hx hb hr (fun t ht hW => ⟨⟨_, (), rfl, rfl, ⟨by rw [ht]; exact hP, va_K.moved hW.alike hK, hD⟩⟩, hS.F ht⟩) hS.2.2 dX10_message_59
  · replace h := ip hc h
    refine lv_iconst (v := (-1)) hx hb dX10_message_11 (by decide) ?_
    obtain rfl := Option.some.inj h
    exact W.iret hx hb hr (fun t ht hW => ⟨⟨_, (), rfl, rfl, ⟨by rw [ht]; exact hP, va_K.moved hW.alike hK, hD⟩⟩, hS.F ht⟩) hS.2.2 dX10_message_12

theorem s_X10_message {l : Launch} {dC : Nat → ClassId} {dI : Nat → Nat → Nat} {a : Nat → Nat} {k : Nat → ClassId} {sz : Nat} {p0 : Int32} {p1 : Int32} {σ : ST} {q : Int32 × ST} (h : f_X10_message  p0 p1 σ = some q) : Met l yX10_message (.code yX10_message cX10_message 3 (some .int) :: pw) ({ frames := 2, cells := 0, slots := 0, locals := 42 } : Room) (va_Pc [.ref (a 0), .int p0, .int p1] (vPre dC dI (wA a k σ) (tA k) sz)) (qAi dC dI a k (va_A (wA a k σ) sz) q) 0 0 (va_A (wA a k σ) sz) := metA (fun A => qAi dC dI a k A q) (plainFor_of_name (by decide)) (Nat.le_of_ble_eq_true rfl) (fun _ _ _ _ _ _ _ _ hC => b_X10_message_e hC h)

def f_X10_miss (p0 : Int32) (p1 : Int32) (p2 : Int32) (p3 : Int32) (σ : ST) : Option (Int32 × ST) := (f_X10_isPlan  p0 σ).bind fun q1 => if q1.1 = 0 then (some ((-1), q1.2)) else ((f_X10_isPlan  p1 q1.2).bind fun q3 => if q3.1 = 0 then (some ((-1), q3.2)) else ((f_X0_findMisses  p0 p1 q3.2).bind fun q5 => if p2 = (-1) then (some ((q5.1 41 6), q5)) else (if p3 = 0 then ((f_X0_missKind  p2 q5).bind fun q9 => some (q9.1, q9.2)) else (if p3 = 1 then ((f_X0_missSteps  p2 q5).bind fun q11 => some (q11.1, q11.2)) else (some ((-1), q5))))))

set_option maxRecDepth 100000 in
set_option maxHeartbeats 4000000 in
theorem b_X10_miss_e {p : Program} {l : Launch} {e : Env} {s : State} {m : MethodId} {args : Array Value} {below : List Frame} {meth : Method} {c : Code} {dC : Nat → ClassId} {dI : Nat → Nat → Nat} {a : Nat → Nat} {k : Nat → ClassId} {A : Nat → Prop} {q : Int32 × ST} (hC : CxA p s m args meth c dC dI k A cX10_miss RX10 (some .int) 5)   {p0 : Int32} {p1 : Int32} {p2 : Int32} {p3 : Int32} {σ : ST} (h : f_X10_miss  p0 p1 p2 p3 σ = some q) : GoA p l e ({ frames := 327, cells := 0, slots := 0, locals := 8965 } : Room) s m args below meth c (MQ below (qAi dC dI a k A q) args s 0 0 A) dC dI a k A 5 0 σ (lv_args 0 [.ref (a 0), .int p0, .int p1, .int p2, .int p3]) [] := by
  have hC0 := hC
  obtain ⟨hx, hb, hr, hml, hown, hts, hlocks, hA, hN, hK⟩ := hC0
  intro H locs ls hP hD hS hl
  have hD0 : ∀ σ1 : ST, va_D A (wA a k σ1) := fun σ1 => wA_D hD
  replace hl : lv_has ls 5 [(0, .ref (a 0)), (1, .int p0), (2, .int p1), (3, .int p2), (4, .int p3)] := hl
  unfold f_X10_miss at h
  refine lv_aload_n hx hb dX10_miss_0 rfl (lv_at hl 0 rfl) ?_
  refine lv_iload_n hx hb dX10_miss_1 rfl (lv_at hl 1 rfl) ?_
  obtain ⟨q1, hc, h⟩ := ib h
  have hF := va_frees hD hS hA
  refine va_calli (va_runV (As := [.int p0]) (rest := []) ⟨hx, hb, hml, hown, hts⟩ (s_X10_isPlan hc) (cwV 1 hts (gV mw_23_15 mw_23_16 mw_23_17 mw_0_14 mw_52_29) rfl rfl rfl (by decide +kernel) ⟨(Nat.le_of_ble_eq_true rfl), (Nat.le_of_ble_eq_true rfl)⟩) (vV (ci := 10) (q0 := 0) hK hP hD hN rfl gA_0) rfl rfl hl.1 rfl (lv_room (Nat.le_of_ble_eq_true rfl)) dX10_miss_2 ⟨(Nat.le_of_ble_eq_true rfl), (Nat.le_of_ble_eq_true rfl)⟩) hS (fun q _ h => hF q h) hF (fun r2 u t H locs ht hvm hw hB _ _ hS => ?_)
  obtain rfl : r2 = q1.1 := hw
  replace hP : va_P (dC, dI) vwCl (wA a k q1.2) H := by rw [← ht]; exact hB.1
  replace hD := hD0 (q1.2)
  clear hB hF
  refine lv_if_eq (tgt := 16) hx hb dX10_miss_5 (by decide) (fun hc => ?_) (fun hc => ?_)
  · replace h := ip hc h
    refine lv_iconst (v := (-1)) hx hb dX10_miss_16 (by decide) ?_
    obtain rfl := Option.some.inj h
    exact W.iret hx hb hr (fun t ht hW => ⟨⟨_, (), rfl, rfl, ⟨by rw [ht]; exact hP, va_K.moved hW.alike hK, hD⟩⟩, hS.F ht⟩) hS.2.2 dX10_miss_17
  · replace h := iq hc h
    refine lv_aload_n hx hb dX10_miss_8 rfl (lv_at hl 0 rfl) ?_
    refine lv_iload_n hx hb dX10_miss_9 rfl (lv_at hl 2 rfl) ?_
    obtain ⟨q3, hc, h⟩ := ib h
    have hF := va_frees hD hS hA
    refine va_calli (va_runV (As := [.int p1]) (rest := []) ⟨hx, hb, hml, hown, hts⟩ (s_X10_isPlan hc) (cwV 1 hts (gV mw_23_15 mw_23_16 mw_23_17 mw_0_14 mw_52_29) rfl rfl rfl (by decide +kernel) ⟨(Nat.le_of_ble_eq_true rfl), (Nat.le_of_ble_eq_true rfl)⟩) (vV (ci := 10) (q0 := 0) hK hP hD hN rfl gA_0) rfl rfl hl.1 rfl (lv_room (Nat.le_of_ble_eq_true rfl)) dX10_miss_10 ⟨(Nat.le_of_ble_eq_true rfl), (Nat.le_of_ble_eq_true rfl)⟩) hS (fun q _ h => hF q h) hF (fun r4 u t H locs ht hvm hw hB _ _ hS => ?_)
    obtain rfl : r4 = q3.1 := hw
    replace hP : va_P (dC, dI) vwCl (wA a k q3.2) H := by rw [← ht]; exact hB.1
    replace hD := hD0 (q3.2)
    clear hB hF
    refine lv_if_ne (tgt := 18) hx hb dX10_miss_13 (by decide) (fun hc => ?_) (fun hc => ?_)
    · replace h := iq hc h
      refine lv_aload_n hx hb dX10_miss_18 rfl (lv_at hl 0 rfl) ?_
      refine va_get (D := (dC, dI)) (ci := 10) (C := RX10) (T := TX10) (N := 16) hx hb hts inlX10 hown hK hP 0 gA_0 rfl 7 (by decide) (hts (.fieldLink RX10 57 "ShapeReader" "matcher" "LShapeReader$Matcher;") mw_21_17) (fun _ h9 => h9) rfl dX10_miss_19 ?_
      refine lv_iload_n hx hb dX10_miss_22 rfl (lv_at hl 1 rfl) ?_
      refine lv_iload_n hx hb dX10_miss_23 rfl (lv_at hl 2 rfl) ?_
      obtain ⟨q5, hc, h⟩ := ib h
      have hF := va_frees hD hS hA
      refine va_callv (va_runV (As := [.int p0, .int p1]) (rest := []) ⟨hx, hb, hml, hown, hts⟩ (s_X0_findMisses hc) (cwV 2 hts (gV mw_24_29 mw_25_0 mw_25_1 mw_0_4 mw_47_16) rfl rfl rfl (by decide +kernel) ⟨(Nat.le_of_ble_eq_true rfl), (Nat.le_of_ble_eq_true rfl)⟩) (vV (ci := 0) (q0 := 41) hK hP hD hN rfl gA_41) rfl rfl hl.1 rfl (lv_room (Nat.le_of_ble_eq_true rfl)) dX10_miss_24 ⟨(Nat.le_of_ble_eq_true rfl), (Nat.le_of_ble_eq_true rfl)⟩) hS (fun q _ h => hF q h) hF (fun u t H locs ht hvm hw hB _ _ hS => ?_)
      replace hP : va_P (dC, dI) vwCl (wA a k q5) H := by rw [← ht]; exact hB.1
      replace hD := hD0 (q5)
      clear hB hF
      refine lv_iload_n hx hb dX10_miss_27 rfl (lv_at hl 3 rfl) ?_
      refine lv_iconst (v := (-1)) hx hb dX10_miss_28 (by decide) ?_
      refine lv_icmp_ne (tgt := 40) hx hb dX10_miss_29 (by decide) (fun hc => ?_) (fun hc => ?_)
      · replace h := iq hc h
        refine lv_iload hx hb dX10_miss_40 (lv_at hl 4 rfl) ?_
        rcases (il_sw2 p3 (0) (1)) with s7 | s8 | ⟨s7, s8⟩
        · replace h := ip s7 h
          refine lv_lookup (off := 26) (tgt := 68) hx hb dX10_miss_42 (by decide) (by rw [s7]; decide) (by decide) ?_
          refine lv_aload_n hx hb dX10_miss_68 rfl (lv_at hl 0 rfl) ?_
          refine va_get (D := (dC, dI)) (ci := 10) (C := RX10) (T := TX10) (N := 16) hx hb hts inlX10 hown hK hP 0 gA_0 rfl 7 (by decide) (hts (.fieldLink RX10 57 "ShapeReader" "matcher" "LShapeReader$Matcher;") mw_21_17) (fun _ h9 => h9) rfl dX10_miss_69 ?_
          refine lv_iload_n hx hb dX10_miss_72 rfl (lv_at hl 3 rfl) ?_
          obtain ⟨q9, hc, h⟩ := ib h
          have hF := va_frees hD hS hA
          refine va_calli (va_runV (As := [.int p2]) (rest := []) ⟨hx, hb, hml, hown, hts⟩ (s_X0_missKind hc) (cwV 1 hts (gV mw_25_3 mw_25_4 mw_25_5 mw_0_4 mw_47_24) rfl rfl rfl (by decide +kernel) ⟨(Nat.le_of_ble_eq_true rfl), (Nat.le_of_ble_eq_true rfl)⟩) (vV (ci := 0) (q0 := 41) hK hP hD hN rfl gA_41) rfl rfl hl.1 rfl (lv_room (Nat.le_of_ble_eq_true rfl)) dX10_miss_73 ⟨(Nat.le_of_ble_eq_true rfl), (Nat.le_of_ble_eq_true rfl)⟩) hS (fun q _ h => hF q h) hF (fun r10 u t H locs ht hvm hw hB _ _ hS => ?_)
          obtain rfl : r10 = q9.1 := hw
          replace hP : va_P (dC, dI) vwCl (wA a k q9.2) H := by rw [← ht]; exact hB.1
          replace hD := hD0 (q9.2)
          clear hB hF
          obtain rfl := Option.some.inj h
          exact W.iret hx hb hr (fun t ht hW => ⟨⟨_, (), rfl, rfl, ⟨by rw [ht]; exact hP, va_K.moved hW.alike hK, hD⟩⟩, hS.F ht⟩) hS.2.2 dX10_miss_76
        · replace h := ip s8 (iq (by rw [s8]; decide) h)
          refine lv_lookup (off := 35) (tgt := 77) hx hb dX10_miss_42 (by decide) (by rw [s8]; decide) (by decide) ?_
          refine lv_aload_n hx hb dX10_miss_77 rfl (lv_at hl 0 rfl) ?_
          refine va_get (D := (dC, dI)) (ci := 10) (C := RX10) (T := TX10) (N := 16) hx hb hts inlX10 hown hK hP 0 gA_0 rfl 7 (by decide) (hts (.fieldLink RX10 57 "ShapeReader" "matcher" "LShapeReader$Matcher;") mw_21_17) (fun _ h9 => h9) rfl dX10_miss_78 ?_
          refine lv_iload_n hx hb dX10_miss_81 rfl (lv_at hl 3 rfl) ?_
          obtain ⟨q11, hc, h⟩ := ib h
          have hF := va_frees hD hS hA
          refine va_calli (va_runV (As := [.int p2]) (rest := []) ⟨hx, hb, hml, hown, hts⟩ (s_X0_missSteps hc) (cwV 1 hts (gV mw_25_6 mw_25_7 mw_25_8 mw_0_4 mw_47_25) rfl rfl rfl (by decide +kernel) ⟨(Nat.le_of_ble_eq_true rfl), (Nat.le_of_ble_eq_true rfl)⟩) (vV (ci := 0) (q0 := 41) hK hP hD hN rfl gA_41) rfl rfl hl.1 rfl (lv_room (Nat.le_of_ble_eq_true rfl)) dX10_miss_82 ⟨(Nat.le_of_ble_eq_true rfl), (Nat.le_of_ble_eq_true rfl)⟩) hS (fun q _ h => hF q h) hF (fun r12 u t H locs ht hvm hw hB _ _ hS => ?_)
          obtain rfl : r12 = q11.1 := hw
          replace hP : va_P (dC, dI) vwCl (wA a k q11.2) H := by rw [← ht]; exact hB.1
          replace hD := hD0 (q11.2)
          clear hB hF
          obtain rfl := Option.some.inj h
          exact W.iret hx hb hr (fun t ht hW => ⟨⟨_, (), rfl, rfl, ⟨by rw [ht]; exact hP, va_K.moved hW.alike hK, hD⟩⟩, hS.F ht⟩) hS.2.2 dX10_miss_85
        · replace h := (iq s8 (iq s7 h))
          refine lv_lookup (off := 44) (tgt := 86) hx hb dX10_miss_42 (by decide) (by have a0 := il_ne s7; have e0 : (0 : Int32).toInt = 0 := (by decide); have a1 := il_ne s8; have e1 : (1 : Int32).toInt = 1 := (by decide); exact lk_dflt2 (by omega)) (by decide) ?_
          refine lv_iconst (v := (-1)) hx hb dX10_miss_86 (by decide) ?_
          obtain rfl := Option.some.inj h
          exact W.iret hx hb hr (fun t ht hW => ⟨⟨_, (), rfl, rfl, ⟨by rw [ht]; exact hP, va_K.moved hW.alike hK, hD⟩⟩, hS.F ht⟩) hS.2.2 dX10_miss_87
      · replace h := ip hc h
        refine lv_aload_n hx hb dX10_miss_32 rfl (lv_at hl 0 rfl) ?_
        refine va_get (D := (dC, dI)) (ci := 10) (C := RX10) (T := TX10) (N := 16) hx hb hts inlX10 hown hK hP 0 gA_0 rfl 7 (by decide) (hts (.fieldLink RX10 57 "ShapeReader" "matcher" "LShapeReader$Matcher;") mw_21_17) (fun _ h9 => h9) rfl dX10_miss_33 ?_
        refine va_get (D := (dC, dI)) (ci := 0) (C := RX0) (T := TX0) (N := 13) hx hb hts inlX0 hown hK hP 41 gA_41 rfl 6 (by decide) (hts (.fieldLink RX10 237 "ShapeReader$Matcher" "missCount" "I") mw_25_2) (fun _ h9 => h9) rfl dX10_miss_36 ?_
        obtain rfl := Option.some.inj h
        exact W.iret hx hb hr (fun t ht hW => ⟨⟨_, (), rfl, rfl, ⟨by rw [ht]; exact hP, va_K.moved hW.alike hK, hD⟩⟩, hS.F ht⟩) hS.2.2 dX10_miss_39
    · replace h := ip hc h
      refine lv_iconst (v := (-1)) hx hb dX10_miss_16 (by decide) ?_
      obtain rfl := Option.some.inj h
      exact W.iret hx hb hr (fun t ht hW => ⟨⟨_, (), rfl, rfl, ⟨by rw [ht]; exact hP, va_K.moved hW.alike hK, hD⟩⟩, hS.F ht⟩) hS.2.2 dX10_miss_17

theorem s_X10_miss {l : Launch} {dC : Nat → ClassId} {dI : Nat → Nat → Nat} {a : Nat → Nat} {k : Nat → ClassId} {sz : Nat} {p0 : Int32} {p1 : Int32} {p2 : Int32} {p3 : Int32} {σ : ST} {q : Int32 × ST} (h : f_X10_miss  p0 p1 p2 p3 σ = some q) : Met l yX10_miss (.code yX10_miss cX10_miss 5 (some .int) :: pw) ({ frames := 327, cells := 0, slots := 0, locals := 8965 } : Room) (va_Pc [.ref (a 0), .int p0, .int p1, .int p2, .int p3] (vPre dC dI (wA a k σ) (tA k) sz)) (qAi dC dI a k (va_A (wA a k σ) sz) q) 0 0 (va_A (wA a k σ) sz) := metA (fun A => qAi dC dI a k A q) (plainFor_of_name (by decide)) (Nat.le_of_ble_eq_true rfl) (fun _ _ _ _ _ _ _ _ hC => b_X10_miss_e hC h)
