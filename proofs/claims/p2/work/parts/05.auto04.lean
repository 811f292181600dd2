theorem dX10_count_0 : decode cX10_count 0 = .ok (.iload_n 1, 1) := by decide +kernel
theorem dX10_count_1 : decode cX10_count 1 = .ok (.tableswitch 84 0 5 #[39, 47, 55, 63, 71, 79], 39) := by decide +kernel
theorem dX10_count_40 : decode cX10_count 40 = .ok (.aload_n 0, 1) := by decide +kernel
theorem dX10_count_41 : decode cX10_count 41 = .ok (.getfield 29, 3) := by decide +kernel
theorem dX10_count_44 : decode cX10_count 44 = .ok (.getfield 137, 3) := by decide +kernel
theorem dX10_count_47 : decode cX10_count 47 = .ok (.ireturn, 1) := by decide +kernel
theorem dX10_count_48 : decode cX10_count 48 = .ok (.aload_n 0, 1) := by decide +kernel
theorem dX10_count_49 : decode cX10_count 49 = .ok (.getfield 48, 3) := by decide +kernel
theorem dX10_count_52 : decode cX10_count 52 = .ok (.invokevirtual 302, 3) := by decide +kernel
theorem dX10_count_55 : decode cX10_count 55 = .ok (.ireturn, 1) := by decide +kernel
theorem dX10_count_56 : decode cX10_count 56 = .ok (.aload_n 0, 1) := by decide +kernel
theorem dX10_count_57 : decode cX10_count 57 = .ok (.getfield 73, 3) := by decide +kernel
theorem dX10_count_60 : decode cX10_count 60 = .ok (.getfield 305, 3) := by decide +kernel
theorem dX10_count_63 : decode cX10_count 63 = .ok (.ireturn, 1) := by decide +kernel
theorem dX10_count_64 : decode cX10_count 64 = .ok (.aload_n 0, 1) := by decide +kernel
theorem dX10_count_65 : decode cX10_count 65 = .ok (.getfield 64, 3) := by decide +kernel
theorem dX10_count_68 : decode cX10_count 68 = .ok (.getfield 306, 3) := by decide +kernel
theorem dX10_count_71 : decode cX10_count 71 = .ok (.ireturn, 1) := by decide +kernel
theorem dX10_count_72 : decode cX10_count 72 = .ok (.aload_n 0, 1) := by decide +kernel
theorem dX10_count_73 : decode cX10_count 73 = .ok (.getfield 64, 3) := by decide +kernel
theorem dX10_count_76 : decode cX10_count 76 = .ok (.getfield 309, 3) := by decide +kernel
theorem dX10_count_79 : decode cX10_count 79 = .ok (.ireturn, 1) := by decide +kernel
theorem dX10_count_80 : decode cX10_count 80 = .ok (.aload_n 0, 1) := by decide +kernel
theorem dX10_count_81 : decode cX10_count 81 = .ok (.getfield 13, 3) := by decide +kernel
theorem dX10_count_84 : decode cX10_count 84 = .ok (.ireturn, 1) := by decide +kernel
theorem dX10_count_85 : decode cX10_count 85 = .ok (.iconst (-1), 1) := by decide +kernel
theorem dX10_count_86 : decode cX10_count 86 = .ok (.ireturn, 1) := by decide +kernel
theorem dX10_cut_0 : decode cX10_cut 0 = .ok (.aload_n 0, 1) := by decide +kernel
theorem dX10_cut_1 : decode cX10_cut 1 = .ok (.getfield 48, 3) := by decide +kernel
theorem dX10_cut_4 : decode cX10_cut 4 = .ok (.iload_n 1, 1) := by decide +kernel
theorem dX10_cut_5 : decode cX10_cut 5 = .ok (.invokevirtual 205, 3) := by decide +kernel
theorem dX10_cut_8 : decode cX10_cut 8 = .ok (.ifCond .eq 19, 3) := by decide +kernel
theorem dX10_cut_11 : decode cX10_cut 11 = .ok (.iload_n 2, 1) := by decide +kernel
theorem dX10_cut_12 : decode cX10_cut 12 = .ok (.ifCond .lt 15, 3) := by decide +kernel
theorem dX10_cut_15 : decode cX10_cut 15 = .ok (.iload_n 2, 1) := by decide +kernel
theorem dX10_cut_16 : decode cX10_cut 16 = .ok (.aload_n 0, 1) := by decide +kernel
theorem dX10_cut_17 : decode cX10_cut 17 = .ok (.getfield 48, 3) := by decide +kernel
theorem dX10_cut_20 : decode cX10_cut 20 = .ok (.iload_n 1, 1) := by decide +kernel
theorem dX10_cut_21 : decode cX10_cut 21 = .ok (.invokevirtual 208, 3) := by decide +kernel
theorem dX10_cut_24 : decode cX10_cut 24 = .ok (.if_icmp .le 5, 3) := by decide +kernel
theorem dX10_cut_27 : decode cX10_cut 27 = .ok (.iconst (-1), 1) := by decide +kernel
theorem dX10_cut_28 : decode cX10_cut 28 = .ok (.ireturn, 1) := by decide +kernel
theorem dX10_cut_29 : decode cX10_cut 29 = .ok (.aload_n 0, 1) := by decide +kernel
theorem dX10_cut_30 : decode cX10_cut 30 = .ok (.getfield 48, 3) := by decide +kernel
theorem dX10_cut_33 : decode cX10_cut 33 = .ok (.iload_n 1, 1) := by decide +kernel
theorem dX10_cut_34 : decode cX10_cut 34 = .ok (.iload_n 2, 1) := by decide +kernel
theorem dX10_cut_35 : decode cX10_cut 35 = .ok (.invokevirtual 227, 3) := by decide +kernel
theorem dX10_cut_38 : decode cX10_cut 38 = .ok (.ireturn, 1) := by decide +kernel
theorem dX10_failure_0 : decode cX10_failure 0 = .ok (.aload_n 0, 1) := by decide +kernel
theorem dX10_failure_1 : decode cX10_failure 1 = .ok (.getfield 104, 3) := by decide +kernel
theorem dX10_failure_4 : decode cX10_failure 4 = .ok (.getfield 256, 3) := by decide +kernel
theorem dX10_failure_7 : decode cX10_failure 7 = .ok (.ifCond .ne 5, 3) := by decide +kernel
theorem dX10_failure_10 : decode cX10_failure 10 = .ok (.iconst (-1), 1) := by decide +kernel
theorem dX10_failure_11 : decode cX10_failure 11 = .ok (.ireturn, 1) := by decide +kernel
theorem dX10_failure_12 : decode cX10_failure 12 = .ok (.iload_n 1, 1) := by decide +kernel
theorem dX10_failure_13 : decode cX10_failure 13 = .ok (.tableswitch 51 0 2 #[27, 35, 43], 27) := by decide +kernel
theorem dX10_failure_40 : decode cX10_failure 40 = .ok (.aload_n 0, 1) := by decide +kernel
theorem dX10_failure_41 : decode cX10_failure 41 = .ok (.getfield 104, 3) := by decide +kernel
theorem dX10_failure_44 : decode cX10_failure 44 = .ok (.getfield 256, 3) := by decide +kernel
theorem dX10_failure_47 : decode cX10_failure 47 = .ok (.ireturn, 1) := by decide +kernel
theorem dX10_failure_48 : decode cX10_failure 48 = .ok (.aload_n 0, 1) := by decide +kernel
theorem dX10_failure_49 : decode cX10_failure 49 = .ok (.getfield 104, 3) := by decide +kernel
theorem dX10_failure_52 : decode cX10_failure 52 = .ok (.getfield 259, 3) := by decide +kernel
theorem dX10_failure_55 : decode cX10_failure 55 = .ok (.ireturn, 1) := by decide +kernel
theorem dX10_failure_56 : decode cX10_failure 56 = .ok (.aload_n 0, 1) := by decide +kernel
theorem dX10_failure_57 : decode cX10_failure 57 = .ok (.getfield 104, 3) := by decide +kernel
theorem dX10_failure_60 : decode cX10_failure 60 = .ok (.getfield 262, 3) := by decide +kernel
theorem dX10_failure_63 : decode cX10_failure 63 = .ok (.ireturn, 1) := by decide +kernel
theorem dX10_failure_64 : decode cX10_failure 64 = .ok (.iconst (-1), 1) := by decide +kernel
theorem dX10_failure_65 : decode cX10_failure 65 = .ok (.ireturn, 1) := by decide +kernel
theorem dX10_failureStep_0 : decode cX10_failureStep 0 = .ok (.aload_n 0, 1) := by decide +kernel
theorem dX10_failureStep_1 : decode cX10_failureStep 1 = .ok (.getfield 104, 3) := by decide +kernel
theorem dX10_failureStep_4 : decode cX10_failureStep 4 = .ok (.getfield 256, 3) := by decide +kernel
theorem dX10_failureStep_7 : decode cX10_failureStep 7 = .ok (.ifCond .ne 7, 3) := by decide +kernel
theorem dX10_failureStep_10 : decode cX10_failureStep 10 = .ok (.iconst (-1), 1) := by decide +kernel
theorem dX10_failureStep_11 : decode cX10_failureStep 11 = .ok (.goto 11, 3) := by decide +kernel
theorem dX10_failureStep_14 : decode cX10_failureStep 14 = .ok (.aload_n 0, 1) := by decide +kernel
theorem dX10_failureStep_15 : decode cX10_failureStep 15 = .ok (.getfield 104, 3) := by decide +kernel
theorem dX10_failureStep_18 : decode cX10_failureStep 18 = .ok (.iload_n 1, 1) := by decide +kernel
theorem dX10_failureStep_19 : decode cX10_failureStep 19 = .ok (.invokevirtual 265, 3) := by decide +kernel
theorem dX10_failureStep_22 : decode cX10_failureStep 22 = .ok (.ireturn, 1) := by decide +kernel
theorem dX10_isInt_0 : decode cX10_isInt 0 = .ok (.lload_n 0, 1) := by decide +kernel
theorem dX10_isInt_1 : decode cX10_isInt 1 = .ok (.ldc2_w 330, 3) := by decide +kernel
theorem dX10_isInt_4 : decode cX10_isInt 4 = .ok (.lcmp, 1) := by decide +kernel
theorem dX10_isInt_5 : decode cX10_isInt 5 = .ok (.ifCond .lt 15, 3) := by decide +kernel
theorem dX10_isInt_8 : decode cX10_isInt 8 = .ok (.lload_n 0, 1) := by decide +kernel
theorem dX10_isInt_9 : decode cX10_isInt 9 = .ok (.ldc2_w 332, 3) := by decide +kernel
theorem dX10_isInt_12 : decode cX10_isInt 12 = .ok (.lcmp, 1) := by decide +kernel
theorem dX10_isInt_13 : decode cX10_isInt 13 = .ok (.ifCond .gt 7, 3) := by decide +kernel
theorem dX10_isInt_16 : decode cX10_isInt 16 = .ok (.iconst 1, 1) := by decide +kernel
theorem dX10_isInt_17 : decode cX10_isInt 17 = .ok (.goto 4, 3) := by decide +kernel
theorem dX10_isInt_20 : decode cX10_isInt 20 = .ok (.iconst 0, 1) := by decide +kernel
theorem dX10_isInt_21 : decode cX10_isInt 21 = .ok (.ireturn, 1) := by decide +kernel
theorem dX10_isPlan_0 : decode cX10_isPlan 0 = .ok (.iload_n 1, 1) := by decide +kernel
theorem dX10_isPlan_1 : decode cX10_isPlan 1 = .ok (.ifCond .lt 18, 3) := by decide +kernel
theorem dX10_isPlan_4 : decode cX10_isPlan 4 = .ok (.iload_n 1, 1) := by decide +kernel
theorem dX10_isPlan_5 : decode cX10_isPlan 5 = .ok (.aload_n 0, 1) := by decide +kernel
theorem dX10_isPlan_6 : decode cX10_isPlan 6 = .ok (.getfield 29, 3) := by decide +kernel
theorem dX10_isPlan_9 : decode cX10_isPlan 9 = .ok (.getfield 137, 3) := by decide +kernel
theorem dX10_isPlan_12 : decode cX10_isPlan 12 = .ok (.if_icmp .ge 7, 3) := by decide +kernel
theorem dX10_isPlan_15 : decode cX10_isPlan 15 = .ok (.iconst 1, 1) := by decide +kernel
theorem dX10_isPlan_16 : decode cX10_isPlan 16 = .ok (.goto 4, 3) := by decide +kernel
theorem dX10_isPlan_19 : decode cX10_isPlan 19 = .ok (.iconst 0, 1) := by decide +kernel
theorem dX10_isPlan_20 : decode cX10_isPlan 20 = .ok (.ireturn, 1) := by decide +kernel
theorem dX10_kept_0 : decode cX10_kept 0 = .ok (.iload_n 1, 1) := by decide +kernel
theorem dX10_kept_1 : decode cX10_kept 1 = .ok (.iconst (-1), 1) := by decide +kernel
theorem dX10_kept_2 : decode cX10_kept 2 = .ok (.if_icmp .ne 13, 3) := by decide +kernel
theorem dX10_kept_5 : decode cX10_kept 5 = .ok (.aload_n 0, 1) := by decide +kernel
theorem dX10_kept_6 : decode cX10_kept 6 = .ok (.getfield 64, 3) := by decide +kernel
theorem dX10_kept_9 : decode cX10_kept 9 = .ok (.getfield 298, 3) := by decide +kernel
theorem dX10_kept_12 : decode cX10_kept 12 = .ok (.goto 11, 3) := by decide +kernel
theorem dX10_kept_15 : decode cX10_kept 15 = .ok (.aload_n 0, 1) := by decide +kernel
theorem dX10_kept_16 : decode cX10_kept 16 = .ok (.getfield 64, 3) := by decide +kernel
theorem dX10_kept_19 : decode cX10_kept 19 = .ok (.iload_n 1, 1) := by decide +kernel
theorem dX10_kept_20 : decode cX10_kept 20 = .ok (.invokevirtual 299, 3) := by decide +kernel
theorem dX10_kept_23 : decode cX10_kept 23 = .ok (.ireturn, 1) := by decide +kernel
theorem dX10_letterOf_0 : decode cX10_letterOf 0 = .ok (.iload_n 2, 1) := by decide +kernel
theorem dX10_letterOf_1 : decode cX10_letterOf 1 = .ok (.ifCond .lt 9, 3) := by decide +kernel
theorem dX10_letterOf_4 : decode cX10_letterOf 4 = .ok (.iload_n 2, 1) := by decide +kernel
theorem dX10_letterOf_5 : decode cX10_letterOf 5 = .ok (.bipush 12, 2) := by decide +kernel
theorem dX10_letterOf_7 : decode cX10_letterOf 7 = .ok (.if_icmp .lt 7, 3) := by decide +kernel
theorem dX10_letterOf_10 : decode cX10_letterOf 10 = .ok (.iconst 0, 1) := by decide +kernel
theorem dX10_letterOf_11 : decode cX10_letterOf 11 = .ok (.goto 12, 3) := by decide +kernel
theorem dX10_letterOf_14 : decode cX10_letterOf 14 = .ok (.lload_n 0, 1) := by decide +kernel
theorem dX10_letterOf_15 : decode cX10_letterOf 15 = .ok (.iconst 5, 1) := by decide +kernel
theorem dX10_letterOf_16 : decode cX10_letterOf 16 = .ok (.iload_n 2, 1) := by decide +kernel
theorem dX10_letterOf_17 : decode cX10_letterOf 17 = .ok (.imul, 1) := by decide +kernel
theorem dX10_letterOf_18 : decode cX10_letterOf 18 = .ok (.lshr, 1) := by decide +kernel
theorem dX10_letterOf_19 : decode cX10_letterOf 19 = .ok (.l2i, 1) := by decide +kernel
theorem dX10_letterOf_20 : decode cX10_letterOf 20 = .ok (.bipush 31, 2) := by decide +kernel
theorem dX10_letterOf_22 : decode cX10_letterOf 22 = .ok (.iand, 1) := by decide +kernel
theorem dX10_letterOf_23 : decode cX10_letterOf 23 = .ok (.ireturn, 1) := by decide +kernel
theorem dX10_lettersIn_0 : decode cX10_lettersIn 0 = .ok (.iconst 0, 1) := by decide +kernel
theorem dX10_lettersIn_1 : decode cX10_lettersIn 1 = .ok (.istore_n 2, 1) := by decide +kernel
theorem dX10_lettersIn_2 : decode cX10_lettersIn 2 = .ok (.iload_n 2, 1) := by decide +kernel
theorem dX10_lettersIn_3 : decode cX10_lettersIn 3 = .ok (.bipush 12, 2) := by decide +kernel
theorem dX10_lettersIn_5 : decode cX10_lettersIn 5 = .ok (.if_icmp .ge 17, 3) := by decide +kernel
theorem dX10_lettersIn_8 : decode cX10_lettersIn 8 = .ok (.lload_n 0, 1) := by decide +kernel
theorem dX10_lettersIn_9 : decode cX10_lettersIn 9 = .ok (.iload_n 2, 1) := by decide +kernel
theorem dX10_lettersIn_10 : decode cX10_lettersIn 10 = .ok (.invokestatic 290, 3) := by decide +kernel
theorem dX10_lettersIn_13 : decode cX10_lettersIn 13 = .ok (.ifCond .eq 9, 3) := by decide +kernel
theorem dX10_lettersIn_16 : decode cX10_lettersIn 16 = .ok (.iinc 2 1, 3) := by decide +kernel
theorem dX10_lettersIn_19 : decode cX10_lettersIn 19 = .ok (.goto (-17), 3) := by decide +kernel
theorem dX10_lettersIn_22 : decode cX10_lettersIn 22 = .ok (.iload_n 2, 1) := by decide +kernel
theorem dX10_lettersIn_23 : decode cX10_lettersIn 23 = .ok (.ireturn, 1) := by decide +kernel
theorem dX10_message_0 : decode cX10_message 0 = .ok (.aload_n 0, 1) := by decide +kernel
theorem dX10_message_1 : decode cX10_message 1 = .ok (.getfield 48, 3) := by decide +kernel
theorem dX10_message_4 : decode cX10_message 4 = .ok (.iload_n 1, 1) := by decide +kernel
theorem dX10_message_5 : decode cX10_message 5 = .ok (.invokevirtual 205, 3) := by decide +kernel
theorem dX10_message_8 : decode cX10_message 8 = .ok (.ifCond .ne 5, 3) := by decide +kernel
theorem dX10_message_11 : decode cX10_message 11 = .ok (.iconst (-1), 1) := by decide +kernel
theorem dX10_message_12 : decode cX10_message 12 = .ok (.ireturn, 1) := by decide +kernel
theorem dX10_message_13 : decode cX10_message 13 = .ok (.iload_n 2, 1) := by decide +kernel
theorem dX10_message_14 : decode cX10_message 14 = .ok (.lookupswitch 44 #[(0, 26), (1, 35)], 26) := by decide +kernel
theorem dX10_message_40 : decode cX10_message 40 = .ok (.aload_n 0, 1) := by decide +kernel
theorem dX10_message_41 : decode cX10_message 41 = .ok (.getfield 48, 3) := by decide +kernel
theorem dX10_message_44 : decode cX10_message 44 = .ok (.iload_n 1, 1) := by decide +kernel
theorem dX10_message_45 : decode cX10_message 45 = .ok (.invokevirtual 208, 3) := by decide +kernel
theorem dX10_message_48 : decode cX10_message 48 = .ok (.ireturn, 1) := by decide +kernel
theorem dX10_message_49 : decode cX10_message 49 = .ok (.aload_n 0, 1) := by decide +kernel
theorem dX10_message_50 : decode cX10_message 50 = .ok (.getfield 48, 3) := by decide +kernel
theorem dX10_message_53 : decode cX10_message 53 = .ok (.iload_n 1, 1) := by decide +kernel
theorem dX10_message_54 : decode cX10_message 54 = .ok (.invokevirtual 211, 3) := by decide +kernel
theorem dX10_message_57 : decode cX10_message 57 = .ok (.ireturn, 1) := by decide +kernel
theorem dX10_message_58 : decode cX10_message 58 = .ok (.iconst (-1), 1) := by decide +kernel
theorem dX10_message_59 : decode cX10_message 59 = .ok (.ireturn, 1) := by decide +kernel
theorem dX5_addPlan_0 : decode cX5_addPlan 0 = .ok (.iload_n 1, 1) := by decide +kernel
theorem dX5_addPlan_1 : decode cX5_addPlan 1 = .ok (.ifCond .lt 9, 3) := by decide +kernel
theorem dX5_addPlan_4 : decode cX5_addPlan 4 = .ok (.iload_n 1, 1) := by decide +kernel
theorem dX5_addPlan_5 : decode cX5_addPlan 5 = .ok (.bipush 6, 2) := by decide +kernel
theorem dX5_addPlan_7 : decode cX5_addPlan 7 = .ok (.if_icmp .lt 4, 3) := by decide +kernel
theorem dX5_addPlan_10 : decode cX5_addPlan 10 = .ok (.return_, 1) := by decide +kernel
theorem dX5_addPlan_11 : decode cX5_addPlan 11 = .ok (.aload_n 0, 1) := by decide +kernel
theorem dX5_addPlan_12 : decode cX5_addPlan 12 = .ok (.getfield 18, 3) := by decide +kernel
theorem dX5_addPlan_15 : decode cX5_addPlan 15 = .ok (.iload_n 1, 1) := by decide +kernel
theorem dX5_addPlan_16 : decode cX5_addPlan 16 = .ok (.iconst 0, 1) := by decide +kernel
theorem dX5_addPlan_17 : decode cX5_addPlan 17 = .ok (.iastore, 1) := by decide +kernel
theorem dX5_addPlan_18 : decode cX5_addPlan 18 = .ok (.aload_n 0, 1) := by decide +kernel
theorem dX5_addPlan_19 : decode cX5_addPlan 19 = .ok (.getfield 22, 3) := by decide +kernel
theorem dX5_addPlan_22 : decode cX5_addPlan 22 = .ok (.iload_n 1, 1) := by decide +kernel
theorem dX5_addPlan_23 : decode cX5_addPlan 23 = .ok (.aload_n 0, 1) := by decide +kernel
theorem dX5_addPlan_24 : decode cX5_addPlan 24 = .ok (.bipush 7, 2) := by decide +kernel
theorem dX5_addPlan_26 : decode cX5_addPlan 26 = .ok (.invokevirtual 116, 3) := by decide +kernel
theorem dX5_addPlan_29 : decode cX5_addPlan 29 = .ok (.iastore, 1) := by decide +kernel
theorem dX5_addPlan_30 : decode cX5_addPlan 30 = .ok (.aload_n 0, 1) := by decide +kernel
theorem dX5_addPlan_31 : decode cX5_addPlan 31 = .ok (.aload_n 0, 1) := by decide +kernel
theorem dX5_addPlan_32 : decode cX5_addPlan 32 = .ok (.getfield 22, 3) := by decide +kernel
theorem dX5_addPlan_35 : decode cX5_addPlan 35 = .ok (.iload_n 1, 1) := by decide +kernel
theorem dX5_addPlan_36 : decode cX5_addPlan 36 = .ok (.iaload, 1) := by decide +kernel
theorem dX5_addPlan_37 : decode cX5_addPlan 37 = .ok (.iload_n 1, 1) := by decide +kernel
theorem dX5_addPlan_38 : decode cX5_addPlan 38 = .ok (.bipush 6, 2) := by decide +kernel
theorem dX5_addPlan_40 : decode cX5_addPlan 40 = .ok (.imul, 1) := by decide +kernel
theorem dX5_addPlan_41 : decode cX5_addPlan 41 = .ok (.invokevirtual 119, 3) := by decide +kernel
theorem dX5_addPlan_44 : decode cX5_addPlan 44 = .ok (.aload_n 0, 1) := by decide +kernel
theorem dX5_addPlan_45 : decode cX5_addPlan 45 = .ok (.iload_n 1, 1) := by decide +kernel
theorem dX5_addPlan_46 : decode cX5_addPlan 46 = .ok (.iconst 1, 1) := by decide +kernel
theorem dX5_addPlan_47 : decode cX5_addPlan 47 = .ok (.iadd, 1) := by decide +kernel
theorem dX5_addPlan_48 : decode cX5_addPlan 48 = .ok (.putfield 9, 3) := by decide +kernel
theorem dX5_addPlan_51 : decode cX5_addPlan 51 = .ok (.return_, 1) := by decide +kernel
theorem dX7_firstOf_0 : decode cX7_firstOf 0 = .ok (.aload_n 0, 1) := by decide +kernel
theorem dX7_firstOf_1 : decode cX7_firstOf 1 = .ok (.iload_n 1, 1) := by decide +kernel
theorem dX7_firstOf_2 : decode cX7_firstOf 2 = .ok (.invokevirtual 54, 3) := by decide +kernel
theorem dX7_firstOf_5 : decode cX7_firstOf 5 = .ok (.ifCond .eq 12, 3) := by decide +kernel
theorem dX7_firstOf_8 : decode cX7_firstOf 8 = .ok (.aload_n 0, 1) := by decide +kernel
theorem dX7_firstOf_9 : decode cX7_firstOf 9 = .ok (.getfield 39, 3) := by decide +kernel
theorem dX7_firstOf_12 : decode cX7_firstOf 12 = .ok (.iload_n 1, 1) := by decide +kernel
theorem dX7_firstOf_13 : decode cX7_firstOf 13 = .ok (.iaload, 1) := by decide +kernel
theorem dX7_firstOf_14 : decode cX7_firstOf 14 = .ok (.goto 4, 3) := by decide +kernel
theorem dX7_firstOf_17 : decode cX7_firstOf 17 = .ok (.iconst (-1), 1) := by decide +kernel
theorem dX7_firstOf_18 : decode cX7_firstOf 18 = .ok (.ireturn, 1) := by decide +kernel
theorem dX7_isFilled_0 : decode cX7_isFilled 0 = .ok (.aload_n 0, 1) := by decide +kernel
theorem dX7_isFilled_1 : decode cX7_isFilled 1 = .ok (.iload_n 1, 1) := by decide +kernel
theorem dX7_isFilled_2 : decode cX7_isFilled 2 = .ok (.invokevirtual 54, 3) := by decide +kernel
theorem dX7_isFilled_5 : decode cX7_isFilled 5 = .ok (.ifCond .eq 16, 3) := by decide +kernel
theorem dX7_isFilled_8 : decode cX7_isFilled 8 = .ok (.aload_n 0, 1) := by decide +kernel
theorem dX7_isFilled_9 : decode cX7_isFilled 9 = .ok (.getfield 31, 3) := by decide +kernel
theorem dX7_isFilled_12 : decode cX7_isFilled 12 = .ok (.iload_n 1, 1) := by decide +kernel
theorem dX7_isFilled_13 : decode cX7_isFilled 13 = .ok (.baload, 1) := by decide +kernel
theorem dX7_isFilled_14 : decode cX7_isFilled 14 = .ok (.ifCond .eq 7, 3) := by decide +kernel
theorem dX7_isFilled_17 : decode cX7_isFilled 17 = .ok (.iconst 1, 1) := by decide +kernel
theorem dX7_isFilled_18 : decode cX7_isFilled 18 = .ok (.goto 4, 3) := by decide +kernel
theorem dX7_isFilled_21 : decode cX7_isFilled 21 = .ok (.iconst 0, 1) := by decide +kernel
theorem dX7_isFilled_22 : decode cX7_isFilled 22 = .ok (.ireturn, 1) := by decide +kernel
theorem dX7_nextOf_0 : decode cX7_nextOf 0 = .ok (.aload_n 0, 1) := by decide +kernel
theorem dX7_nextOf_1 : decode cX7_nextOf 1 = .ok (.iload_n 1, 1) := by decide +kernel
theorem dX7_nextOf_2 : decode cX7_nextOf 2 = .ok (.invokevirtual 54, 3) := by decide +kernel
theorem dX7_nextOf_5 : decode cX7_nextOf 5 = .ok (.ifCond .eq 12, 3) := by decide +kernel
theorem dX7_nextOf_8 : decode cX7_nextOf 8 = .ok (.aload_n 0, 1) := by decide +kernel
theorem dX7_nextOf_9 : decode cX7_nextOf 9 = .ok (.getfield 45, 3) := by decide +kernel
theorem dX7_nextOf_12 : decode cX7_nextOf 12 = .ok (.iload_n 1, 1) := by decide +kernel
theorem dX7_nextOf_13 : decode cX7_nextOf 13 = .ok (.iaload, 1) := by decide +kernel
theorem dX7_nextOf_14 : decode cX7_nextOf 14 = .ok (.goto 4, 3) := by decide +kernel
theorem dX7_nextOf_17 : decode cX7_nextOf 17 = .ok (.iconst (-1), 1) := by decide +kernel
theorem dX7_nextOf_18 : decode cX7_nextOf 18 = .ok (.ireturn, 1) := by decide +kernel
theorem dX7_numberOf_0 : decode cX7_numberOf 0 = .ok (.aload_n 0, 1) := by decide +kernel
theorem dX7_numberOf_1 : decode cX7_numberOf 1 = .ok (.iload_n 1, 1) := by decide +kernel
theorem dX7_numberOf_2 : decode cX7_numberOf 2 = .ok (.invokevirtual 54, 3) := by decide +kernel
theorem dX7_numberOf_5 : decode cX7_numberOf 5 = .ok (.ifCond .eq 12, 3) := by decide +kernel
theorem dX7_numberOf_8 : decode cX7_numberOf 8 = .ok (.aload_n 0, 1) := by decide +kernel
theorem dX7_numberOf_9 : decode cX7_numberOf 9 = .ok (.getfield 51, 3) := by decide +kernel
theorem dX7_numberOf_12 : decode cX7_numberOf 12 = .ok (.iload_n 1, 1) := by decide +kernel
theorem dX7_numberOf_13 : decode cX7_numberOf 13 = .ok (.iaload, 1) := by decide +kernel
theorem dX7_numberOf_14 : decode cX7_numberOf 14 = .ok (.goto 4, 3) := by decide +kernel
theorem dX7_numberOf_17 : decode cX7_numberOf 17 = .ok (.iconst (-1), 1) := by decide +kernel
theorem dX7_numberOf_18 : decode cX7_numberOf 18 = .ok (.ireturn, 1) := by decide +kernel
theorem dX7_parentOf_0 : decode cX7_parentOf 0 = .ok (.aload_n 0, 1) := by decide +kernel
theorem dX7_parentOf_1 : decode cX7_parentOf 1 = .ok (.iload_n 1, 1) := by decide +kernel
theorem dX7_parentOf_2 : decode cX7_parentOf 2 = .ok (.invokevirtual 54, 3) := by decide +kernel
theorem dX7_parentOf_5 : decode cX7_parentOf 5 = .ok (.ifCond .eq 12, 3) := by decide +kernel
theorem dX7_parentOf_8 : decode cX7_parentOf 8 = .ok (.aload_n 0, 1) := by decide +kernel
theorem dX7_parentOf_9 : decode cX7_parentOf 9 = .ok (.getfield 22, 3) := by decide +kernel
theorem dX7_parentOf_12 : decode cX7_parentOf 12 = .ok (.iload_n 1, 1) := by decide +kernel
theorem dX7_parentOf_13 : decode cX7_parentOf 13 = .ok (.iaload, 1) := by decide +kernel
theorem dX7_parentOf_14 : decode cX7_parentOf 14 = .ok (.goto 4, 3) := by decide +kernel
theorem dX7_parentOf_17 : decode cX7_parentOf 17 = .ok (.iconst (-1), 1) := by decide +kernel
theorem dX7_parentOf_18 : decode cX7_parentOf 18 = .ok (.ireturn, 1) := by decide +kernel
theorem dX7_placeOf_0 : decode cX7_placeOf 0 = .ok (.aload_n 0, 1) := by decide +kernel
theorem dX7_placeOf_1 : decode cX7_placeOf 1 = .ok (.iload_n 1, 1) := by decide +kernel
theorem dX7_placeOf_2 : decode cX7_placeOf 2 = .ok (.invokevirtual 54, 3) := by decide +kernel
theorem dX7_placeOf_5 : decode cX7_placeOf 5 = .ok (.ifCond .eq 12, 3) := by decide +kernel
theorem dX7_placeOf_8 : decode cX7_placeOf 8 = .ok (.aload_n 0, 1) := by decide +kernel
theorem dX7_placeOf_9 : decode cX7_placeOf 9 = .ok (.getfield 25, 3) := by decide +kernel
theorem dX7_placeOf_12 : decode cX7_placeOf 12 = .ok (.iload_n 1, 1) := by decide +kernel
theorem dX7_placeOf_13 : decode cX7_placeOf 13 = .ok (.iaload, 1) := by decide +kernel
theorem dX7_placeOf_14 : decode cX7_placeOf 14 = .ok (.goto 4, 3) := by decide +kernel
theorem dX7_placeOf_17 : decode cX7_placeOf 17 = .ok (.iconst 0, 1) := by decide +kernel
theorem dX7_placeOf_18 : decode cX7_placeOf 18 = .ok (.ireturn, 1) := by decide +kernel
theorem dX7_rowAt_0 : decode cX7_rowAt 0 = .ok (.iload_n 1, 1) := by decide +kernel
theorem dX7_rowAt_1 : decode cX7_rowAt 1 = .ok (.ifCond .lt 28, 3) := by decide +kernel
theorem dX7_rowAt_4 : decode cX7_rowAt 4 = .ok (.iload_n 1, 1) := by decide +kernel
theorem dX7_rowAt_5 : decode cX7_rowAt 5 = .ok (.aload_n 0, 1) := by decide +kernel
theorem dX7_rowAt_6 : decode cX7_rowAt 6 = .ok (.getfield 9, 3) := by decide +kernel
theorem dX7_rowAt_9 : decode cX7_rowAt 9 = .ok (.if_icmp .ge 20, 3) := by decide +kernel
theorem dX7_rowAt_12 : decode cX7_rowAt 12 = .ok (.iload_n 1, 1) := by decide +kernel
theorem dX7_rowAt_13 : decode cX7_rowAt 13 = .ok (.aload_n 0, 1) := by decide +kernel
theorem dX7_rowAt_14 : decode cX7_rowAt 14 = .ok (.getfield 15, 3) := by decide +kernel
theorem dX7_rowAt_17 : decode cX7_rowAt 17 = .ok (.if_icmp .ge 12, 3) := by decide +kernel
theorem dX7_rowAt_20 : decode cX7_rowAt 20 = .ok (.aload_n 0, 1) := by decide +kernel
theorem dX7_rowAt_21 : decode cX7_rowAt 21 = .ok (.getfield 48, 3) := by decide +kernel
theorem dX7_rowAt_24 : decode cX7_rowAt 24 = .ok (.iload_n 1, 1) := by decide +kernel
theorem dX7_rowAt_25 : decode cX7_rowAt 25 = .ok (.iaload, 1) := by decide +kernel
theorem dX7_rowAt_26 : decode cX7_rowAt 26 = .ok (.goto 4, 3) := by decide +kernel
theorem dX7_rowAt_29 : decode cX7_rowAt 29 = .ok (.iconst (-1), 1) := by decide +kernel
theorem dX7_rowAt_30 : decode cX7_rowAt 30 = .ok (.ireturn, 1) := by decide +kernel
theorem dX7_sizeOf_0 : decode cX7_sizeOf 0 = .ok (.aload_n 0, 1) := by decide +kernel
theorem dX7_sizeOf_1 : decode cX7_sizeOf 1 = .ok (.iload_n 1, 1) := by decide +kernel
theorem dX7_sizeOf_2 : decode cX7_sizeOf 2 = .ok (.invokevirtual 54, 3) := by decide +kernel
theorem dX7_sizeOf_5 : decode cX7_sizeOf 5 = .ok (.ifCond .eq 12, 3) := by decide +kernel
theorem dX7_sizeOf_8 : decode cX7_sizeOf 8 = .ok (.aload_n 0, 1) := by decide +kernel
theorem dX7_sizeOf_9 : decode cX7_sizeOf 9 = .ok (.getfield 28, 3) := by decide +kernel
theorem dX7_sizeOf_12 : decode cX7_sizeOf 12 = .ok (.iload_n 1, 1) := by decide +kernel
theorem dX7_sizeOf_13 : decode cX7_sizeOf 13 = .ok (.iaload, 1) := by decide +kernel
theorem dX7_sizeOf_14 : decode cX7_sizeOf 14 = .ok (.goto 4, 3) := by decide +kernel
theorem dX7_sizeOf_17 : decode cX7_sizeOf 17 = .ok (.iconst 0, 1) := by decide +kernel
theorem dX7_sizeOf_18 : decode cX7_sizeOf 18 = .ok (.ireturn, 1) := by decide +kernel
theorem dX7_worthOf_0 : decode cX7_worthOf 0 = .ok (.aload_n 0, 1) := by decide +kernel
theorem dX7_worthOf_1 : decode cX7_worthOf 1 = .ok (.iload_n 1, 1) := by decide +kernel
theorem dX7_worthOf_2 : decode cX7_worthOf 2 = .ok (.invokevirtual 54, 3) := by decide +kernel
theorem dX7_worthOf_5 : decode cX7_worthOf 5 = .ok (.ifCond .eq 12, 3) := by decide +kernel
theorem dX7_worthOf_8 : decode cX7_worthOf 8 = .ok (.aload_n 0, 1) := by decide +kernel
theorem dX7_worthOf_9 : decode cX7_worthOf 9 = .ok (.getfield 35, 3) := by decide +kernel
theorem dX7_worthOf_12 : decode cX7_worthOf 12 = .ok (.iload_n 1, 1) := by decide +kernel
theorem dX7_worthOf_13 : decode cX7_worthOf 13 = .ok (.laload, 1) := by decide +kernel
theorem dX7_worthOf_14 : decode cX7_worthOf 14 = .ok (.goto 4, 3) := by decide +kernel
theorem dX7_worthOf_17 : decode cX7_worthOf 17 = .ok (.lconst 0, 1) := by decide +kernel
theorem dX7_worthOf_18 : decode cX7_worthOf 18 = .ok (.lreturn, 1) := by decide +kernel
theorem dX9_clear_0 : decode cX9_clear 0 = .ok (.aload_n 0, 1) := by decide +kernel
theorem dX9_clear_1 : decode cX9_clear 1 = .ok (.iconst 0, 1) := by decide +kernel
theorem dX9_clear_2 : decode cX9_clear 2 = .ok (.putfield 15, 3) := by decide +kernel
theorem dX9_clear_5 : decode cX9_clear 5 = .ok (.aload_n 0, 1) := by decide +kernel
theorem dX9_clear_6 : decode cX9_clear 6 = .ok (.iconst 0, 1) := by decide +kernel
theorem dX9_clear_7 : decode cX9_clear 7 = .ok (.putfield 19, 3) := by decide +kernel
theorem dX9_clear_10 : decode cX9_clear 10 = .ok (.aload_n 0, 1) := by decide +kernel
theorem dX9_clear_11 : decode cX9_clear 11 = .ok (.iconst 0, 1) := by decide +kernel
theorem dX9_clear_12 : decode cX9_clear 12 = .ok (.putfield 22, 3) := by decide +kernel
theorem dX9_clear_15 : decode cX9_clear 15 = .ok (.return_, 1) := by decide +kernel
theorem dX9_pairAt_0 : decode cX9_pairAt 0 = .ok (.iload_n 1, 1) := by decide +kernel
theorem dX9_pairAt_1 : decode cX9_pairAt 1 = .ok (.ifCond .lt 25, 3) := by decide +kernel
theorem dX9_pairAt_4 : decode cX9_pairAt 4 = .ok (.iload_n 1, 1) := by decide +kernel
theorem dX9_pairAt_5 : decode cX9_pairAt 5 = .ok (.aload_n 0, 1) := by decide +kernel
theorem dX9_pairAt_6 : decode cX9_pairAt 6 = .ok (.getfield 15, 3) := by decide +kernel
theorem dX9_pairAt_9 : decode cX9_pairAt 9 = .ok (.if_icmp .ge 17, 3) := by decide +kernel
theorem dX9_pairAt_12 : decode cX9_pairAt 12 = .ok (.iload_n 1, 1) := by decide +kernel
theorem dX9_pairAt_13 : decode cX9_pairAt 13 = .ok (.iconst 4, 1) := by decide +kernel
theorem dX9_pairAt_14 : decode cX9_pairAt 14 = .ok (.if_icmp .ge 12, 3) := by decide +kernel
theorem dX9_pairAt_17 : decode cX9_pairAt 17 = .ok (.aload_n 0, 1) := by decide +kernel
theorem dX9_pairAt_18 : decode cX9_pairAt 18 = .ok (.getfield 11, 3) := by decide +kernel
theorem dX9_pairAt_21 : decode cX9_pairAt 21 = .ok (.iload_n 1, 1) := by decide +kernel
theorem dX9_pairAt_22 : decode cX9_pairAt 22 = .ok (.iaload, 1) := by decide +kernel
theorem dX9_pairAt_23 : decode cX9_pairAt 23 = .ok (.goto 4, 3) := by decide +kernel
theorem dX9_pairAt_26 : decode cX9_pairAt 26 = .ok (.iconst (-1), 1) := by decide +kernel
theorem dX9_pairAt_27 : decode cX9_pairAt 27 = .ok (.ireturn, 1) := by decide +kernel
set_option maxRecDepth 100000 in
set_option maxHeartbeats 4000000 in
theorem s_X7_parentOf (l : Launch) (dC : Nat → ClassId) (dI : Nat → Nat → Nat) (h0 : Nat) (nx7 : Nat) (xx7_1 : Int32) (ax7_2 : Nat) (ax7_3 : Nat) (cx7_3 : ClassId) (fx7_3 : Nat → Int32) (ax7_4 : Nat) (ax7_5 : Nat) (ax7_6 : Nat) (ax7_7 : Nat) (ax7_8 : Nat) (ax7_9 : Nat) (ax7_10 : Nat) (ax7_11 : Nat) (ax7_12 : Nat) (p0 : Int32) (hn_nx7 : nx7 < 2 ^ 31) (sz : Nat) : Met l yX7_parentOf (.code yX7_parentOf cX7_parentOf 2 (some .int) :: pw) ({ frames := 1, cells := 0, slots := 0, locals := 21 }) (va_Pc [.ref h0, .int p0] (vPre dC dI [(h0, .inr (7, [.int (nI nx7), .int xx7_1, .ref ax7_2, .ref ax7_3, .ref ax7_4, .ref ax7_5, .ref ax7_6, .ref ax7_7, .ref ax7_8, .ref ax7_9, .ref ax7_10, .ref ax7_11, .ref ax7_12])), (ax7_3, .inl (cx7_3, nx7, .inl fx7_3))] [(cx7_3, .int)] sz)) (va_Qi (fun (r : Int32) (_ : Unit) => (r = (fx7_3 p0.toNatClampNeg)) ∨ (r = (-1))) (fun (_ : Unit) t => vPst dC dI (va_A [(h0, .inr (7, [.int (nI nx7), .int xx7_1, .ref ax7_2, .ref ax7_3, .ref ax7_4, .ref ax7_5, .ref ax7_6, .ref ax7_7, .ref ax7_8, .ref ax7_9, .ref ax7_10, .ref ax7_11, .ref ax7_12])), (ax7_3, .inl (cx7_3, nx7, .inl fx7_3))] sz) [(h0, .inr (7, [.int (nI nx7), .int xx7_1, .ref ax7_2, .ref ax7_3, .ref ax7_4, .ref ax7_5, .ref ax7_6, .ref ax7_7, .ref ax7_8, .ref ax7_9, .ref ax7_10, .ref ax7_11, .ref ax7_12])), (ax7_3, .inl (cx7_3, nx7, .inl fx7_3))] [(cx7_3, .int)] t) (va_A [(h0, .inr (7, [.int (nI nx7), .int xx7_1, .ref ax7_2, .ref ax7_3, .ref ax7_4, .ref ax7_5, .ref ax7_6, .ref ax7_7, .ref ax7_8, .ref ax7_9, .ref ax7_10, .ref ax7_11, .ref ax7_12])), (ax7_3, .inl (cx7_3, nx7, .inl fx7_3))] sz)) 0 0 (va_A [(h0, .inr (7, [.int (nI nx7), .int xx7_1, .ref ax7_2, .ref ax7_3, .ref ax7_4, .ref ax7_5, .ref ax7_6, .ref ax7_7, .ref ax7_8, .ref ax7_9, .ref ax7_10, .ref ax7_11, .ref ax7_12])), (ax7_3, .inl (cx7_3, nx7, .inl fx7_3))] sz) := by
  refine Met.ofW (cc := cX7_parentOf) (maxL := 2) (ret := (some .int)) (by decide) rfl ?_
  intro p e s m args below meth c s₁ B hml hv
  obtain ⟨rfl, hsz, hP, hK, hD0, hN⟩ := hv
  have hx := B.exec
  have hb := B.bytes
  have hr := B.returns
  have hts := atoms_spec (ws := .code yX7_parentOf cX7_parentOf 2 (some .int) :: pw) B.pre
  have hts : ∀ w ∈ pw, w.before _ s = true := fun w h => hts w (List.mem_cons_of_mem _ h)
  have hown : s.vm.findClass RX7 = some m.cls := findClass_of_methodNamed B.named
  have hlocks := B.notSynchronized
  subst hsz
  have hD := hD0.self (sz := s.heap.size)
  generalize hAe : va_A [(h0, .inr (7, [.int (nI nx7), .int xx7_1, .ref ax7_2, .ref ax7_3, .ref ax7_4, .ref ax7_5, .ref ax7_6, .ref ax7_7, .ref ax7_8, .ref ax7_9, .ref ax7_10, .ref ax7_11, .ref ax7_12])), (ax7_3, .inl (cx7_3, nx7, .inl fx7_3))] s.heap.size = A at hD ⊢
  have hA : ∀ q : Nat, s.heap.size ≤ q → A q := fun q h => by rw [← hAe]; exact Or.inr h
  have hS : va_S A s.heap s.heap [] := va_S.rf
  have hP : va_P (dC, dI) vwCl [(h0, .inr (7, [.int (nI nx7), .int xx7_1, .ref ax7_2, .ref ax7_3, .ref ax7_4, .ref ax7_5, .ref ax7_6, .ref ax7_7, .ref ax7_8, .ref ax7_9, .ref ax7_10, .ref ax7_11, .ref ax7_12])), (ax7_3, .inl (cx7_3, nx7, .inl fx7_3))] s.heap := hP
  have hl := lv_entry ([.ref h0, .int p0]) (n := 2) (Nat.le_of_ble_eq_true rfl)
  rw [lg_entry_eq]
  generalize (lg_sl ([.ref h0, .int p0]) ++ List.replicate (2 - (lg_sl ([.ref h0, .int p0])).length) Slot.unset).toArray = ls at hl ⊢
  have hl : lv_has ls 2 [(0, .ref h0), (1, .int p0)] := hl
  refine lv_aload_n hx hb dX7_parentOf_0 rfl (lv_at hl 0 rfl) ?_
  refine lv_iload_n hx hb dX7_parentOf_1 rfl (lv_at hl 1 rfl) ?_
  have hPc := hP.sub (ws' := [(h0, .inr (7, [.int (nI nx7), .int xx7_1, .ref ax7_2, .ref ax7_3, .ref ax7_4, .ref ax7_5, .ref ax7_6, .ref ax7_7, .ref ax7_8, .ref ax7_9, .ref ax7_10, .ref ax7_11, .ref ax7_12]))]) [0] rfl
  have hDc := hD.sub (ws' := [(h0, .inr (7, [.int (nI nx7), .int xx7_1, .ref ax7_2, .ref ax7_3, .ref ax7_4, .ref ax7_5, .ref ax7_6, .ref ax7_7, .ref ax7_8, .ref ax7_9, .ref ax7_10, .ref ax7_11, .ref ax7_12]))]) [0] (by decide) rfl
  have hKc := hK.sub (tys' := []) [] rfl
  have hFc := va_free (wc := [(h0, .inr (7, [.int (nI nx7), .int xx7_1, .ref ax7_2, .ref ax7_3, .ref ax7_4, .ref ax7_5, .ref ax7_6, .ref ax7_7, .ref ax7_8, .ref ax7_9, .ref ax7_10, .ref ax7_11, .ref ax7_12]))]) hD hS hA [0] rfl
  refine va_calli (va_runV (As := [.int p0]) (rest := []) ⟨hx, hb, hml, hown, hts⟩ (s_X7_isRow l dC dI h0 nx7 xx7_1 ax7_2 ax7_3 ax7_4 ax7_5 ax7_6 ax7_7 ax7_8 ax7_9 ax7_10 ax7_11 ax7_12 p0 hn_nx7 s.heap.size) (cwV 1 hts (gV mw_18_5 mw_18_6 mw_18_7 mw_0_11 mw_50_23) rfl rfl rfl (by decide +kernel) ⟨(Nat.le_of_ble_eq_true rfl), (Nat.le_of_ble_eq_true rfl)⟩) (vV (ci := 7) (q0 := 0) hKc hPc hDc hN rfl rfl) rfl rfl hl.1 rfl (lv_room (Nat.le_of_ble_eq_true rfl)) dX7_parentOf_2 ⟨(Nat.le_of_ble_eq_true rfl), (Nat.le_of_ble_eq_true rfl)⟩) hS (fun q _ h => hFc q h) hFc (fun r_1 u t H1 locs ht hvm hw hB hz1 hk1 hS => ?_)
  obtain ⟨hP1, hK1, hD1⟩ := hB
  rw [ht] at hP1
  have hK1 := va_K.moved hvm.symm hK1
  obtain ⟨hP, hD⟩ := va_join (wr := [(ax7_3, .inl (cx7_3, nx7, .inl fx7_3))]) (w1 := [(h0, .inr (7, [.int (nI nx7), .int xx7_1, .ref ax7_2, .ref ax7_3, .ref ax7_4, .ref ax7_5, .ref ax7_6, .ref ax7_7, .ref ax7_8, .ref ax7_9, .ref ax7_10, .ref ax7_11, .ref ax7_12]))]) hP hD [0] [1] rfl rfl (by decide) (by decide) hk1 hFc hP1 hD1
  clear hPc hDc hKc hP1 hK1 hD1 hFc hk1 hz1
  generalize H1 = H at hP hS ⊢
  have hP : va_P (dC, dI) vwCl [(ax7_3, .inl (cx7_3, nx7, .inl fx7_3)), (h0, .inr (7, [.int (nI nx7), .int xx7_1, .ref ax7_2, .ref ax7_3, .ref ax7_4, .ref ax7_5, .ref ax7_6, .ref ax7_7, .ref ax7_8, .ref ax7_9, .ref ax7_10, .ref ax7_11, .ref ax7_12]))] H := hP
  have hD : va_D A [(ax7_3, .inl (cx7_3, nx7, .inl fx7_3)), (h0, .inr (7, [.int (nI nx7), .int xx7_1, .ref ax7_2, .ref ax7_3, .ref ax7_4, .ref ax7_5, .ref ax7_6, .ref ax7_7, .ref ax7_8, .ref ax7_9, .ref ax7_10, .ref ax7_11, .ref ax7_12]))] := hD
  rcases hw with rfl | ⟨rfl, g_2, g_3, g_4⟩
  · refine lv_if_eq (tgt := 17) hx hb dX7_parentOf_5 (by decide) (fun _ => ?_) (fun h => absurd (by decide) h)
    refine lv_iconst (v := (-1)) hx hb dX7_parentOf_17 (by decide) ?_
    have hP9 := hP.sub (ws' := [(h0, .inr (7, [.int (nI nx7), .int xx7_1, .ref ax7_2, .ref ax7_3, .ref ax7_4, .ref ax7_5, .ref ax7_6, .ref ax7_7, .ref ax7_8, .ref ax7_9, .ref ax7_10, .ref ax7_11, .ref ax7_12])), (ax7_3, .inl (cx7_3, nx7, .inl fx7_3))]) [1, 0] rfl
    have hD9 := hD.sub (ws' := [(h0, .inr (7, [.int (nI nx7), .int xx7_1, .ref ax7_2, .ref ax7_3, .ref ax7_4, .ref ax7_5, .ref ax7_6, .ref ax7_7, .ref ax7_8, .ref ax7_9, .ref ax7_10, .ref ax7_11, .ref ax7_12])), (ax7_3, .inl (cx7_3, nx7, .inl fx7_3))]) [1, 0] (by decide) rfl
    have hK9 := hK.sub (tys' := [(cx7_3, .int)]) [0] rfl
    refine W.widen (k := 0) (n := 0) (Nat.le_of_ble_eq_true rfl) (Nat.le_of_ble_eq_true rfl) ?_
    exact W.iret (v := (-1)) hx hb hr (fun t ht hW => ⟨⟨(-1), (), rfl, Or.inr (rfl), by rw [ht]; exact hP9, va_K.moved hW.alike hK9, hD9⟩, hS.F ht⟩) hS.2.2 dX7_parentOf_18
  · refine lv_if_eq (tgt := 17) hx hb dX7_parentOf_5 (by decide) (fun h => absurd h (by decide)) (fun _ => ?_)
    refine lv_aload_n hx hb dX7_parentOf_8 rfl (lv_at hl 0 rfl) ?_
    refine va_get (D := (dC, dI)) (ci := 7) (v := .ref ax7_3) (C := RX7) (T := TX7) (N := 13) hx hb hts inlX7 hown hK hP 1 rfl rfl 3 (by decide) (hts (.fieldLink RX7 22 "ShapeReader$Tree" "parents" "[I") mw_17_25) (fun _ h9 => h9) rfl dX7_parentOf_9 ?_
    refine lv_iload_n hx hb dX7_parentOf_12 rfl (lv_at hl 1 rfl) ?_
    refine va_iald hx hb hK hP 0 0 rfl rfl (vp_in_ltn (by have a0 := il_nlt g_2; have e0 : (0 : Int32).toInt = 0 := (by decide); omega) g_4 hn_nx7) dX7_parentOf_13 ?_
    refine lv_topi (fun x_7 ex_7 => ?_)
    refine lv_goto (tgt := 18) hx hb dX7_parentOf_14 (by decide) ?_
    have hP9 := hP.sub (ws' := [(h0, .inr (7, [.int (nI nx7), .int xx7_1, .ref ax7_2, .ref ax7_3, .ref ax7_4, .ref ax7_5, .ref ax7_6, .ref ax7_7, .ref ax7_8, .ref ax7_9, .ref ax7_10, .ref ax7_11, .ref ax7_12])), (ax7_3, .inl (cx7_3, nx7, .inl fx7_3))]) [1, 0] rfl
    have hD9 := hD.sub (ws' := [(h0, .inr (7, [.int (nI nx7), .int xx7_1, .ref ax7_2, .ref ax7_3, .ref ax7_4, .ref ax7_5, .ref ax7_6, .ref ax7_7, .ref ax7_8, .ref ax7_9, .ref ax7_10, .ref ax7_11, .ref ax7_12])), (ax7_3, .inl (cx7_3, nx7, .inl fx7_3))]) [1, 0] (by decide) rfl
    have hK9 := hK.sub (tys' := [(cx7_3, .int)]) [0] rfl
    refine W.widen (k := 0) (n := 0) (Nat.le_of_ble_eq_true rfl) (Nat.le_of_ble_eq_true rfl) ?_
    exact W.iret (v := x_7) hx hb hr (fun t ht hW => ⟨⟨x_7, (), rfl, Or.inl ((by rw [ex_7])), by rw [ht]; exact hP9, va_K.moved hW.alike hK9, hD9⟩, hS.F ht⟩) hS.2.2 dX7_parentOf_18

set_option maxRecDepth 100000 in
set_option maxHeartbeats 4000000 in
theorem s_X7_placeOf (l : Launch) (dC : Nat → ClassId) (dI : Nat → Nat → Nat) (h0 : Nat) (nx7 : Nat) (xx7_1 : Int32) (ax7_2 : Nat) (ax7_3 : Nat) (ax7_4 : Nat) (cx7_4 : ClassId) (fx7_4 : Nat → Int32) (ax7_5 : Nat) (ax7_6 : Nat) (ax7_7 : Nat) (ax7_8 : Nat) (ax7_9 : Nat) (ax7_10 : Nat) (ax7_11 : Nat) (ax7_12 : Nat) (p0 : Int32) (hn_nx7 : nx7 < 2 ^ 31) (sz : Nat) : Met l yX7_placeOf (.code yX7_placeOf cX7_placeOf 2 (some .int) :: pw) ({ frames := 1, cells := 0, slots := 0, locals := 21 }) (va_Pc [.ref h0, .int p0] (vPre dC dI [(h0, .inr (7, [.int (nI nx7), .int xx7_1, .ref ax7_2, .ref ax7_3, .ref ax7_4, .ref ax7_5, .ref ax7_6, .ref ax7_7, .ref ax7_8, .ref ax7_9, .ref ax7_10, .ref ax7_11, .ref ax7_12])), (ax7_4, .inl (cx7_4, nx7, .inl fx7_4))] [(cx7_4, .int)] sz)) (va_Qi (fun (r : Int32) (_ : Unit) => (r = (fx7_4 p0.toNatClampNeg)) ∨ (r = 0)) (fun (_ : Unit) t => vPst dC dI (va_A [(h0, .inr (7, [.int (nI nx7), .int xx7_1, .ref ax7_2, .ref ax7_3, .ref ax7_4, .ref ax7_5, .ref ax7_6, .ref ax7_7, .ref ax7_8, .ref ax7_9, .ref ax7_10, .ref ax7_11, .ref ax7_12])), (ax7_4, .inl (cx7_4, nx7, .inl fx7_4))] sz) [(h0, .inr (7, [.int (nI nx7), .int xx7_1, .ref ax7_2, .ref ax7_3, .ref ax7_4, .ref ax7_5, .ref ax7_6, .ref ax7_7, .ref ax7_8, .ref ax7_9, .ref ax7_10, .ref ax7_11, .ref ax7_12])), (ax7_4, .inl (cx7_4, nx7, .inl fx7_4))] [(cx7_4, .int)] t) (va_A [(h0, .inr (7, [.int (nI nx7), .int xx7_1, .ref ax7_2, .ref ax7_3, .ref ax7_4, .ref ax7_5, .ref ax7_6, .ref ax7_7, .ref ax7_8, .ref ax7_9, .ref ax7_10, .ref ax7_11, .ref ax7_12])), (ax7_4, .inl (cx7_4, nx7, .inl fx7_4))] sz)) 0 0 (va_A [(h0, .inr (7, [.int (nI nx7), .int xx7_1, .ref ax7_2, .ref ax7_3, .ref ax7_4, .ref ax7_5, .ref ax7_6, .ref ax7_7, .ref ax7_8, .ref ax7_9, .ref ax7_10, .ref ax7_11, .ref ax7_12])), (ax7_4, .inl (cx7_4, nx7, .inl fx7_4))] sz) := by
  refine Met.ofW (cc := cX7_placeOf) (maxL := 2) (ret := (some .int)) (by decide) rfl ?_
  intro p e s m args below meth c s₁ B hml hv
  obtain ⟨rfl, hsz, hP, hK, hD0, hN⟩ := hv
  have hx := B.exec
  have hb := B.bytes
  have hr := B.returns
  have hts := atoms_spec (ws := .code yX7_placeOf cX7_placeOf 2 (some .int) :: pw) B.pre
  have hts : ∀ w ∈ pw, w.before _ s = true := fun w h => hts w (List.mem_cons_of_mem _ h)
  have hown : s.vm.findClass RX7 = some m.cls := findClass_of_methodNamed B.named
  have hlocks := B.notSynchronized
  subst hsz
  have hD := hD0.self (sz := s.heap.size)
  generalize hAe : va_A [(h0, .inr (7, [.int (nI nx7), .int xx7_1, .ref ax7_2, .ref ax7_3, .ref ax7_4, .ref ax7_5, .ref ax7_6, .ref ax7_7, .ref ax7_8, .ref ax7_9, .ref ax7_10, .ref ax7_11, .ref ax7_12])), (ax7_4, .inl (cx7_4, nx7, .inl fx7_4))] s.heap.size = A at hD ⊢
  have hA : ∀ q : Nat, s.heap.size ≤ q → A q := fun q h => by rw [← hAe]; exact Or.inr h
  have hS : va_S A s.heap s.heap [] := va_S.rf
  have hP : va_P (dC, dI) vwCl [(h0, .inr (7, [.int (nI nx7), .int xx7_1, .ref ax7_2, .ref ax7_3, .ref ax7_4, .ref ax7_5, .ref ax7_6, .ref ax7_7, .ref ax7_8, .ref ax7_9, .ref ax7_10, .ref ax7_11, .ref ax7_12])), (ax7_4, .inl (cx7_4, nx7, .inl fx7_4))] s.heap := hP
  have hl := lv_entry ([.ref h0, .int p0]) (n := 2) (Nat.le_of_ble_eq_true rfl)
  rw [lg_entry_eq]
  generalize (lg_sl ([.ref h0, .int p0]) ++ List.replicate (2 - (lg_sl ([.ref h0, .int p0])).length) Slot.unset).toArray = ls at hl ⊢
  have hl : lv_has ls 2 [(0, .ref h0), (1, .int p0)] := hl
  refine lv_aload_n hx hb dX7_placeOf_0 rfl (lv_at hl 0 rfl) ?_
  refine lv_iload_n hx hb dX7_placeOf_1 rfl (lv_at hl 1 rfl) ?_
  have hPc := hP.sub (ws' := [(h0, .inr (7, [.int (nI nx7), .int xx7_1, .ref ax7_2, .ref ax7_3, .ref ax7_4, .ref ax7_5, .ref ax7_6, .ref ax7_7, .ref ax7_8, .ref ax7_9, .ref ax7_10, .ref ax7_11, .ref ax7_12]))]) [0] rfl
  have hDc := hD.sub (ws' := [(h0, .inr (7, [.int (nI nx7), .int xx7_1, .ref ax7_2, .ref ax7_3, .ref ax7_4, .ref ax7_5, .ref ax7_6, .ref ax7_7, .ref ax7_8, .ref ax7_9, .ref ax7_10, .ref ax7_11, .ref ax7_12]))]) [0] (by decide) rfl
  have hKc := hK.sub (tys' := []) [] rfl
  have hFc := va_free (wc := [(h0, .inr (7, [.int (nI nx7), .int xx7_1, .ref ax7_2, .ref ax7_3, .ref ax7_4, .ref ax7_5, .ref ax7_6, .ref ax7_7, .ref ax7_8, .ref ax7_9, .ref ax7_10, .ref ax7_11, .ref ax7_12]))]) hD hS hA [0] rfl
  refine va_calli (va_runV (As := [.int p0]) (rest := []) ⟨hx, hb, hml, hown, hts⟩ (s_X7_isRow l dC dI h0 nx7 xx7_1 ax7_2 ax7_3 ax7_4 ax7_5 ax7_6 ax7_7 ax7_8 ax7_9 ax7_10 ax7_11 ax7_12 p0 hn_nx7 s.heap.size) (cwV 1 hts (gV mw_18_5 mw_18_6 mw_18_7 mw_0_11 mw_50_23) rfl rfl rfl (by decide +kernel) ⟨(Nat.le_of_ble_eq_true rfl), (Nat.le_of_ble_eq_true rfl)⟩) (vV (ci := 7) (q0 := 0) hKc hPc hDc hN rfl rfl) rfl rfl hl.1 rfl (lv_room (Nat.le_of_ble_eq_true rfl)) dX7_placeOf_2 ⟨(Nat.le_of_ble_eq_true rfl), (Nat.le_of_ble_eq_true rfl)⟩) hS (fun q _ h => hFc q h) hFc (fun r_1 u t H1 locs ht hvm hw hB hz1 hk1 hS => ?_)
  obtain ⟨hP1, hK1, hD1⟩ := hB
  rw [ht] at hP1
  have hK1 := va_K.moved hvm.symm hK1
  obtain ⟨hP, hD⟩ := va_join (wr := [(ax7_4, .inl (cx7_4, nx7, .inl fx7_4))]) (w1 := [(h0, .inr (7, [.int (nI nx7), .int xx7_1, .ref ax7_2, .ref ax7_3, .ref ax7_4, .ref ax7_5, .ref ax7_6, .ref ax7_7, .ref ax7_8, .ref ax7_9, .ref ax7_10, .ref ax7_11, .ref ax7_12]))]) hP hD [0] [1] rfl rfl (by decide) (by decide) hk1 hFc hP1 hD1
  clear hPc hDc hKc hP1 hK1 hD1 hFc hk1 hz1
  generalize H1 = H at hP hS ⊢
  have hP : va_P (dC, dI) vwCl [(ax7_4, .inl (cx7_4, nx7, .inl fx7_4)), (h0, .inr (7, [.int (nI nx7), .int xx7_1, .ref ax7_2, .ref ax7_3, .ref ax7_4, .ref ax7_5, .ref ax7_6, .ref ax7_7, .ref ax7_8, .ref ax7_9, .ref ax7_10, .ref ax7_11, .ref ax7_12]))] H := hP
  have hD : va_D A [(ax7_4, .inl (cx7_4, nx7, .inl fx7_4)), (h0, .inr (7, [.int (nI nx7), .int xx7_1, .ref ax7_2, .ref ax7_3, .ref ax7_4, .ref ax7_5, .ref ax7_6, .ref ax7_7, .ref ax7_8, .ref ax7_9, .ref ax7_10, .ref ax7_11, .ref ax7_12]))] := hD
  rcases hw with rfl | ⟨rfl, g_2, g_3, g_4⟩
  · refine lv_if_eq (tgt := 17) hx hb dX7_placeOf_5 (by decide) (fun _ => ?_) (fun h => absurd (by decide) h)
    refine lv_iconst (v := 0) hx hb dX7_placeOf_17 (by decide) ?_
    have hP9 := hP.sub (ws' := [(h0, .inr (7, [.int (nI nx7), .int xx7_1, .ref ax7_2, .ref ax7_3, .ref ax7_4, .ref ax7_5, .ref ax7_6, .ref ax7_7, .ref ax7_8, .ref ax7_9, .ref ax7_10, .ref ax7_11, .ref ax7_12])), (ax7_4, .inl (cx7_4, nx7, .inl fx7_4))]) [1, 0] rfl
    have hD9 := hD.sub (ws' := [(h0, .inr (7, [.int (nI nx7), .int xx7_1, .ref ax7_2, .ref ax7_3, .ref ax7_4, .ref ax7_5, .ref ax7_6, .ref ax7_7, .ref ax7_8, .ref ax7_9, .ref ax7_10, .ref ax7_11, .ref ax7_12])), (ax7_4, .inl (cx7_4, nx7, .inl fx7_4))]) [1, 0] (by decide) rfl
    have hK9 := hK.sub (tys' := [(cx7_4, .int)]) [0] rfl
    refine W.widen (k := 0) (n := 0) (Nat.le_of_ble_eq_true rfl) (Nat.le_of_ble_eq_true rfl) ?_
    exact W.iret (v := 0) hx hb hr (fun t ht hW => ⟨⟨0, (), rfl, Or.inr (rfl), by rw [ht]; exact hP9, va_K.moved hW.alike hK9, hD9⟩, hS.F ht⟩) hS.2.2 dX7_placeOf_18
  · refine lv_if_eq (tgt := 17) hx hb dX7_placeOf_5 (by decide) (fun h => absurd h (by decide)) (fun _ => ?_)
    refine lv_aload_n hx hb dX7_placeOf_8 rfl (lv_at hl 0 rfl) ?_
    refine va_get (D := (dC, dI)) (ci := 7) (v := .ref ax7_4) (C := RX7) (T := TX7) (N := 13) hx hb hts inlX7 hown hK hP 1 rfl rfl 4 (by decide) (hts (.fieldLink RX7 25 "ShapeReader$Tree" "places" "[I") mw_17_26) (fun _ h9 => h9) rfl dX7_placeOf_9 ?_
    refine lv_iload_n hx hb dX7_placeOf_12 rfl (lv_at hl 1 rfl) ?_
    refine va_iald hx hb hK hP 0 0 rfl rfl (vp_in_ltn (by have a0 := il_nlt g_2; have e0 : (0 : Int32).toInt = 0 := (by decide); omega) g_4 hn_nx7) dX7_placeOf_13 ?_
    refine lv_topi (fun x_7 ex_7 => ?_)
    refine lv_goto (tgt := 18) hx hb dX7_placeOf_14 (by decide) ?_
    have hP9 := hP.sub (ws' := [(h0, .inr (7, [.int (nI nx7), .int xx7_1, .ref ax7_2, .ref ax7_3, .ref ax7_4, .ref ax7_5, .ref ax7_6, .ref ax7_7, .ref ax7_8, .ref ax7_9, .ref ax7_10, .ref ax7_11, .ref ax7_12])), (ax7_4, .inl (cx7_4, nx7, .inl fx7_4))]) [1, 0] rfl
    have hD9 := hD.sub (ws' := [(h0, .inr (7, [.int (nI nx7), .int xx7_1, .ref ax7_2, .ref ax7_3, .ref ax7_4, .ref ax7_5, .ref ax7_6, .ref ax7_7, .ref ax7_8, .ref ax7_9, .ref ax7_10, .ref ax7_11, .ref ax7_12])), (ax7_4, .inl (cx7_4, nx7, .inl fx7_4))]) [1, 0] (by decide) rfl
    have hK9 := hK.sub (tys' := [(cx7_4, .int)]) [0] rfl
    refine W.widen (k := 0) (n := 0) (Nat.le_of_ble_eq_true rfl) (Nat.le_of_ble_eq_true rfl) ?_
    exact W.iret (v := x_7) hx hb hr (fun t ht hW => ⟨⟨x_7, (), rfl, Or.inl ((by rw [ex_7])), by rw [ht]; exact hP9, va_K.moved hW.alike hK9, hD9⟩, hS.F ht⟩) hS.2.2 dX7_placeOf_18

set_option maxRecDepth 100000 in
set_option maxHeartbeats 4000000 in
theorem s_X7_sizeOf (l : Launch) (dC : Nat → ClassId) (dI : Nat → Nat → Nat) (h0 : Nat) (nx7 : Nat) (xx7_1 : Int32) (ax7_2 : Nat) (ax7_3 : Nat) (ax7_4 : Nat) (ax7_5 : Nat) (cx7_5 : ClassId) (fx7_5 : Nat → Int32) (ax7_6 : Nat) (ax7_7 : Nat) (ax7_8 : Nat) (ax7_9 : Nat) (ax7_10 : Nat) (ax7_11 : Nat) (ax7_12 : Nat) (p0 : Int32) (hn_nx7 : nx7 < 2 ^ 31) (sz : Nat) : Met l yX7_sizeOf (.code yX7_sizeOf cX7_sizeOf 2 (some .int) :: pw) ({ frames := 1, cells := 0, slots := 0, locals := 21 }) (va_Pc [.ref h0, .int p0] (vPre dC dI [(h0, .inr (7, [.int (nI nx7), .int xx7_1, .ref ax7_2, .ref ax7_3, .ref ax7_4, .ref ax7_5, .ref ax7_6, .ref ax7_7, .ref ax7_8, .ref ax7_9, .ref ax7_10, .ref ax7_11, .ref ax7_12])), (ax7_5, .inl (cx7_5, nx7, .inl fx7_5))] [(cx7_5, .int)] sz)) (va_Qi (fun (r : Int32) (_ : Unit) => (r = (fx7_5 p0.toNatClampNeg)) ∨ (r = 0)) (fun (_ : Unit) t => vPst dC dI (va_A [(h0, .inr (7, [.int (nI nx7), .int xx7_1, .ref ax7_2, .ref ax7_3, .ref ax7_4, .ref ax7_5, .ref ax7_6, .ref ax7_7, .ref ax7_8, .ref ax7_9, .ref ax7_10, .ref ax7_11, .ref ax7_12])), (ax7_5, .inl (cx7_5, nx7, .inl fx7_5))] sz) [(h0, .inr (7, [.int (nI nx7), .int xx7_1, .ref ax7_2, .ref ax7_3, .ref ax7_4, .ref ax7_5, .ref ax7_6, .ref ax7_7, .ref ax7_8, .ref ax7_9, .ref ax7_10, .ref ax7_11, .ref ax7_12])), (ax7_5, .inl (cx7_5, nx7, .inl fx7_5))] [(cx7_5, .int)] t) (va_A [(h0, .inr (7, [.int (nI nx7), .int xx7_1, .ref ax7_2, .ref ax7_3, .ref ax7_4, .ref ax7_5, .ref ax7_6, .ref ax7_7, .ref ax7_8, .ref ax7_9, .ref ax7_10, .ref ax7_11, .ref ax7_12])), (ax7_5, .inl (cx7_5, nx7, .inl fx7_5))] sz)) 0 0 (va_A [(h0, .inr (7, [.int (nI nx7), .int xx7_1, .ref ax7_2, .ref ax7_3, .ref ax7_4, .ref ax7_5, .ref ax7_6, .ref ax7_7, .ref ax7_8, .ref ax7_9, .ref ax7_10, .ref ax7_11, .ref ax7_12])), (ax7_5, .inl (cx7_5, nx7, .inl fx7_5))] sz) := by
  refine Met.ofW (cc := cX7_sizeOf) (maxL := 2) (ret := (some .int)) (by decide) rfl ?_
  intro p e s m args below meth c s₁ B hml hv
  obtain ⟨rfl, hsz, hP, hK, hD0, hN⟩ := hv
  have hx := B.exec
  have hb := B.bytes
  have hr := B.returns
  have hts := atoms_spec (ws := .code yX7_sizeOf cX7_sizeOf 2 (some .int) :: pw) B.pre
  have hts : ∀ w ∈ pw, w.before _ s = true := fun w h => hts w (List.mem_cons_of_mem _ h)
  have hown : s.vm.findClass RX7 = some m.cls := findClass_of_methodNamed B.named
  have hlocks := B.notSynchronized
  subst hsz
  have hD := hD0.self (sz := s.heap.size)
  generalize hAe : va_A [(h0, .inr (7, [.int (nI nx7), .int xx7_1, .ref ax7_2, .ref ax7_3, .ref ax7_4, .ref ax7_5, .ref ax7_6, .ref ax7_7, .ref ax7_8, .ref ax7_9, .ref ax7_10, .ref ax7_11, .ref ax7_12])), (ax7_5, .inl (cx7_5, nx7, .inl fx7_5))] s.heap.size = A at hD ⊢
  have hA : ∀ q : Nat, s.heap.size ≤ q → A q := fun q h => by rw [← hAe]; exact Or.inr h
  have hS : va_S A s.heap s.heap [] := va_S.rf
  have hP : va_P (dC, dI) vwCl [(h0, .inr (7, [.int (nI nx7), .int xx7_1, .ref ax7_2, .ref ax7_3, .ref ax7_4, .ref ax7_5, .ref ax7_6, .ref ax7_7, .ref ax7_8, .ref ax7_9, .ref ax7_10, .ref ax7_11, .ref ax7_12])), (ax7_5, .inl (cx7_5, nx7, .inl fx7_5))] s.heap := hP
  have hl := lv_entry ([.ref h0, .int p0]) (n := 2) (Nat.le_of_ble_eq_true rfl)
  rw [lg_entry_eq]
  generalize (lg_sl ([.ref h0, .int p0]) ++ List.replicate (2 - (lg_sl ([.ref h0, .int p0])).length) Slot.unset).toArray = ls at hl ⊢
  have hl : lv_has ls 2 [(0, .ref h0), (1, .int p0)] := hl
  refine lv_aload_n hx hb dX7_sizeOf_0 rfl (lv_at hl 0 rfl) ?_
  refine lv_iload_n hx hb dX7_sizeOf_1 rfl (lv_at hl 1 rfl) ?_
  have hPc := hP.sub (ws' := [(h0, .inr (7, [.int (nI nx7), .int xx7_1, .ref ax7_2, .ref ax7_3, .ref ax7_4, .ref ax7_5, .ref ax7_6, .ref ax7_7, .ref ax7_8, .ref ax7_9, .ref ax7_10, .ref ax7_11, .ref ax7_12]))]) [0] rfl
  have hDc := hD.sub (ws' := [(h0, .inr (7, [.int (nI nx7), .int xx7_1, .ref ax7_2, .ref ax7_3, .ref ax7_4, .ref ax7_5, .ref ax7_6, .ref ax7_7, .ref ax7_8, .ref ax7_9, .ref ax7_10, .ref ax7_11, .ref ax7_12]))]) [0] (by decide) rfl
  have hKc := hK.sub (tys' := []) [] rfl
  have hFc := va_free (wc := [(h0, .inr (7, [.int (nI nx7), .int xx7_1, .ref ax7_2, .ref ax7_3, .ref ax7_4, .ref ax7_5, .ref ax7_6, .ref ax7_7, .ref ax7_8, .ref ax7_9, .ref ax7_10, .ref ax7_11, .ref ax7_12]))]) hD hS hA [0] rfl
  refine va_calli (va_runV (As := [.int p0]) (rest := []) ⟨hx, hb, hml, hown, hts⟩ (s_X7_isRow l dC dI h0 nx7 xx7_1 ax7_2 ax7_3 ax7_4 ax7_5 ax7_6 ax7_7 ax7_8 ax7_9 ax7_10 ax7_11 ax7_12 p0 hn_nx7 s.heap.size) (cwV 1 hts (gV mw_18_5 mw_18_6 mw_18_7 mw_0_11 mw_50_23) rfl rfl rfl (by decide +kernel) ⟨(Nat.le_of_ble_eq_true rfl), (Nat.le_of_ble_eq_true rfl)⟩) (vV (ci := 7) (q0 := 0) hKc hPc hDc hN rfl rfl) rfl rfl hl.1 rfl (lv_room (Nat.le_of_ble_eq_true rfl)) dX7_sizeOf_2 ⟨(Nat.le_of_ble_eq_true rfl), (Nat.le_of_ble_eq_true rfl)⟩) hS (fun q _ h => hFc q h) hFc (fun r_1 u t H1 locs ht hvm hw hB hz1 hk1 hS => ?_)
  obtain ⟨hP1, hK1, hD1⟩ := hB
  rw [ht] at hP1
  have hK1 := va_K.moved hvm.symm hK1
  obtain ⟨hP, hD⟩ := va_join (wr := [(ax7_5, .inl (cx7_5, nx7, .inl fx7_5))]) (w1 := [(h0, .inr (7, [.int (nI nx7), .int xx7_1, .ref ax7_2, .ref ax7_3, .ref ax7_4, .ref ax7_5, .ref ax7_6, .ref ax7_7, .ref ax7_8, .ref ax7_9, .ref ax7_10, .ref ax7_11, .ref ax7_12]))]) hP hD [0] [1] rfl rfl (by decide) (by decide) hk1 hFc hP1 hD1
  clear hPc hDc hKc hP1 hK1 hD1 hFc hk1 hz1
  generalize H1 = H at hP hS ⊢
  have hP : va_P (dC, dI) vwCl [(ax7_5, .inl (cx7_5, nx7, .inl fx7_5)), (h0, .inr (7, [.int (nI nx7), .int xx7_1, .ref ax7_2, .ref ax7_3, .ref ax7_4, .ref ax7_5, .ref ax7_6, .ref ax7_7, .ref ax7_8, .ref ax7_9, .ref ax7_10, .ref ax7_11, .ref ax7_12]))] H := hP
  have hD : va_D A [(ax7_5, .inl (cx7_5, nx7, .inl fx7_5)), (h0, .inr (7, [.int (nI nx7), .int xx7_1, .ref ax7_2, .ref ax7_3, .ref ax7_4, .ref ax7_5, .ref ax7_6, .ref ax7_7, .ref ax7_8, .ref ax7_9, .ref ax7_10, .ref ax7_11, .ref ax7_12]))] := hD
  rcases hw with rfl | ⟨rfl, g_2, g_3, g_4⟩
  · refine lv_if_eq (tgt := 17) hx hb dX7_sizeOf_5 (by decide) (fun _ => ?_) (fun h => absurd (by decide) h)
    refine lv_iconst (v := 0) hx hb dX7_sizeOf_17 (by decide) ?_
    have hP9 := hP.sub (ws' := [(h0, .inr (7, [.int (nI nx7), .int xx7_1, .ref ax7_2, .ref ax7_3, .ref ax7_4, .ref ax7_5, .ref ax7_6, .ref ax7_7, .ref ax7_8, .ref ax7_9, .ref ax7_10, .ref ax7_11, .ref ax7_12])), (ax7_5, .inl (cx7_5, nx7, .inl fx7_5))]) [1, 0] rfl
    have hD9 := hD.sub (ws' := [(h0, .inr (7, [.int (nI nx7), .int xx7_1, .ref ax7_2, .ref ax7_3, .ref ax7_4, .ref ax7_5, .ref ax7_6, .ref ax7_7, .ref ax7_8, .ref ax7_9, .ref ax7_10, .ref ax7_11, .ref ax7_12])), (ax7_5, .inl (cx7_5, nx7, .inl fx7_5))]) [1, 0] (by decide) rfl
    have hK9 := hK.sub (tys' := [(cx7_5, .int)]) [0] rfl
    refine W.widen (k := 0) (n := 0) (Nat.le_of_ble_eq_true rfl) (Nat.le_of_ble_eq_true rfl) ?_
    exact W.iret (v := 0) hx hb hr (fun t ht hW => ⟨⟨0, (), rfl, Or.inr (rfl), by rw [ht]; exact hP9, va_K.moved hW.alike hK9, hD9⟩, hS.F ht⟩) hS.2.2 dX7_sizeOf_18
  · refine lv_if_eq (tgt := 17) hx hb dX7_sizeOf_5 (by decide) (fun h => absurd h (by decide)) (fun _ => ?_)
    refine lv_aload_n hx hb dX7_sizeOf_8 rfl (lv_at hl 0 rfl) ?_
    refine va_get (D := (dC, dI)) (ci := 7) (v := .ref ax7_5) (C := RX7) (T := TX7) (N := 13) hx hb hts inlX7 hown hK hP 1 rfl rfl 5 (by decide) (hts (.fieldLink RX7 28 "ShapeReader$Tree" "sizes" "[I") mw_17_27) (fun _ h9 => h9) rfl dX7_sizeOf_9 ?_
    refine lv_iload_n hx hb dX7_sizeOf_12 rfl (lv_at hl 1 rfl) ?_
    refine va_iald hx hb hK hP 0 0 rfl rfl (vp_in_ltn (by have a0 := il_nlt g_2; have e0 : (0 : Int32).toInt = 0 := (by decide); omega) g_4 hn_nx7) dX7_sizeOf_13 ?_
    refine lv_topi (fun x_7 ex_7 => ?_)
    refine lv_goto (tgt := 18) hx hb dX7_sizeOf_14 (by decide) ?_
    have hP9 := hP.sub (ws' := [(h0, .inr (7, [.int (nI nx7), .int xx7_1, .ref ax7_2, .ref ax7_3, .ref ax7_4, .ref ax7_5, .ref ax7_6, .ref ax7_7, .ref ax7_8, .ref ax7_9, .ref ax7_10, .ref ax7_11, .ref ax7_12])), (ax7_5, .inl (cx7_5, nx7, .inl fx7_5))]) [1, 0] rfl
    have hD9 := hD.sub (ws' := [(h0, .inr (7, [.int (nI nx7), .int xx7_1, .ref ax7_2, .ref ax7_3, .ref ax7_4, .ref ax7_5, .ref ax7_6, .ref ax7_7, .ref ax7_8, .ref ax7_9, .ref ax7_10, .ref ax7_11, .ref ax7_12])), (ax7_5, .inl (cx7_5, nx7, .inl fx7_5))]) [1, 0] (by decide) rfl
    have hK9 := hK.sub (tys' := [(cx7_5, .int)]) [0] rfl
    refine W.widen (k := 0) (n := 0) (Nat.le_of_ble_eq_true rfl) (Nat.le_of_ble_eq_true rfl) ?_
    exact W.iret (v := x_7) hx hb hr (fun t ht hW => ⟨⟨x_7, (), rfl, Or.inl ((by rw [ex_7])), by rw [ht]; exact hP9, va_K.moved hW.alike hK9, hD9⟩, hS.F ht⟩) hS.2.2 dX7_sizeOf_18

set_option maxRecDepth 100000 in
set_option maxHeartbeats 4000000 in
theorem s_X7_isFilled (l : Launch) (dC : Nat → ClassId) (dI : Nat → Nat → Nat) (h0 : Nat) (nx7 : Nat) (xx7_1 : Int32) (ax7_2 : Nat) (ax7_3 : Nat) (ax7_4 : Nat) (ax7_5 : Nat) (ax7_6 : Nat) (cx7_6 : ClassId) (fx7_6 : Nat → Int32) (ax7_7 : Nat) (ax7_8 : Nat) (ax7_9 : Nat) (ax7_10 : Nat) (ax7_11 : Nat) (ax7_12 : Nat) (p0 : Int32) (hn_nx7 : nx7 < 2 ^ 31) (sz : Nat) : Met l yX7_isFilled (.code yX7_isFilled cX7_isFilled 2 (some .boolean) :: pw) ({ frames := 1, cells := 0, slots := 0, locals := 21 }) (va_Pc [.ref h0, .int p0] (vPre dC dI [(h0, .inr (7, [.int (nI nx7), .int xx7_1, .ref ax7_2, .ref ax7_3, .ref ax7_4, .ref ax7_5, .ref ax7_6, .ref ax7_7, .ref ax7_8, .ref ax7_9, .ref ax7_10, .ref ax7_11, .ref ax7_12])), (ax7_6, .inl (cx7_6, nx7, .inl fx7_6))] [(cx7_6, .boolean)] sz)) (va_Qi (fun (r : Int32) (_ : Unit) => (r = 0) ∨ (r = 1)) (fun (_ : Unit) t => vPst dC dI (va_A [(h0, .inr (7, [.int (nI nx7), .int xx7_1, .ref ax7_2, .ref ax7_3, .ref ax7_4, .ref ax7_5, .ref ax7_6, .ref ax7_7, .ref ax7_8, .ref ax7_9, .ref ax7_10, .ref ax7_11, .ref ax7_12])), (ax7_6, .inl (cx7_6, nx7, .inl fx7_6))] sz) [(h0, .inr (7, [.int (nI nx7), .int xx7_1, .ref ax7_2, .ref ax7_3, .ref ax7_4, .ref ax7_5, .ref ax7_6, .ref ax7_7, .ref ax7_8, .ref ax7_9, .ref ax7_10, .ref ax7_11, .ref ax7_12])), (ax7_6, .inl (cx7_6, nx7, .inl fx7_6))] [(cx7_6, .boolean)] t) (va_A [(h0, .inr (7, [.int (nI nx7), .int xx7_1, .ref ax7_2, .ref ax7_3, .ref ax7_4, .ref ax7_5, .ref ax7_6, .ref ax7_7, .ref ax7_8, .ref ax7_9, .ref ax7_10, .ref ax7_11, .ref ax7_12])), (ax7_6, .inl (cx7_6, nx7, .inl fx7_6))] sz)) 0 0 (va_A [(h0, .inr (7, [.int (nI nx7), .int xx7_1, .ref ax7_2, .ref ax7_3, .ref ax7_4, .ref ax7_5, .ref ax7_6, .ref ax7_7, .ref ax7_8, .ref ax7_9, .ref ax7_10, .ref ax7_11, .ref ax7_12])), (ax7_6, .inl (cx7_6, nx7, .inl fx7_6))] sz) := by
  refine Met.ofW (cc := cX7_isFilled) (maxL := 2) (ret := (some .boolean)) (by decide) rfl ?_
  intro p e s m args below meth c s₁ B hml hv
  obtain ⟨rfl, hsz, hP, hK, hD0, hN⟩ := hv
  have hx := B.exec
  have hb := B.bytes
  have hr := B.returns
  have hts := atoms_spec (ws := .code yX7_isFilled cX7_isFilled 2 (some .boolean) :: pw) B.pre
  have hts : ∀ w ∈ pw, w.before _ s = true := fun w h => hts w (List.mem_cons_of_mem _ h)
  have hown : s.vm.findClass RX7 = some m.cls := findClass_of_methodNamed B.named
  have hlocks := B.notSynchronized
  subst hsz
  have hD := hD0.self (sz := s.heap.size)
  generalize hAe : va_A [(h0, .inr (7, [.int (nI nx7), .int xx7_1, .ref ax7_2, .ref ax7_3, .ref ax7_4, .ref ax7_5, .ref ax7_6, .ref ax7_7, .ref ax7_8, .ref ax7_9, .ref ax7_10, .ref ax7_11, .ref ax7_12])), (ax7_6, .inl (cx7_6, nx7, .inl fx7_6))] s.heap.size = A at hD ⊢
  have hA : ∀ q : Nat, s.heap.size ≤ q → A q := fun q h => by rw [← hAe]; exact Or.inr h
  have hS : va_S A s.heap s.heap [] := va_S.rf
  have hP : va_P (dC, dI) vwCl [(h0, .inr (7, [.int (nI nx7), .int xx7_1, .ref ax7_2, .ref ax7_3, .ref ax7_4, .ref ax7_5, .ref ax7_6, .ref ax7_7, .ref ax7_8, .ref ax7_9, .ref ax7_10, .ref ax7_11, .ref ax7_12])), (ax7_6, .inl (cx7_6, nx7, .inl fx7_6))] s.heap := hP
  have hl := lv_entry ([.ref h0, .int p0]) (n := 2) (Nat.le_of_ble_eq_true rfl)
  rw [lg_entry_eq]
  generalize (lg_sl ([.ref h0, .int p0]) ++ List.replicate (2 - (lg_sl ([.ref h0, .int p0])).length) Slot.unset).toArray = ls at hl ⊢
  have hl : lv_has ls 2 [(0, .ref h0), (1, .int p0)] := hl
  refine lv_aload_n hx hb dX7_isFilled_0 rfl (lv_at hl 0 rfl) ?_
  refine lv_iload_n hx hb dX7_isFilled_1 rfl (lv_at hl 1 rfl) ?_
  have hPc := hP.sub (ws' := [(h0, .inr (7, [.int (nI nx7), .int xx7_1, .ref ax7_2, .ref ax7_3, .ref ax7_4, .ref ax7_5, .ref ax7_6, .ref ax7_7, .ref ax7_8, .ref ax7_9, .ref ax7_10, .ref ax7_11, .ref ax7_12]))]) [0] rfl
  have hDc := hD.sub (ws' := [(h0, .inr (7, [.int (nI nx7), .int xx7_1, .ref ax7_2, .ref ax7_3, .ref ax7_4, .ref ax7_5, .ref ax7_6, .ref ax7_7, .ref ax7_8, .ref ax7_9, .ref ax7_10, .ref ax7_11, .ref ax7_12]))]) [0] (by decide) rfl
  have hKc := hK.sub (tys' := []) [] rfl
  have hFc := va_free (wc := [(h0, .inr (7, [.int (nI nx7), .int xx7_1, .ref ax7_2, .ref ax7_3, .ref ax7_4, .ref ax7_5, .ref ax7_6, .ref ax7_7, .ref ax7_8, .ref ax7_9, .ref ax7_10, .ref ax7_11, .ref ax7_12]))]) hD hS hA [0] rfl
  refine va_calli (va_runV (As := [.int p0]) (rest := []) ⟨hx, hb, hml, hown, hts⟩ (s_X7_isRow l dC dI h0 nx7 xx7_1 ax7_2 ax7_3 ax7_4 ax7_5 ax7_6 ax7_7 ax7_8 ax7_9 ax7_10 ax7_11 ax7_12 p0 hn_nx7 s.heap.size) (cwV 1 hts (gV mw_18_5 mw_18_6 mw_18_7 mw_0_11 mw_50_23) rfl rfl rfl (by decide +kernel) ⟨(Nat.le_of_ble_eq_true rfl), (Nat.le_of_ble_eq_true rfl)⟩) (vV (ci := 7) (q0 := 0) hKc hPc hDc hN rfl rfl) rfl rfl hl.1 rfl (lv_room (Nat.le_of_ble_eq_true rfl)) dX7_isFilled_2 ⟨(Nat.le_of_ble_eq_true rfl), (Nat.le_of_ble_eq_true rfl)⟩) hS (fun q _ h => hFc q h) hFc (fun r_1 u t H1 locs ht hvm hw hB hz1 hk1 hS => ?_)
  obtain ⟨hP1, hK1, hD1⟩ := hB
  rw [ht] at hP1
  have hK1 := va_K.moved hvm.symm hK1
  obtain ⟨hP, hD⟩ := va_join (wr := [(ax7_6, .inl (cx7_6, nx7, .inl fx7_6))]) (w1 := [(h0, .inr (7, [.int (nI nx7), .int xx7_1, .ref ax7_2, .ref ax7_3, .ref ax7_4, .ref ax7_5, .ref ax7_6, .ref ax7_7, .ref ax7_8, .ref ax7_9, .ref ax7_10, .ref ax7_11, .ref ax7_12]))]) hP hD [0] [1] rfl rfl (by decide) (by decide) hk1 hFc hP1 hD1
  clear hPc hDc hKc hP1 hK1 hD1 hFc hk1 hz1
  generalize H1 = H at hP hS ⊢
  have hP : va_P (dC, dI) vwCl [(ax7_6, .inl (cx7_6, nx7, .inl fx7_6)), (h0, .inr (7, [.int (nI nx7), .int xx7_1, .ref ax7_2, .ref ax7_3, .ref ax7_4, .ref ax7_5, .ref ax7_6, .ref ax7_7, .ref ax7_8, .ref ax7_9, .ref ax7_10, .ref ax7_11, .ref ax7_12]))] H := hP
  have hD : va_D A [(ax7_6, .inl (cx7_6, nx7, .inl fx7_6)), (h0, .inr (7, [.int (nI nx7), .int xx7_1, .ref ax7_2, .ref ax7_3, .ref ax7_4, .ref ax7_5, .ref ax7_6, .ref ax7_7, .ref ax7_8, .ref ax7_9, .ref ax7_10, .ref ax7_11, .ref ax7_12]))] := hD
  rcases hw with rfl | ⟨rfl, g_2, g_3, g_4⟩
  · refine lv_if_eq (tgt := 21) hx hb dX7_isFilled_5 (by decide) (fun _ => ?_) (fun h => absurd (by decide) h)
    refine lv_iconst (v := 0) hx hb dX7_isFilled_21 (by decide) ?_
    have hP9 := hP.sub (ws' := [(h0, .inr (7, [.int (nI nx7), .int xx7_1, .ref ax7_2, .ref ax7_3, .ref ax7_4, .ref ax7_5, .ref ax7_6, .ref ax7_7, .ref ax7_8, .ref ax7_9, .ref ax7_10, .ref ax7_11, .ref ax7_12])), (ax7_6, .inl (cx7_6, nx7, .inl fx7_6))]) [1, 0] rfl
    have hD9 := hD.sub (ws' := [(h0, .inr (7, [.int (nI nx7), .int xx7_1, .ref ax7_2, .ref ax7_3, .ref ax7_4, .ref ax7_5, .ref ax7_6, .ref ax7_7, .ref ax7_8, .ref ax7_9, .ref ax7_10, .ref ax7_11, .ref ax7_12])), (ax7_6, .inl (cx7_6, nx7, .inl fx7_6))]) [1, 0] (by decide) rfl
    have hK9 := hK.sub (tys' := [(cx7_6, .boolean)]) [0] rfl
    refine W.widen (k := 0) (n := 0) (Nat.le_of_ble_eq_true rfl) (Nat.le_of_ble_eq_true rfl) ?_
    exact W.zret (v := 0) hx hb hr rfl (fun t ht hW => ⟨⟨0, (), rfl, Or.inl (rfl), by rw [ht]; exact hP9, va_K.moved hW.alike hK9, hD9⟩, hS.F ht⟩) hS.2.2 dX7_isFilled_22
  · refine lv_if_eq (tgt := 21) hx hb dX7_isFilled_5 (by decide) (fun h => absurd h (by decide)) (fun _ => ?_)
    refine lv_aload_n hx hb dX7_isFilled_8 rfl (lv_at hl 0 rfl) ?_
    refine va_get (D := (dC, dI)) (ci := 7) (v := .ref ax7_6) (C := RX7) (T := TX7) (N := 13) hx hb hts inlX7 hown hK hP 1 rfl rfl 6 (by decide) (hts (.fieldLink RX7 31 "ShapeReader$Tree" "filled" "[Z") mw_17_28) (fun _ h9 => h9) rfl dX7_isFilled_9 ?_
    refine lv_iload_n hx hb dX7_isFilled_12 rfl (lv_at hl 1 rfl) ?_
    refine va_zald hx hb hK hP 0 0 rfl rfl (vp_in_ltn (by have a0 := il_nlt g_2; have e0 : (0 : Int32).toInt = 0 := (by decide); omega) g_4 hn_nx7) dX7_isFilled_13 ?_
    refine lv_topi (fun x_7 ex_7 => ?_)
    refine lv_if_eq (tgt := 21) hx hb dX7_isFilled_14 (by decide) (fun c_8 => ?_) (fun c_8 => ?_)
    · refine lv_iconst (v := 0) hx hb dX7_isFilled_21 (by decide) ?_
      have hP9 := hP.sub (ws' := [(h0, .inr (7, [.int (nI nx7), .int xx7_1, .ref ax7_2, .ref ax7_3, .ref ax7_4, .ref ax7_5, .ref ax7_6, .ref ax7_7, .ref ax7_8, .ref ax7_9, .ref ax7_10, .ref ax7_11, .ref ax7_12])), (ax7_6, .inl (cx7_6, nx7, .inl fx7_6))]) [1, 0] rfl
      have hD9 := hD.sub (ws' := [(h0, .inr (7, [.int (nI nx7), .int xx7_1, .ref ax7_2, .ref ax7_3, .ref ax7_4, .ref ax7_5, .ref ax7_6, .ref ax7_7, .ref ax7_8, .ref ax7_9, .ref ax7_10, .ref ax7_11, .ref ax7_12])), (ax7_6, .inl (cx7_6, nx7, .inl fx7_6))]) [1, 0] (by decide) rfl
      have hK9 := hK.sub (tys' := [(cx7_6, .boolean)]) [0] rfl
      refine W.widen (k := 0) (n := 0) (Nat.le_of_ble_eq_true rfl) (Nat.le_of_ble_eq_true rfl) ?_
      exact W.zret (v := 0) hx hb hr rfl (fun t ht hW => ⟨⟨0, (), rfl, Or.inl (rfl), by rw [ht]; exact hP9, va_K.moved hW.alike hK9, hD9⟩, hS.F ht⟩) hS.2.2 dX7_isFilled_22
    · refine lv_iconst (v := 1) hx hb dX7_isFilled_17 (by decide) ?_
      refine lv_goto (tgt := 22) hx hb dX7_isFilled_18 (by decide) ?_
      have hP9 := hP.sub (ws' := [(h0, .inr (7, [.int (nI nx7), .int xx7_1, .ref ax7_2, .ref ax7_3, .ref ax7_4, .ref ax7_5, .ref ax7_6, .ref ax7_7, .ref ax7_8, .ref ax7_9, .ref ax7_10, .ref ax7_11, .ref ax7_12])), (ax7_6, .inl (cx7_6, nx7, .inl fx7_6))]) [1, 0] rfl
      have hD9 := hD.sub (ws' := [(h0, .inr (7, [.int (nI nx7), .int xx7_1, .ref ax7_2, .ref ax7_3, .ref ax7_4, .ref ax7_5, .ref ax7_6, .ref ax7_7, .ref ax7_8, .ref ax7_9, .ref ax7_10, .ref ax7_11, .ref ax7_12])), (ax7_6, .inl (cx7_6, nx7, .inl fx7_6))]) [1, 0] (by decide) rfl
      have hK9 := hK.sub (tys' := [(cx7_6, .boolean)]) [0] rfl
      refine W.widen (k := 0) (n := 0) (Nat.le_of_ble_eq_true rfl) (Nat.le_of_ble_eq_true rfl) ?_
      exact W.zret (v := 1) hx hb hr rfl (fun t ht hW => ⟨⟨1, (), rfl, Or.inr (rfl), by rw [ht]; exact hP9, va_K.moved hW.alike hK9, hD9⟩, hS.F ht⟩) hS.2.2 dX7_isFilled_22

set_option maxRecDepth 100000 in
set_option maxHeartbeats 4000000 in
theorem s_X7_worthOf (l : Launch) (dC : Nat → ClassId) (dI : Nat → Nat → Nat) (h0 : Nat) (nx7 : Nat) (xx7_1 : Int32) (ax7_2 : Nat) (ax7_3 : Nat) (ax7_4 : Nat) (ax7_5 : Nat) (ax7_6 : Nat) (ax7_7 : Nat) (cx7_7 : ClassId) (fx7_7 : Nat → Int64) (ax7_8 : Nat) (ax7_9 : Nat) (ax7_10 : Nat) (ax7_11 : Nat) (ax7_12 : Nat) (p0 : Int32) (hn_nx7 : nx7 < 2 ^ 31) (sz : Nat) : Met l yX7_worthOf (.code yX7_worthOf cX7_worthOf 2 (some .long) :: pw) ({ frames := 1, cells := 0, slots := 0, locals := 21 }) (va_Pc [.ref h0, .int p0] (vPre dC dI [(h0, .inr (7, [.int (nI nx7), .int xx7_1, .ref ax7_2, .ref ax7_3, .ref ax7_4, .ref ax7_5, .ref ax7_6, .ref ax7_7, .ref ax7_8, .ref ax7_9, .ref ax7_10, .ref ax7_11, .ref ax7_12])), (ax7_7, .inl (cx7_7, nx7, .inr (.inl fx7_7)))] [(cx7_7, .long)] sz)) (va_Ql (fun (r : Int64) (_ : Unit) => (r = (fx7_7 p0.toNatClampNeg)) ∨ (r = 0)) (fun (_ : Unit) t => vPst dC dI (va_A [(h0, .inr (7, [.int (nI nx7), .int xx7_1, .ref ax7_2, .ref ax7_3, .ref ax7_4, .ref ax7_5, .ref ax7_6, .ref ax7_7, .ref ax7_8, .ref ax7_9, .ref ax7_10, .ref ax7_11, .ref ax7_12])), (ax7_7, .inl (cx7_7, nx7, .inr (.inl fx7_7)))] sz) [(h0, .inr (7, [.int (nI nx7), .int xx7_1, .ref ax7_2, .ref ax7_3, .ref ax7_4, .ref ax7_5, .ref ax7_6, .ref ax7_7, .ref ax7_8, .ref ax7_9, .ref ax7_10, .ref ax7_11, .ref ax7_12])), (ax7_7, .inl (cx7_7, nx7, .inr (.inl fx7_7)))] [(cx7_7, .long)] t) (va_A [(h0, .inr (7, [.int (nI nx7), .int xx7_1, .ref ax7_2, .ref ax7_3, .ref ax7_4, .ref ax7_5, .ref ax7_6, .ref ax7_7, .ref ax7_8, .ref ax7_9, .ref ax7_10, .ref ax7_11, .ref ax7_12])), (ax7_7, .inl (cx7_7, nx7, .inr (.inl fx7_7)))] sz)) 0 0 (va_A [(h0, .inr (7, [.int (nI nx7), .int xx7_1, .ref ax7_2, .ref ax7_3, .ref ax7_4, .ref ax7_5, .ref ax7_6, .ref ax7_7, .ref ax7_8, .ref ax7_9, .ref ax7_10, .ref ax7_11, .ref ax7_12])), (ax7_7, .inl (cx7_7, nx7, .inr (.inl fx7_7)))] sz) := by
  refine Met.ofW (cc := cX7_worthOf) (maxL := 2) (ret := (some .long)) (by decide) rfl ?_
  intro p e s m args below meth c s₁ B hml hv
  obtain ⟨rfl, hsz, hP, hK, hD0, hN⟩ := hv
  have hx := B.exec
  have hb := B.bytes
  have hr := B.returns
  have hts := atoms_spec (ws := .code yX7_worthOf cX7_worthOf 2 (some .long) :: pw) B.pre
  have hts : ∀ w ∈ pw, w.before _ s = true := fun w h => hts w (List.mem_cons_of_mem _ h)
  have hown : s.vm.findClass RX7 = some m.cls := findClass_of_methodNamed B.named
  have hlocks := B.notSynchronized
  subst hsz
  have hD := hD0.self (sz := s.heap.size)
  generalize hAe : va_A [(h0, .inr (7, [.int (nI nx7), .int xx7_1, .ref ax7_2, .ref ax7_3, .ref ax7_4, .ref ax7_5, .ref ax7_6, .ref ax7_7, .ref ax7_8, .ref ax7_9, .ref ax7_10, .ref ax7_11, .ref ax7_12])), (ax7_7, .inl (cx7_7, nx7, .inr (.inl fx7_7)))] s.heap.size = A at hD ⊢
  have hA : ∀ q : Nat, s.heap.size ≤ q → A q := fun q h => by rw [← hAe]; exact Or.inr h
  have hS : va_S A s.heap s.heap [] := va_S.rf
  have hP : va_P (dC, dI) vwCl [(h0, .inr (7, [.int (nI nx7), .int xx7_1, .ref ax7_2, .ref ax7_3, .ref ax7_4, .ref ax7_5, .ref ax7_6, .ref ax7_7, .ref ax7_8, .ref ax7_9, .ref ax7_10, .ref ax7_11, .ref ax7_12])), (ax7_7, .inl (cx7_7, nx7, .inr (.inl fx7_7)))] s.heap := hP
  have hl := lv_entry ([.ref h0, .int p0]) (n := 2) (Nat.le_of_ble_eq_true rfl)
  rw [lg_entry_eq]
  generalize (lg_sl ([.ref h0, .int p0]) ++ List.replicate (2 - (lg_sl ([.ref h0, .int p0])).length) Slot.unset).toArray = ls at hl ⊢
  have hl : lv_has ls 2 [(0, .ref h0), (1, .int p0)] := hl
  refine lv_aload_n hx hb dX7_worthOf_0 rfl (lv_at hl 0 rfl) ?_
  refine lv_iload_n hx hb dX7_worthOf_1 rfl (lv_at hl 1 rfl) ?_
  have hPc := hP.sub (ws' := [(h0, .inr (7, [.int (nI nx7), .int xx7_1, .ref ax7_2, .ref ax7_3, .ref ax7_4, .ref ax7_5, .ref ax7_6, .ref ax7_7, .ref ax7_8, .ref ax7_9, .ref ax7_10, .ref ax7_11, .ref ax7_12]))]) [0] rfl
  have hDc := hD.sub (ws' := [(h0, .inr (7, [.int (nI nx7), .int xx7_1, .ref ax7_2, .ref ax7_3, .ref ax7_4, .ref ax7_5, .ref ax7_6, .ref ax7_7, .ref ax7_8, .ref ax7_9, .ref ax7_10, .ref ax7_11, .ref ax7_12]))]) [0] (by decide) rfl
  have hKc := hK.sub (tys' := []) [] rfl
  have hFc := va_free (wc := [(h0, .inr (7, [.int (nI nx7), .int xx7_1, .ref ax7_2, .ref ax7_3, .ref ax7_4, .ref ax7_5, .ref ax7_6, .ref ax7_7, .ref ax7_8, .ref ax7_9, .ref ax7_10, .ref ax7_11, .ref ax7_12]))]) hD hS hA [0] rfl
  refine va_calli (va_runV (As := [.int p0]) (rest := []) ⟨hx, hb, hml, hown, hts⟩ (s_X7_isRow l dC dI h0 nx7 xx7_1 ax7_2 ax7_3 ax7_4 ax7_5 ax7_6 ax7_7 ax7_8 ax7_9 ax7_10 ax7_11 ax7_12 p0 hn_nx7 s.heap.size) (cwV 1 hts (gV mw_18_5 mw_18_6 mw_18_7 mw_0_11 mw_50_23) rfl rfl rfl (by decide +kernel) ⟨(Nat.le_of_ble_eq_true rfl), (Nat.le_of_ble_eq_true rfl)⟩) (vV (ci := 7) (q0 := 0) hKc hPc hDc hN rfl rfl) rfl rfl hl.1 rfl (lv_room (Nat.le_of_ble_eq_true rfl)) dX7_worthOf_2 ⟨(Nat.le_of_ble_eq_true rfl), (Nat.le_of_ble_eq_true rfl)⟩) hS (fun q _ h => hFc q h) hFc (fun r_1 u t H1 locs ht hvm hw hB hz1 hk1 hS => ?_)
  obtain ⟨hP1, hK1, hD1⟩ := hB
  rw [ht] at hP1
  have hK1 := va_K.moved hvm.symm hK1
  obtain ⟨hP, hD⟩ := va_join (wr := [(ax7_7, .inl (cx7_7, nx7, .inr (.inl fx7_7)))]) (w1 := [(h0, .inr (7, [.int (nI nx7), .int xx7_1, .ref ax7_2, .ref ax7_3, .ref ax7_4, .ref ax7_5, .ref ax7_6, .ref ax7_7, .ref ax7_8, .ref ax7_9, .ref ax7_10, .ref ax7_11, .ref ax7_12]))]) hP hD [0] [1] rfl rfl (by decide) (by decide) hk1 hFc hP1 hD1
  clear hPc hDc hKc hP1 hK1 hD1 hFc hk1 hz1
  generalize H1 = H at hP hS ⊢
  have hP : va_P (dC, dI) vwCl [(ax7_7, .inl (cx7_7, nx7, .inr (.inl fx7_7))), (h0, .inr (7, [.int (nI nx7), .int xx7_1, .ref ax7_2, .ref ax7_3, .ref ax7_4, .ref ax7_5, .ref ax7_6, .ref ax7_7, .ref ax7_8, .ref ax7_9, .ref ax7_10, .ref ax7_11, .ref ax7_12]))] H := hP
  have hD : va_D A [(ax7_7, .inl (cx7_7, nx7, .inr (.inl fx7_7))), (h0, .inr (7, [.int (nI nx7), .int xx7_1, .ref ax7_2, .ref ax7_3, .ref ax7_4, .ref ax7_5, .ref ax7_6, .ref ax7_7, .ref ax7_8, .ref ax7_9, .ref ax7_10, .ref ax7_11, .ref ax7_12]))] := hD
  rcases hw with rfl | ⟨rfl, g_2, g_3, g_4⟩
  · refine lv_if_eq (tgt := 17) hx hb dX7_worthOf_5 (by decide) (fun _ => ?_) (fun h => absurd (by decide) h)
    refine lv_lconst (v := 0) hx hb dX7_worthOf_17 (by decide) ?_
    have hP9 := hP.sub (ws' := [(h0, .inr (7, [.int (nI nx7), .int xx7_1, .ref ax7_2, .ref ax7_3, .ref ax7_4, .ref ax7_5, .ref ax7_6, .ref ax7_7, .ref ax7_8, .ref ax7_9, .ref ax7_10, .ref ax7_11, .ref ax7_12])), (ax7_7, .inl (cx7_7, nx7, .inr (.inl fx7_7)))]) [1, 0] rfl
    have hD9 := hD.sub (ws' := [(h0, .inr (7, [.int (nI nx7), .int xx7_1, .ref ax7_2, .ref ax7_3, .ref ax7_4, .ref ax7_5, .ref ax7_6, .ref ax7_7, .ref ax7_8, .ref ax7_9, .ref ax7_10, .ref ax7_11, .ref ax7_12])), (ax7_7, .inl (cx7_7, nx7, .inr (.inl fx7_7)))]) [1, 0] (by decide) rfl
    have hK9 := hK.sub (tys' := [(cx7_7, .long)]) [0] rfl
    refine W.widen (k := 0) (n := 0) (Nat.le_of_ble_eq_true rfl) (Nat.le_of_ble_eq_true rfl) ?_
    exact W.lret (v := 0) hx hb hr (fun t ht hW => ⟨⟨0, (), rfl, Or.inr (rfl), by rw [ht]; exact hP9, va_K.moved hW.alike hK9, hD9⟩, hS.F ht⟩) hS.2.2 dX7_worthOf_18
  · refine lv_if_eq (tgt := 17) hx hb dX7_worthOf_5 (by decide) (fun h => absurd h (by decide)) (fun _ => ?_)
    refine lv_aload_n hx hb dX7_worthOf_8 rfl (lv_at hl 0 rfl) ?_
    refine va_get (D := (dC, dI)) (ci := 7) (v := .ref ax7_7) (C := RX7) (T := TX7) (N := 13) hx hb hts inlX7 hown hK hP 1 rfl rfl 7 (by decide) (hts (.fieldLink RX7 35 "ShapeReader$Tree" "worths" "[J") mw_17_29) (fun _ h9 => h9) rfl dX7_worthOf_9 ?_
    refine lv_iload_n hx hb dX7_worthOf_12 rfl (lv_at hl 1 rfl) ?_
    refine va_lald hx hb hK hP 0 0 rfl rfl (vp_in_ltn (by have a0 := il_nlt g_2; have e0 : (0 : Int32).toInt = 0 := (by decide); omega) g_4 hn_nx7) dX7_worthOf_13 ?_
    refine lv_topl (fun x_7 ex_7 => ?_)
    refine lv_goto (tgt := 18) hx hb dX7_worthOf_14 (by decide) ?_
    have hP9 := hP.sub (ws' := [(h0, .inr (7, [.int (nI nx7), .int xx7_1, .ref ax7_2, .ref ax7_3, .ref ax7_4, .ref ax7_5, .ref ax7_6, .ref ax7_7, .ref ax7_8, .ref ax7_9, .ref ax7_10, .ref ax7_11, .ref ax7_12])), (ax7_7, .inl (cx7_7, nx7, .inr (.inl fx7_7)))]) [1, 0] rfl
    have hD9 := hD.sub (ws' := [(h0, .inr (7, [.int (nI nx7), .int xx7_1, .ref ax7_2, .ref ax7_3, .ref ax7_4, .ref ax7_5, .ref ax7_6, .ref ax7_7, .ref ax7_8, .ref ax7_9, .ref ax7_10, .ref ax7_11, .ref ax7_12])), (ax7_7, .inl (cx7_7, nx7, .inr (.inl fx7_7)))]) [1, 0] (by decide) rfl
    have hK9 := hK.sub (tys' := [(cx7_7, .long)]) [0] rfl
    refine W.widen (k := 0) (n := 0) (Nat.le_of_ble_eq_true rfl) (Nat.le_of_ble_eq_true rfl) ?_
    exact W.lret (v := x_7) hx hb hr (fun t ht hW => ⟨⟨x_7, (), rfl, Or.inl ((by rw [ex_7])), by rw [ht]; exact hP9, va_K.moved hW.alike hK9, hD9⟩, hS.F ht⟩) hS.2.2 dX7_worthOf_18

set_option maxRecDepth 100000 in
set_option maxHeartbeats 4000000 in
theorem s_X7_firstOf (l : Launch) (dC : Nat → ClassId) (dI : Nat → Nat → Nat) (h0 : Nat) (nx7 : Nat) (xx7_1 : Int32) (ax7_2 : Nat) (ax7_3 : Nat) (ax7_4 : Nat) (ax7_5 : Nat) (ax7_6 : Nat) (ax7_7 : Nat) (ax7_8 : Nat) (cx7_8 : ClassId) (fx7_8 : Nat → Int32) (ax7_9 : Nat) (ax7_10 : Nat) (ax7_11 : Nat) (ax7_12 : Nat) (p0 : Int32) (hn_nx7 : nx7 < 2 ^ 31) (sz : Nat) : Met l yX7_firstOf (.code yX7_firstOf cX7_firstOf 2 (some .int) :: pw) ({ frames := 1, cells := 0, slots := 0, locals := 21 }) (va_Pc [.ref h0, .int p0] (vPre dC dI [(h0, .inr (7, [.int (nI nx7), .int xx7_1, .ref ax7_2, .ref ax7_3, .ref ax7_4, .ref ax7_5, .ref ax7_6, .ref ax7_7, .ref ax7_8, .ref ax7_9, .ref ax7_10, .ref ax7_11, .ref ax7_12])), (ax7_8, .inl (cx7_8, nx7, .inl fx7_8))] [(cx7_8, .int)] sz)) (va_Qi (fun (r : Int32) (_ : Unit) => (r = (fx7_8 p0.toNatClampNeg)) ∨ (r = (-1))) (fun (_ : Unit) t => vPst dC dI (va_A [(h0, .inr (7, [.int (nI nx7), .int xx7_1, .ref ax7_2, .ref ax7_3, .ref ax7_4, .ref ax7_5, .ref ax7_6, .ref ax7_7, .ref ax7_8, .ref ax7_9, .ref ax7_10, .ref ax7_11, .ref ax7_12])), (ax7_8, .inl (cx7_8, nx7, .inl fx7_8))] sz) [(h0, .inr (7, [.int (nI nx7), .int xx7_1, .ref ax7_2, .ref ax7_3, .ref ax7_4, .ref ax7_5, .ref ax7_6, .ref ax7_7, .ref ax7_8, .ref ax7_9, .ref ax7_10, .ref ax7_11, .ref ax7_12])), (ax7_8, .inl (cx7_8, nx7, .inl fx7_8))] [(cx7_8, .int)] t) (va_A [(h0, .inr (7, [.int (nI nx7), .int xx7_1, .ref ax7_2, .ref ax7_3, .ref ax7_4, .ref ax7_5, .ref ax7_6, .ref ax7_7, .ref ax7_8, .ref ax7_9, .ref ax7_10, .ref ax7_11, .ref ax7_12])), (ax7_8, .inl (cx7_8, nx7, .inl fx7_8))] sz)) 0 0 (va_A [(h0, .inr (7, [.int (nI nx7), .int xx7_1, .ref ax7_2, .ref ax7_3, .ref ax7_4, .ref ax7_5, .ref ax7_6, .ref ax7_7, .ref ax7_8, .ref ax7_9, .ref ax7_10, .ref ax7_11, .ref ax7_12])), (ax7_8, .inl (cx7_8, nx7, .inl fx7_8))] sz) := by
  refine Met.ofW (cc := cX7_firstOf) (maxL := 2) (ret := (some .int)) (by decide) rfl ?_
  intro p e s m args below meth c s₁ B hml hv
  obtain ⟨rfl, hsz, hP, hK, hD0, hN⟩ := hv
  have hx := B.exec
  have hb := B.bytes
  have hr := B.returns
  have hts := atoms_spec (ws := .code yX7_firstOf cX7_firstOf 2 (some .int) :: pw) B.pre
  have hts : ∀ w ∈ pw, w.before _ s = true := fun w h => hts w (List.mem_cons_of_mem _ h)
  have hown : s.vm.findClass RX7 = some m.cls := findClass_of_methodNamed B.named
  have hlocks := B.notSynchronized
  subst hsz
  have hD := hD0.self (sz := s.heap.size)
  generalize hAe : va_A [(h0, .inr (7, [.int (nI nx7), .int xx7_1, .ref ax7_2, .ref ax7_3, .ref ax7_4, .ref ax7_5, .ref ax7_6, .ref ax7_7, .ref ax7_8, .ref ax7_9, .ref ax7_10, .ref ax7_11, .ref ax7_12])), (ax7_8, .inl (cx7_8, nx7, .inl fx7_8))] s.heap.size = A at hD ⊢
  have hA : ∀ q : Nat, s.heap.size ≤ q → A q := fun q h => by rw [← hAe]; exact Or.inr h
  have hS : va_S A s.heap s.heap [] := va_S.rf
  have hP : va_P (dC, dI) vwCl [(h0, .inr (7, [.int (nI nx7), .int xx7_1, .ref ax7_2, .ref ax7_3, .ref ax7_4, .ref ax7_5, .ref ax7_6, .ref ax7_7, .ref ax7_8, .ref ax7_9, .ref ax7_10, .ref ax7_11, .ref ax7_12])), (ax7_8, .inl (cx7_8, nx7, .inl fx7_8))] s.heap := hP
  have hl := lv_entry ([.ref h0, .int p0]) (n := 2) (Nat.le_of_ble_eq_true rfl)
  rw [lg_entry_eq]
  generalize (lg_sl ([.ref h0, .int p0]) ++ List.replicate (2 - (lg_sl ([.ref h0, .int p0])).length) Slot.unset).toArray = ls at hl ⊢
  have hl : lv_has ls 2 [(0, .ref h0), (1, .int p0)] := hl
  refine lv_aload_n hx hb dX7_firstOf_0 rfl (lv_at hl 0 rfl) ?_
  refine lv_iload_n hx hb dX7_firstOf_1 rfl (lv_at hl 1 rfl) ?_
  have hPc := hP.sub (ws' := [(h0, .inr (7, [.int (nI nx7), .int xx7_1, .ref ax7_2, .ref ax7_3, .ref ax7_4, .ref ax7_5, .ref ax7_6, .ref ax7_7, .ref ax7_8, .ref ax7_9, .ref ax7_10, .ref ax7_11, .ref ax7_12]))]) [0] rfl
  have hDc := hD.sub (ws' := [(h0, .inr (7, [.int (nI nx7), .int xx7_1, .ref ax7_2, .ref ax7_3, .ref ax7_4, .ref ax7_5, .ref ax7_6, .ref ax7_7, .ref ax7_8, .ref ax7_9, .ref ax7_10, .ref ax7_11, .ref ax7_12]))]) [0] (by decide) rfl
  have hKc := hK.sub (tys' := []) [] rfl
  have hFc := va_free (wc := [(h0, .inr (7, [.int (nI nx7), .int xx7_1, .ref ax7_2, .ref ax7_3, .ref ax7_4, .ref ax7_5, .ref ax7_6, .ref ax7_7, .ref ax7_8, .ref ax7_9, .ref ax7_10, .ref ax7_11, .ref ax7_12]))]) hD hS hA [0] rfl
  refine va_calli (va_runV (As := [.int p0]) (rest := []) ⟨hx, hb, hml, hown, hts⟩ (s_X7_isRow l dC dI h0 nx7 xx7_1 ax7_2 ax7_3 ax7_4 ax7_5 ax7_6 ax7_7 ax7_8 ax7_9 ax7_10 ax7_11 ax7_12 p0 hn_nx7 s.heap.size) (cwV 1 hts (gV mw_18_5 mw_18_6 mw_18_7 mw_0_11 mw_50_23) rfl rfl rfl (by decide +kernel) ⟨(Nat.le_of_ble_eq_true rfl), (Nat.le_of_ble_eq_true rfl)⟩) (vV (ci := 7) (q0 := 0) hKc hPc hDc hN rfl rfl) rfl rfl hl.1 rfl (lv_room (Nat.le_of_ble_eq_true rfl)) dX7_firstOf_2 ⟨(Nat.le_of_ble_eq_true rfl), (Nat.le_of_ble_eq_true rfl)⟩) hS (fun q _ h => hFc q h) hFc (fun r_1 u t H1 locs ht hvm hw hB hz1 hk1 hS => ?_)
  obtain ⟨hP1, hK1, hD1⟩ := hB
  rw [ht] at hP1
  have hK1 := va_K.moved hvm.symm hK1
  obtain ⟨hP, hD⟩ := va_join (wr := [(ax7_8, .inl (cx7_8, nx7, .inl fx7_8))]) (w1 := [(h0, .inr (7, [.int (nI nx7), .int xx7_1, .ref ax7_2, .ref ax7_3, .ref ax7_4, .ref ax7_5, .ref ax7_6, .ref ax7_7, .ref ax7_8, .ref ax7_9, .ref ax7_10, .ref ax7_11, .ref ax7_12]))]) hP hD [0] [1] rfl rfl (by decide) (by decide) hk1 hFc hP1 hD1
  clear hPc hDc hKc hP1 hK1 hD1 hFc hk1 hz1
  generalize H1 = H at hP hS ⊢
  have hP : va_P (dC, dI) vwCl [(ax7_8, .inl (cx7_8, nx7, .inl fx7_8)), (h0, .inr (7, [.int (nI nx7), .int xx7_1, .ref ax7_2, .ref ax7_3, .ref ax7_4, .ref ax7_5, .ref ax7_6, .ref ax7_7, .ref ax7_8, .ref ax7_9, .ref ax7_10, .ref ax7_11, .ref ax7_12]))] H := hP
  have hD : va_D A [(ax7_8, .inl (cx7_8, nx7, .inl fx7_8)), (h0, .inr (7, [.int (nI nx7), .int xx7_1, .ref ax7_2, .ref ax7_3, .ref ax7_4, .ref ax7_5, .ref ax7_6, .ref ax7_7, .ref ax7_8, .ref ax7_9, .ref ax7_10, .ref ax7_11, .ref ax7_12]))] := hD
  rcases hw with rfl | ⟨rfl, g_2, g_3, g_4⟩
  · refine lv_if_eq (tgt := 17) hx hb dX7_firstOf_5 (by decide) (fun _ => ?_) (fun h => absurd (by decide) h)
    refine lv_iconst (v := (-1)) hx hb dX7_firstOf_17 (by decide) ?_
    have hP9 := hP.sub (ws' := [(h0, .inr (7, [.int (nI nx7), .int xx7_1, .ref ax7_2, .ref ax7_3, .ref ax7_4, .ref ax7_5, .ref ax7_6, .ref ax7_7, .ref ax7_8, .ref ax7_9, .ref ax7_10, .ref ax7_11, .ref ax7_12])), (ax7_8, .inl (cx7_8, nx7, .inl fx7_8))]) [1, 0] rfl
    have hD9 := hD.sub (ws' := [(h0, .inr (7, [.int (nI nx7), .int xx7_1, .ref ax7_2, .ref ax7_3, .ref ax7_4, .ref ax7_5, .ref ax7_6, .ref ax7_7, .ref ax7_8, .ref ax7_9, .ref ax7_10, .ref ax7_11, .ref ax7_12])), (ax7_8, .inl (cx7_8, nx7, .inl fx7_8))]) [1, 0] (by decide) rfl
    have hK9 := hK.sub (tys' := [(cx7_8, .int)]) [0] rfl
    refine W.widen (k := 0) (n := 0) (Nat.le_of_ble_eq_true rfl) (Nat.le_of_ble_eq_true rfl) ?_
    exact W.iret (v := (-1)) hx hb hr (fun t ht hW => ⟨⟨(-1), (), rfl, Or.inr (rfl), by rw [ht]; exact hP9, va_K.moved hW.alike hK9, hD9⟩, hS.F ht⟩) hS.2.2 dX7_firstOf_18
  · refine lv_if_eq (tgt := 17) hx hb dX7_firstOf_5 (by decide) (fun h => absurd h (by decide)) (fun _ => ?_)
    refine lv_aload_n hx hb dX7_firstOf_8 rfl (lv_at hl 0 rfl) ?_
    refine va_get (D := (dC, dI)) (ci := 7) (v := .ref ax7_8) (C := RX7) (T := TX7) (N := 13) hx hb hts inlX7 hown hK hP 1 rfl rfl 8 (by decide) (hts (.fieldLink RX7 39 "ShapeReader$Tree" "firsts" "[I") mw_18_0) (fun _ h9 => h9) rfl dX7_firstOf_9 ?_
    refine lv_iload_n hx hb dX7_firstOf_12 rfl (lv_at hl 1 rfl) ?_
    refine va_iald hx hb hK hP 0 0 rfl rfl (vp_in_ltn (by have a0 := il_nlt g_2; have e0 : (0 : Int32).toInt = 0 := (by decide); omega) g_4 hn_nx7) dX7_firstOf_13 ?_
    refine lv_topi (fun x_7 ex_7 => ?_)
    refine lv_goto (tgt := 18) hx hb dX7_firstOf_14 (by decide) ?_
    have hP9 := hP.sub (ws' := [(h0, .inr (7, [.int (nI nx7), .int xx7_1, .ref ax7_2, .ref ax7_3, .ref ax7_4, .ref ax7_5, .ref ax7_6, .ref ax7_7, .ref ax7_8, .ref ax7_9, .ref ax7_10, .ref ax7_11, .ref ax7_12])), (ax7_8, .inl (cx7_8, nx7, .inl fx7_8))]) [1, 0] rfl
    have hD9 := hD.sub (ws' := [(h0, .inr (7, [.int (nI nx7), .int xx7_1, .ref ax7_2, .ref ax7_3, .ref ax7_4, .ref ax7_5, .ref ax7_6, .ref ax7_7, .ref ax7_8, .ref ax7_9, .ref ax7_10, .ref ax7_11, .ref ax7_12])), (ax7_8, .inl (cx7_8, nx7, .inl fx7_8))]) [1, 0] (by decide) rfl
    have hK9 := hK.sub (tys' := [(cx7_8, .int)]) [0] rfl
    refine W.widen (k := 0) (n := 0) (Nat.le_of_ble_eq_true rfl) (Nat.le_of_ble_eq_true rfl) ?_
    exact W.iret (v := x_7) hx hb hr (fun t ht hW => ⟨⟨x_7, (), rfl, Or.inl ((by rw [ex_7])), by rw [ht]; exact hP9, va_K.moved hW.alike hK9, hD9⟩, hS.F ht⟩) hS.2.2 dX7_firstOf_18

set_option maxRecDepth 100000 in
set_option maxHeartbeats 4000000 in
theorem s_X7_nextOf (l : Launch) (dC : Nat → ClassId) (dI : Nat → Nat → Nat) (h0 : Nat) (nx7 : Nat) (xx7_1 : Int32) (ax7_2 : Nat) (ax7_3 : Nat) (ax7_4 : Nat) (ax7_5 : Nat) (ax7_6 : Nat) (ax7_7 : Nat) (ax7_8 : Nat) (ax7_9 : Nat) (ax7_10 : Nat) (cx7_10 : ClassId) (fx7_10 : Nat → Int32) (ax7_11 : Nat) (ax7_12 : Nat) (p0 : Int32) (hn_nx7 : nx7 < 2 ^ 31) (sz : Nat) : Met l yX7_nextOf (.code yX7_nextOf cX7_nextOf 2 (some .int) :: pw) ({ frames := 1, cells := 0, slots := 0, locals := 21 }) (va_Pc [.ref h0, .int p0] (vPre dC dI [(h0, .inr (7, [.int (nI nx7), .int xx7_1, .ref ax7_2, .ref ax7_3, .ref ax7_4, .ref ax7_5, .ref ax7_6, .ref ax7_7, .ref ax7_8, .ref ax7_9, .ref ax7_10, .ref ax7_11, .ref ax7_12])), (ax7_10, .inl (cx7_10, nx7, .inl fx7_10))] [(cx7_10, .int)] sz)) (va_Qi (fun (r : Int32) (_ : Unit) => (r = (fx7_10 p0.toNatClampNeg)) ∨ (r = (-1))) (fun (_ : Unit) t => vPst dC dI (va_A [(h0, .inr (7, [.int (nI nx7), .int xx7_1, .ref ax7_2, .ref ax7_3, .ref ax7_4, .ref ax7_5, .ref ax7_6, .ref ax7_7, .ref ax7_8, .ref ax7_9, .ref ax7_10, .ref ax7_11, .ref ax7_12])), (ax7_10, .inl (cx7_10, nx7, .inl fx7_10))] sz) [(h0, .inr (7, [.int (nI nx7), .int xx7_1, .ref ax7_2, .ref ax7_3, .ref ax7_4, .ref ax7_5, .ref ax7_6, .ref ax7_7, .ref ax7_8, .ref ax7_9, .ref ax7_10, .ref ax7_11, .ref ax7_12])), (ax7_10, .inl (cx7_10, nx7, .inl fx7_10))] [(cx7_10, .int)] t) (va_A [(h0, .inr (7, [.int (nI nx7), .int xx7_1, .ref ax7_2, .ref ax7_3, .ref ax7_4, .ref ax7_5, .ref ax7_6, .ref ax7_7, .ref ax7_8, .ref ax7_9, .ref ax7_10, .ref ax7_11, .ref ax7_12])), (ax7_10, .inl (cx7_10, nx7, .inl fx7_10))] sz)) 0 0 (va_A [(h0, .inr (7, [.int (nI nx7), .int xx7_1, .ref ax7_2, .ref ax7_3, .ref ax7_4, .ref ax7_5, .ref ax7_6, .ref ax7_7, .ref ax7_8, .ref ax7_9, .ref ax7_10, .ref ax7_11, .ref ax7_12])), (ax7_10, .inl (cx7_10, nx7, .inl fx7_10))] sz) := by
  refine Met.ofW (cc := cX7_nextOf) (maxL := 2) (ret := (some .int)) (by decide) rfl ?_
  intro p e s m args below meth c s₁ B hml hv
  obtain ⟨rfl, hsz, hP, hK, hD0, hN⟩ := hv
  have hx := B.exec
  have hb := B.bytes
  have hr := B.returns
  have hts := atoms_spec (ws := .code yX7_nextOf cX7_nextOf 2 (some .int) :: pw) B.pre
  have hts : ∀ w ∈ pw, w.before _ s = true := fun w h => hts w (List.mem_cons_of_mem _ h)
  have hown : s.vm.findClass RX7 = some m.cls := findClass_of_methodNamed B.named
  have hlocks := B.notSynchronized
  subst hsz
  have hD := hD0.self (sz := s.heap.size)
  generalize hAe : va_A [(h0, .inr (7, [.int (nI nx7), .int xx7_1, .ref ax7_2, .ref ax7_3, .ref ax7_4, .ref ax7_5, .ref ax7_6, .ref ax7_7, .ref ax7_8, .ref ax7_9, .ref ax7_10, .ref ax7_11, .ref ax7_12])), (ax7_10, .inl (cx7_10, nx7, .inl fx7_10))] s.heap.size = A at hD ⊢
  have hA : ∀ q : Nat, s.heap.size ≤ q → A q := fun q h => by rw [← hAe]; exact Or.inr h
  have hS : va_S A s.heap s.heap [] := va_S.rf
  have hP : va_P (dC, dI) vwCl [(h0, .inr (7, [.int (nI nx7), .int xx7_1, .ref ax7_2, .ref ax7_3, .ref ax7_4, .ref ax7_5, .ref ax7_6, .ref ax7_7, .ref ax7_8, .ref ax7_9, .ref ax7_10, .ref ax7_11, .ref ax7_12])), (ax7_10, .inl (cx7_10, nx7, .inl fx7_10))] s.heap := hP
  have hl := lv_entry ([.ref h0, .int p0]) (n := 2) (Nat.le_of_ble_eq_true rfl)
  rw [lg_entry_eq]
  generalize (lg_sl ([.ref h0, .int p0]) ++ List.replicate (2 - (lg_sl ([.ref h0, .int p0])).length) Slot.unset).toArray = ls at hl ⊢
  have hl : lv_has ls 2 [(0, .ref h0), (1, .int p0)] := hl
  refine lv_aload_n hx hb dX7_nextOf_0 rfl (lv_at hl 0 rfl) ?_
  refine lv_iload_n hx hb dX7_nextOf_1 rfl (lv_at hl 1 rfl) ?_
  have hPc := hP.sub (ws' := [(h0, .inr (7, [.int (nI nx7), .int xx7_1, .ref ax7_2, .ref ax7_3, .ref ax7_4, .ref ax7_5, .ref ax7_6, .ref ax7_7, .ref ax7_8, .ref ax7_9, .ref ax7_10, .ref ax7_11, .ref ax7_12]))]) [0] rfl
  have hDc := hD.sub (ws' := [(h0, .inr (7, [.int (nI nx7), .int xx7_1, .ref ax7_2, .ref ax7_3, .ref ax7_4, .ref ax7_5, .ref ax7_6, .ref ax7_7, .ref ax7_8, .ref ax7_9, .ref ax7_10, .ref ax7_11, .ref ax7_12]))]) [0] (by decide) rfl
  have hKc := hK.sub (tys' := []) [] rfl
  have hFc := va_free (wc := [(h0, .inr (7, [.int (nI nx7), .int xx7_1, .ref ax7_2, .ref ax7_3, .ref ax7_4, .ref ax7_5, .ref ax7_6, .ref ax7_7, .ref ax7_8, .ref ax7_9, .ref ax7_10, .ref ax7_11, .ref ax7_12]))]) hD hS hA [0] rfl
  refine va_calli (va_runV (As := [.int p0]) (rest := []) ⟨hx, hb, hml, hown, hts⟩ (s_X7_isRow l dC dI h0 nx7 xx7_1 ax7_2 ax7_3 ax7_4 ax7_5 ax7_6 ax7_7 ax7_8 ax7_9 ax7_10 ax7_11 ax7_12 p0 hn_nx7 s.heap.size) (cwV 1 hts (gV mw_18_5 mw_18_6 mw_18_7 mw_0_11 mw_50_23) rfl rfl rfl (by decide +kernel) ⟨(Nat.le_of_ble_eq_true rfl), (Nat.le_of_ble_eq_true rfl)⟩) (vV (ci := 7) (q0 := 0) hKc hPc hDc hN rfl rfl) rfl rfl hl.1 rfl (lv_room (Nat.le_of_ble_eq_true rfl)) dX7_nextOf_2 ⟨(Nat.le_of_ble_eq_true rfl), (Nat.le_of_ble_eq_true rfl)⟩) hS (fun q _ h => hFc q h) hFc (fun r_1 u t H1 locs ht hvm hw hB hz1 hk1 hS => ?_)
  obtain ⟨hP1, hK1, hD1⟩ := hB
  rw [ht] at hP1
  have hK1 := va_K.moved hvm.symm hK1
  obtain ⟨hP, hD⟩ := va_join (wr := [(ax7_10, .inl (cx7_10, nx7, .inl fx7_10))]) (w1 := [(h0, .inr (7, [.int (nI nx7), .int xx7_1, .ref ax7_2, .ref ax7_3, .ref ax7_4, .ref ax7_5, .ref ax7_6, .ref ax7_7, .ref ax7_8, .ref ax7_9, .ref ax7_10, .ref ax7_11, .ref ax7_12]))]) hP hD [0] [1] rfl rfl (by decide) (by decide) hk1 hFc hP1 hD1
  clear hPc hDc hKc hP1 hK1 hD1 hFc hk1 hz1
  generalize H1 = H at hP hS ⊢
  have hP : va_P (dC, dI) vwCl [(ax7_10, .inl (cx7_10, nx7, .inl fx7_10)), (h0, .inr (7, [.int (nI nx7), .int xx7_1, .ref ax7_2, .ref ax7_3, .ref ax7_4, .ref ax7_5, .ref ax7_6, .ref ax7_7, .ref ax7_8, .ref ax7_9, .ref ax7_10, .ref ax7_11, .ref ax7_12]))] H := hP
  have hD : va_D A [(ax7_10, .inl (cx7_10, nx7, .inl fx7_10)), (h0, .inr (7, [.int (nI nx7), .int xx7_1, .ref ax7_2, .ref ax7_3, .ref ax7_4, .ref ax7_5, .ref ax7_6, .ref ax7_7, .ref ax7_8, .ref ax7_9, .ref ax7_10, .ref ax7_11, .ref ax7_12]))] := hD
  rcases hw with rfl | ⟨rfl, g_2, g_3, g_4⟩
  · refine lv_if_eq (tgt := 17) hx hb dX7_nextOf_5 (by decide) (fun _ => ?_) (fun h => absurd (by decide) h)
    refine lv_iconst (v := (-1)) hx hb dX7_nextOf_17 (by decide) ?_
    have hP9 := hP.sub (ws' := [(h0, .inr (7, [.int (nI nx7), .int xx7_1, .ref ax7_2, .ref ax7_3, .ref ax7_4, .ref ax7_5, .ref ax7_6, .ref ax7_7, .ref ax7_8, .ref ax7_9, .ref ax7_10, .ref ax7_11, .ref ax7_12])), (ax7_10, .inl (cx7_10, nx7, .inl fx7_10))]) [1, 0] rfl
    have hD9 := hD.sub (ws' := [(h0, .inr (7, [.int (nI nx7), .int xx7_1, .ref ax7_2, .ref ax7_3, .ref ax7_4, .ref ax7_5, .ref ax7_6, .ref ax7_7, .ref ax7_8, .ref ax7_9, .ref ax7_10, .ref ax7_11, .ref ax7_12])), (ax7_10, .inl (cx7_10, nx7, .inl fx7_10))]) [1, 0] (by decide) rfl
    have hK9 := hK.sub (tys' := [(cx7_10, .int)]) [0] rfl
    refine W.widen (k := 0) (n := 0) (Nat.le_of_ble_eq_true rfl) (Nat.le_of_ble_eq_true rfl) ?_
    exact W.iret (v := (-1)) hx hb hr (fun t ht hW => ⟨⟨(-1), (), rfl, Or.inr (rfl), by rw [ht]; exact hP9, va_K.moved hW.alike hK9, hD9⟩, hS.F ht⟩) hS.2.2 dX7_nextOf_18
  · refine lv_if_eq (tgt := 17) hx hb dX7_nextOf_5 (by decide) (fun h => absurd h (by decide)) (fun _ => ?_)
    refine lv_aload_n hx hb dX7_nextOf_8 rfl (lv_at hl 0 rfl) ?_
    refine va_get (D := (dC, dI)) (ci := 7) (v := .ref ax7_10) (C := RX7) (T := TX7) (N := 13) hx hb hts inlX7 hown hK hP 1 rfl rfl 10 (by decide) (hts (.fieldLink RX7 45 "ShapeReader$Tree" "nexts" "[I") mw_18_2) (fun _ h9 => h9) rfl dX7_nextOf_9 ?_
    refine lv_iload_n hx hb dX7_nextOf_12 rfl (lv_at hl 1 rfl) ?_
    refine va_iald hx hb hK hP 0 0 rfl rfl (vp_in_ltn (by have a0 := il_nlt g_2; have e0 : (0 : Int32).toInt = 0 := (by decide); omega) g_4 hn_nx7) dX7_nextOf_13 ?_
    refine lv_topi (fun x_7 ex_7 => ?_)
    refine lv_goto (tgt := 18) hx hb dX7_nextOf_14 (by decide) ?_
    have hP9 := hP.sub (ws' := [(h0, .inr (7, [.int (nI nx7), .int xx7_1, .ref ax7_2, .ref ax7_3, .ref ax7_4, .ref ax7_5, .ref ax7_6, .ref ax7_7, .ref ax7_8, .ref ax7_9, .ref ax7_10, .ref ax7_11, .ref ax7_12])), (ax7_10, .inl (cx7_10, nx7, .inl fx7_10))]) [1, 0] rfl
    have hD9 := hD.sub (ws' := [(h0, .inr (7, [.int (nI nx7), .int xx7_1, .ref ax7_2, .ref ax7_3, .ref ax7_4, .ref ax7_5, .ref ax7_6, .ref ax7_7, .ref ax7_8, .ref ax7_9, .ref ax7_10, .ref ax7_11, .ref ax7_12])), (ax7_10, .inl (cx7_10, nx7, .inl fx7_10))]) [1, 0] (by decide) rfl
    have hK9 := hK.sub (tys' := [(cx7_10, .int)]) [0] rfl
    refine W.widen (k := 0) (n := 0) (Nat.le_of_ble_eq_true rfl) (Nat.le_of_ble_eq_true rfl) ?_
    exact W.iret (v := x_7) hx hb hr (fun t ht hW => ⟨⟨x_7, (), rfl, Or.inl ((by rw [ex_7])), by rw [ht]; exact hP9, va_K.moved hW.alike hK9, hD9⟩, hS.F ht⟩) hS.2.2 dX7_nextOf_18

set_option maxRecDepth 100000 in
set_option maxHeartbeats 4000000 in
theorem s_X7_rowAt (l : Launch) (dC : Nat → ClassId) (dI : Nat → Nat → Nat) (h0 : Nat) (nx7 : Nat) (xx7_1 : Int32) (ax7_2 : Nat) (ax7_3 : Nat) (ax7_4 : Nat) (ax7_5 : Nat) (ax7_6 : Nat) (ax7_7 : Nat) (ax7_8 : Nat) (ax7_9 : Nat) (ax7_10 : Nat) (ax7_11 : Nat) (cx7_11 : ClassId) (fx7_11 : Nat → Int32) (ax7_12 : Nat) (p0 : Int32) (hn_nx7 : nx7 < 2 ^ 31) (sz : Nat) : Met l yX7_rowAt (.code yX7_rowAt cX7_rowAt 2 (some .int) :: pw) ({ frames := 0, cells := 0, slots := 0, locals := 0 }) (va_Pc [.ref h0, .int p0] (vPre dC dI [(h0, .inr (7, [.int (nI nx7), .int xx7_1, .ref ax7_2, .ref ax7_3, .ref ax7_4, .ref ax7_5, .ref ax7_6, .ref ax7_7, .ref ax7_8, .ref ax7_9, .ref ax7_10, .ref ax7_11, .ref ax7_12])), (ax7_11, .inl (cx7_11, nx7, .inl fx7_11))] [(cx7_11, .int)] sz)) (va_Qi (fun (r : Int32) (_ : Unit) => (r = (fx7_11 p0.toNatClampNeg) ∧ ¬ p0 < 0 ∧ ¬ xx7_1 ≤ p0 ∧ ¬ (nI nx7) ≤ p0) ∨ (r = (-1))) (fun (_ : Unit) t => vPst dC dI (va_A [(h0, .inr (7, [.int (nI nx7), .int xx7_1, .ref ax7_2, .ref ax7_3, .ref ax7_4, .ref ax7_5, .ref ax7_6, .ref ax7_7, .ref ax7_8, .ref ax7_9, .ref ax7_10, .ref ax7_11, .ref ax7_12])), (ax7_11, .inl (cx7_11, nx7, .inl fx7_11))] sz) [(h0, .inr (7, [.int (nI nx7), .int xx7_1, .ref ax7_2, .ref ax7_3, .ref ax7_4, .ref ax7_5, .ref ax7_6, .ref ax7_7, .ref ax7_8, .ref ax7_9, .ref ax7_10, .ref ax7_11, .ref ax7_12])), (ax7_11, .inl (cx7_11, nx7, .inl fx7_11))] [(cx7_11, .int)] t) (va_A [(h0, .inr (7, [.int (nI nx7), .int xx7_1, .ref ax7_2, .ref ax7_3, .ref ax7_4, .ref ax7_5, .ref ax7_6, .ref ax7_7, .ref ax7_8, .ref ax7_9, .ref ax7_10, .ref ax7_11, .ref ax7_12])), (ax7_11, .inl (cx7_11, nx7, .inl fx7_11))] sz)) 0 0 (va_A [(h0, .inr (7, [.int (nI nx7), .int xx7_1, .ref ax7_2, .ref ax7_3, .ref ax7_4, .ref ax7_5, .ref ax7_6, .ref ax7_7, .ref ax7_8, .ref ax7_9, .ref ax7_10, .ref ax7_11, .ref ax7_12])), (ax7_11, .inl (cx7_11, nx7, .inl fx7_11))] sz) := by
  refine Met.ofW (cc := cX7_rowAt) (maxL := 2) (ret := (some .int)) (by decide) rfl ?_
  intro p e s m args below meth c s₁ B hml hv
  obtain ⟨rfl, hsz, hP, hK, hD0, hN⟩ := hv
  have hx := B.exec
  have hb := B.bytes
  have hr := B.returns
  have hts := atoms_spec (ws := .code yX7_rowAt cX7_rowAt 2 (some .int) :: pw) B.pre
  have hts : ∀ w ∈ pw, w.before _ s = true := fun w h => hts w (List.mem_cons_of_mem _ h)
  have hown : s.vm.findClass RX7 = some m.cls := findClass_of_methodNamed B.named
  have hlocks := B.notSynchronized
  subst hsz
  have hD := hD0.self (sz := s.heap.size)
  generalize hAe : va_A [(h0, .inr (7, [.int (nI nx7), .int xx7_1, .ref ax7_2, .ref ax7_3, .ref ax7_4, .ref ax7_5, .ref ax7_6, .ref ax7_7, .ref ax7_8, .ref ax7_9, .ref ax7_10, .ref ax7_11, .ref ax7_12])), (ax7_11, .inl (cx7_11, nx7, .inl fx7_11))] s.heap.size = A at hD ⊢
  have hA : ∀ q : Nat, s.heap.size ≤ q → A q := fun q h => by rw [← hAe]; exact Or.inr h
  have hS : va_S A s.heap s.heap [] := va_S.rf
  have hP : va_P (dC, dI) vwCl [(h0, .inr (7, [.int (nI nx7), .int xx7_1, .ref ax7_2, .ref ax7_3, .ref ax7_4, .ref ax7_5, .ref ax7_6, .ref ax7_7, .ref ax7_8, .ref ax7_9, .ref ax7_10, .ref ax7_11, .ref ax7_12])), (ax7_11, .inl (cx7_11, nx7, .inl fx7_11))] s.heap := hP
  have hl := lv_entry ([.ref h0, .int p0]) (n := 2) (Nat.le_of_ble_eq_true rfl)
  rw [lg_entry_eq]
  generalize (lg_sl ([.ref h0, .int p0]) ++ List.replicate (2 - (lg_sl ([.ref h0, .int p0])).length) Slot.unset).toArray = ls at hl ⊢
  have hl : lv_has ls 2 [(0, .ref h0), (1, .int p0)] := hl
  refine lv_iload_n hx hb dX7_rowAt_0 rfl (lv_at hl 1 rfl) ?_
  refine lv_if_lt (tgt := 29) hx hb dX7_rowAt_1 (by decide) (fun c_1 => ?_) (fun c_1 => ?_)
  · refine lv_iconst (v := (-1)) hx hb dX7_rowAt_29 (by decide) ?_
    have hP9 := hP.sub (ws' := [(h0, .inr (7, [.int (nI nx7), .int xx7_1, .ref ax7_2, .ref ax7_3, .ref ax7_4, .ref ax7_5, .ref ax7_6, .ref ax7_7, .ref ax7_8, .ref ax7_9, .ref ax7_10, .ref ax7_11, .ref ax7_12])), (ax7_11, .inl (cx7_11, nx7, .inl fx7_11))]) [0, 1] rfl
    have hD9 := hD.sub (ws' := [(h0, .inr (7, [.int (nI nx7), .int xx7_1, .ref ax7_2, .ref ax7_3, .ref ax7_4, .ref ax7_5, .ref ax7_6, .ref ax7_7, .ref ax7_8, .ref ax7_9, .ref ax7_10, .ref ax7_11, .ref ax7_12])), (ax7_11, .inl (cx7_11, nx7, .inl fx7_11))]) [0, 1] (by decide) rfl
    have hK9 := hK.sub (tys' := [(cx7_11, .int)]) [0] rfl
    refine W.widen (k := 0) (n := 0) (Nat.le_of_ble_eq_true rfl) (Nat.le_of_ble_eq_true rfl) ?_
    exact W.iret (v := (-1)) hx hb hr (fun t ht hW => ⟨⟨(-1), (), rfl, Or.inr (rfl), by rw [ht]; exact hP9, va_K.moved hW.alike hK9, hD9⟩, hS.F ht⟩) hS.2.2 dX7_rowAt_30
  · refine lv_iload_n hx hb dX7_rowAt_4 rfl (lv_at hl 1 rfl) ?_
    refine lv_aload_n hx hb dX7_rowAt_5 rfl (lv_at hl 0 rfl) ?_
    refine va_get (D := (dC, dI)) (ci := 7) (v := .int xx7_1) (C := RX7) (T := TX7) (N := 13) hx hb hts inlX7 hown hK hP 0 rfl rfl 1 (by decide) (hts (.fieldLink RX7 9 "ShapeReader$Tree" "size" "I") mw_17_22) (fun _ h9 => h9) rfl dX7_rowAt_6 ?_
    refine lv_icmp_ge (tgt := 29) hx hb dX7_rowAt_9 (by decide) (fun c_2 => ?_) (fun c_2 => ?_)
    · refine lv_iconst (v := (-1)) hx hb dX7_rowAt_29 (by decide) ?_
      have hP9 := hP.sub (ws' := [(h0, .inr (7, [.int (nI nx7), .int xx7_1, .ref ax7_2, .ref ax7_3, .ref ax7_4, .ref ax7_5, .ref ax7_6, .ref ax7_7, .ref ax7_8, .ref ax7_9, .ref ax7_10, .ref ax7_11, .ref ax7_12])), (ax7_11, .inl (cx7_11, nx7, .inl fx7_11))]) [0, 1] rfl
      have hD9 := hD.sub (ws' := [(h0, .inr (7, [.int (nI nx7), .int xx7_1, .ref ax7_2, .ref ax7_3, .ref ax7_4, .ref ax7_5, .ref ax7_6, .ref ax7_7, .ref ax7_8, .ref ax7_9, .ref ax7_10, .ref ax7_11, .ref ax7_12])), (ax7_11, .inl (cx7_11, nx7, .inl fx7_11))]) [0, 1] (by decide) rfl
      have hK9 := hK.sub (tys' := [(cx7_11, .int)]) [0] rfl
      refine W.widen (k := 0) (n := 0) (Nat.le_of_ble_eq_true rfl) (Nat.le_of_ble_eq_true rfl) ?_
      exact W.iret (v := (-1)) hx hb hr (fun t ht hW => ⟨⟨(-1), (), rfl, Or.inr (rfl), by rw [ht]; exact hP9, va_K.moved hW.alike hK9, hD9⟩, hS.F ht⟩) hS.2.2 dX7_rowAt_30
    · refine lv_iload_n hx hb dX7_rowAt_12 rfl (lv_at hl 1 rfl) ?_
      refine lv_aload_n hx hb dX7_rowAt_13 rfl (lv_at hl 0 rfl) ?_
      refine va_get (D := (dC, dI)) (ci := 7) (v := .int (nI nx7)) (C := RX7) (T := TX7) (N := 13) hx hb hts inlX7 hown hK hP 0 rfl rfl 0 (by decide) (hts (.fieldLink RX7 15 "ShapeReader$Tree" "rows" "I") mw_17_23) (fun _ h9 => h9) rfl dX7_rowAt_14 ?_
      refine lv_icmp_ge (tgt := 29) hx hb dX7_rowAt_17 (by decide) (fun c_3 => ?_) (fun c_3 => ?_)
      · refine lv_iconst (v := (-1)) hx hb dX7_rowAt_29 (by decide) ?_
        have hP9 := hP.sub (ws' := [(h0, .inr (7, [.int (nI nx7), .int xx7_1, .ref ax7_2, .ref ax7_3, .ref ax7_4, .ref ax7_5, .ref ax7_6, .ref ax7_7, .ref ax7_8, .ref ax7_9, .ref ax7_10, .ref ax7_11, .ref ax7_12])), (ax7_11, .inl (cx7_11, nx7, .inl fx7_11))]) [0, 1] rfl
        have hD9 := hD.sub (ws' := [(h0, .inr (7, [.int (nI nx7), .int xx7_1, .ref ax7_2, .ref ax7_3, .ref ax7_4, .ref ax7_5, .ref ax7_6, .ref ax7_7, .ref ax7_8, .ref ax7_9, .ref ax7_10, .ref ax7_11, .ref ax7_12])), (ax7_11, .inl (cx7_11, nx7, .inl fx7_11))]) [0, 1] (by decide) rfl
        have hK9 := hK.sub (tys' := [(cx7_11, .int)]) [0] rfl
        refine W.widen (k := 0) (n := 0) (Nat.le_of_ble_eq_true rfl) (Nat.le_of_ble_eq_true rfl) ?_
        exact W.iret (v := (-1)) hx hb hr (fun t ht hW => ⟨⟨(-1), (), rfl, Or.inr (rfl), by rw [ht]; exact hP9, va_K.moved hW.alike hK9, hD9⟩, hS.F ht⟩) hS.2.2 dX7_rowAt_30
      · refine lv_aload_n hx hb dX7_rowAt_20 rfl (lv_at hl 0 rfl) ?_
        refine va_get (D := (dC, dI)) (ci := 7) (v := .ref ax7_11) (C := RX7) (T := TX7) (N := 13) hx hb hts inlX7 hown hK hP 0 rfl rfl 11 (by decide) (hts (.fieldLink RX7 48 "ShapeReader$Tree" "order" "[I") mw_18_3) (fun _ h9 => h9) rfl dX7_rowAt_21 ?_
        refine lv_iload_n hx hb dX7_rowAt_24 rfl (lv_at hl 1 rfl) ?_
        refine va_iald hx hb hK hP 1 0 rfl rfl (vp_in_ltn (by have a0 := il_nlt c_1; have e0 : (0 : Int32).toInt = 0 := (by decide); omega) c_3 hn_nx7) dX7_rowAt_25 ?_
        refine lv_topi (fun x_4 ex_4 => ?_)
        refine lv_goto (tgt := 30) hx hb dX7_rowAt_26 (by decide) ?_
        have hP9 := hP.sub (ws' := [(h0, .inr (7, [.int (nI nx7), .int xx7_1, .ref ax7_2, .ref ax7_3, .ref ax7_4, .ref ax7_5, .ref ax7_6, .ref ax7_7, .ref ax7_8, .ref ax7_9, .ref ax7_10, .ref ax7_11, .ref ax7_12])), (ax7_11, .inl (cx7_11, nx7, .inl fx7_11))]) [0, 1] rfl
        have hD9 := hD.sub (ws' := [(h0, .inr (7, [.int (nI nx7), .int xx7_1, .ref ax7_2, .ref ax7_3, .ref ax7_4, .ref ax7_5, .ref ax7_6, .ref ax7_7, .ref ax7_8, .ref ax7_9, .ref ax7_10, .ref ax7_11, .ref ax7_12])), (ax7_11, .inl (cx7_11, nx7, .inl fx7_11))]) [0, 1] (by decide) rfl
        have hK9 := hK.sub (tys' := [(cx7_11, .int)]) [0] rfl
        refine W.widen (k := 0) (n := 0) (Nat.le_of_ble_eq_true rfl) (Nat.le_of_ble_eq_true rfl) ?_
        exact W.iret (v := x_4) hx hb hr (fun t ht hW => ⟨⟨x_4, (), rfl, Or.inl (⟨(by rw [ex_4]), c_1, c_2, c_3⟩), by rw [ht]; exact hP9, va_K.moved hW.alike hK9, hD9⟩, hS.F ht⟩) hS.2.2 dX7_rowAt_30

set_option maxRecDepth 100000 in
set_option maxHeartbeats 4000000 in
theorem s_X7_numberOf (l : Launch) (dC : Nat → ClassId) (dI : Nat → Nat → Nat) (h0 : Nat) (nx7 : Nat) (xx7_1 : Int32) (ax7_2 : Nat) (ax7_3 : Nat) (ax7_4 : Nat) (ax7_5 : Nat) (ax7_6 : Nat) (ax7_7 : Nat) (ax7_8 : Nat) (ax7_9 : Nat) (ax7_10 : Nat) (ax7_11 : Nat) (ax7_12 : Nat) (cx7_12 : ClassId) (fx7_12 : Nat → Int32) (p0 : Int32) (hn_nx7 : nx7 < 2 ^ 31) (sz : Nat) : Met l yX7_numberOf (.code yX7_numberOf cX7_numberOf 2 (some .int) :: pw) ({ frames := 1, cells := 0, slots := 0, locals := 21 }) (va_Pc [.ref h0, .int p0] (vPre dC dI [(h0, .inr (7, [.int (nI nx7), .int xx7_1, .ref ax7_2, .ref ax7_3, .ref ax7_4, .ref ax7_5, .ref ax7_6, .ref ax7_7, .ref ax7_8, .ref ax7_9, .ref ax7_10, .ref ax7_11, .ref ax7_12])), (ax7_12, .inl (cx7_12, nx7, .inl fx7_12))] [(cx7_12, .int)] sz)) (va_Qi (fun (r : Int32) (_ : Unit) => (r = (fx7_12 p0.toNatClampNeg)) ∨ (r = (-1))) (fun (_ : Unit) t => vPst dC dI (va_A [(h0, .inr (7, [.int (nI nx7), .int xx7_1, .ref ax7_2, .ref ax7_3, .ref ax7_4, .ref ax7_5, .ref ax7_6, .ref ax7_7, .ref ax7_8, .ref ax7_9, .ref ax7_10, .ref ax7_11, .ref ax7_12])), (ax7_12, .inl (cx7_12, nx7, .inl fx7_12))] sz) [(h0, .inr (7, [.int (nI nx7), .int xx7_1, .ref ax7_2, .ref ax7_3, .ref ax7_4, .ref ax7_5, .ref ax7_6, .ref ax7_7, .ref ax7_8, .ref ax7_9, .ref ax7_10, .ref ax7_11, .ref ax7_12])), (ax7_12, .inl (cx7_12, nx7, .inl fx7_12))] [(cx7_12, .int)] t) (va_A [(h0, .inr (7, [.int (nI nx7), .int xx7_1, .ref ax7_2, .ref ax7_3, .ref ax7_4, .ref ax7_5, .ref ax7_6, .ref ax7_7, .ref ax7_8, .ref ax7_9, .ref ax7_10, .ref ax7_11, .ref ax7_12])), (ax7_12, .inl (cx7_12, nx7, .inl fx7_12))] sz)) 0 0 (va_A [(h0, .inr (7, [.int (nI nx7), .int xx7_1, .ref ax7_2, .ref ax7_3, .ref ax7_4, .ref ax7_5, .ref ax7_6, .ref ax7_7, .ref ax7_8, .ref ax7_9, .ref ax7_10, .ref ax7_11, .ref ax7_12])), (ax7_12, .inl (cx7_12, nx7, .inl fx7_12))] sz) := by
  refine Met.ofW (cc := cX7_numberOf) (maxL := 2) (ret := (some .int)) (by decide) rfl ?_
  intro p e s m args below meth c s₁ B hml hv
  obtain ⟨rfl, hsz, hP, hK, hD0, hN⟩ := hv
  have hx := B.exec
  have hb := B.bytes
  have hr := B.returns
  have hts := atoms_spec (ws := .code yX7_numberOf cX7_numberOf 2 (some .int) :: pw) B.pre
  have hts : ∀ w ∈ pw, w.before _ s = true := fun w h => hts w (List.mem_cons_of_mem _ h)
  have hown : s.vm.findClass RX7 = some m.cls := findClass_of_methodNamed B.named
  have hlocks := B.notSynchronized
  subst hsz
  have hD := hD0.self (sz := s.heap.size)
  generalize hAe : va_A [(h0, .inr (7, [.int (nI nx7), .int xx7_1, .ref ax7_2, .ref ax7_3, .ref ax7_4, .ref ax7_5, .ref ax7_6, .ref ax7_7, .ref ax7_8, .ref ax7_9, .ref ax7_10, .ref ax7_11, .ref ax7_12])), (ax7_12, .inl (cx7_12, nx7, .inl fx7_12))] s.heap.size = A at hD ⊢
  have hA : ∀ q : Nat, s.heap.size ≤ q → A q := fun q h => by rw [← hAe]; exact Or.inr h
  have hS : va_S A s.heap s.heap [] := va_S.rf
  have hP : va_P (dC, dI) vwCl [(h0, .inr (7, [.int (nI nx7), .int xx7_1, .ref ax7_2, .ref ax7_3, .ref ax7_4, .ref ax7_5, .ref ax7_6, .ref ax7_7, .ref ax7_8, .ref ax7_9, .ref ax7_10, .ref ax7_11, .ref ax7_12])), (ax7_12, .inl (cx7_12, nx7, .inl fx7_12))] s.heap := hP
  have hl := lv_entry ([.ref h0, .int p0]) (n := 2) (Nat.le_of_ble_eq_true rfl)
  rw [lg_entry_eq]
  generalize (lg_sl ([.ref h0, .int p0]) ++ List.replicate (2 - (lg_sl ([.ref h0, .int p0])).length) Slot.unset).toArray = ls at hl ⊢
  have hl : lv_has ls 2 [(0, .ref h0), (1, .int p0)] := hl
  refine lv_aload_n hx hb dX7_numberOf_0 rfl (lv_at hl 0 rfl) ?_
  refine lv_iload_n hx hb dX7_numberOf_1 rfl (lv_at hl 1 rfl) ?_
  have hPc := hP.sub (ws' := [(h0, .inr (7, [.int (nI nx7), .int xx7_1, .ref ax7_2, .ref ax7_3, .ref ax7_4, .ref ax7_5, .ref ax7_6, .ref ax7_7, .ref ax7_8, .ref ax7_9, .ref ax7_10, .ref ax7_11, .ref ax7_12]))]) [0] rfl
  have hDc := hD.sub (ws' := [(h0, .inr (7, [.int (nI nx7), .int xx7_1, .ref ax7_2, .ref ax7_3, .ref ax7_4, .ref ax7_5, .ref ax7_6, .ref ax7_7, .ref ax7_8, .ref ax7_9, .ref ax7_10, .ref ax7_11, .ref ax7_12]))]) [0] (by decide) rfl
  have hKc := hK.sub (tys' := []) [] rfl
  have hFc := va_free (wc := [(h0, .inr (7, [.int (nI nx7), .int xx7_1, .ref ax7_2, .ref ax7_3, .ref ax7_4, .ref ax7_5, .ref ax7_6, .ref ax7_7, .ref ax7_8, .ref ax7_9, .ref ax7_10, .ref ax7_11, .ref ax7_12]))]) hD hS hA [0] rfl
  refine va_calli (va_runV (As := [.int p0]) (rest := []) ⟨hx, hb, hml, hown, hts⟩ (s_X7_isRow l dC dI h0 nx7 xx7_1 ax7_2 ax7_3 ax7_4 ax7_5 ax7_6 ax7_7 ax7_8 ax7_9 ax7_10 ax7_11 ax7_12 p0 hn_nx7 s.heap.size) (cwV 1 hts (gV mw_18_5 mw_18_6 mw_18_7 mw_0_11 mw_50_23) rfl rfl rfl (by decide +kernel) ⟨(Nat.le_of_ble_eq_true rfl), (Nat.le_of_ble_eq_true rfl)⟩) (vV (ci := 7) (q0 := 0) hKc hPc hDc hN rfl rfl) rfl rfl hl.1 rfl (lv_room (Nat.le_of_ble_eq_true rfl)) dX7_numberOf_2 ⟨(Nat.le_of_ble_eq_true rfl), (Nat.le_of_ble_eq_true rfl)⟩) hS (fun q _ h => hFc q h) hFc (fun r_1 u t H1 locs ht hvm hw hB hz1 hk1 hS => ?_)
  obtain ⟨hP1, hK1, hD1⟩ := hB
  rw [ht] at hP1
  have hK1 := va_K.moved hvm.symm hK1
  obtain ⟨hP, hD⟩ := va_join (wr := [(ax7_12, .inl (cx7_12, nx7, .inl fx7_12))]) (w1 := [(h0, .inr (7, [.int (nI nx7), .int xx7_1, .ref ax7_2, .ref ax7_3, .ref ax7_4, .ref ax7_5, .ref ax7_6, .ref ax7_7, .ref ax7_8, .ref ax7_9, .ref ax7_10, .ref ax7_11, .ref ax7_12]))]) hP hD [0] [1] rfl rfl (by decide) (by decide) hk1 hFc hP1 hD1
  clear hPc hDc hKc hP1 hK1 hD1 hFc hk1 hz1
  generalize H1 = H at hP hS ⊢
  have hP : va_P (dC, dI) vwCl [(ax7_12, .inl (cx7_12, nx7, .inl fx7_12)), (h0, .inr (7, [.int (nI nx7), .int xx7_1, .ref ax7_2, .ref ax7_3, .ref ax7_4, .ref ax7_5, .ref ax7_6, .ref ax7_7, .ref ax7_8, .ref ax7_9, .ref ax7_10, .ref ax7_11, .ref ax7_12]))] H := hP
  have hD : va_D A [(ax7_12, .inl (cx7_12, nx7, .inl fx7_12)), (h0, .inr (7, [.int (nI nx7), .int xx7_1, .ref ax7_2, .ref ax7_3, .ref ax7_4, .ref ax7_5, .ref ax7_6, .ref ax7_7, .ref ax7_8, .ref ax7_9, .ref ax7_10, .ref ax7_11, .ref ax7_12]))] := hD
  rcases hw with rfl | ⟨rfl, g_2, g_3, g_4⟩
  · refine lv_if_eq (tgt := 17) hx hb dX7_numberOf_5 (by decide) (fun _ => ?_) (fun h => absurd (by decide) h)
    refine lv_iconst (v := (-1)) hx hb dX7_numberOf_17 (by decide) ?_
    have hP9 := hP.sub (ws' := [(h0, .inr (7, [.int (nI nx7), .int xx7_1, .ref ax7_2, .ref ax7_3, .ref ax7_4, .ref ax7_5, .ref ax7_6, .ref ax7_7, .ref ax7_8, .ref ax7_9, .ref ax7_10, .ref ax7_11, .ref ax7_12])), (ax7_12, .inl (cx7_12, nx7, .inl fx7_12))]) [1, 0] rfl
    have hD9 := hD.sub (ws' := [(h0, .inr (7, [.int (nI nx7), .int xx7_1, .ref ax7_2, .ref ax7_3, .ref ax7_4, .ref ax7_5, .ref ax7_6, .ref ax7_7, .ref ax7_8, .ref ax7_9, .ref ax7_10, .ref ax7_11, .ref ax7_12])), (ax7_12, .inl (cx7_12, nx7, .inl fx7_12))]) [1, 0] (by decide) rfl
    have hK9 := hK.sub (tys' := [(cx7_12, .int)]) [0] rfl
    refine W.widen (k := 0) (n := 0) (Nat.le_of_ble_eq_true rfl) (Nat.le_of_ble_eq_true rfl) ?_
    exact W.iret (v := (-1)) hx hb hr (fun t ht hW => ⟨⟨(-1), (), rfl, Or.inr (rfl), by rw [ht]; exact hP9, va_K.moved hW.alike hK9, hD9⟩, hS.F ht⟩) hS.2.2 dX7_numberOf_18
  · refine lv_if_eq (tgt := 17) hx hb dX7_numberOf_5 (by decide) (fun h => absurd h (by decide)) (fun _ => ?_)
    refine lv_aload_n hx hb dX7_numberOf_8 rfl (lv_at hl 0 rfl) ?_
    refine va_get (D := (dC, dI)) (ci := 7) (v := .ref ax7_12) (C := RX7) (T := TX7) (N := 13) hx hb hts inlX7 hown hK hP 1 rfl rfl 12 (by decide) (hts (.fieldLink RX7 51 "ShapeReader$Tree" "numbers" "[I") mw_18_4) (fun _ h9 => h9) rfl dX7_numberOf_9 ?_
    refine lv_iload_n hx hb dX7_numberOf_12 rfl (lv_at hl 1 rfl) ?_
    refine va_iald hx hb hK hP 0 0 rfl rfl (vp_in_ltn (by have a0 := il_nlt g_2; have e0 : (0 : Int32).toInt = 0 := (by decide); omega) g_4 hn_nx7) dX7_numberOf_13 ?_
    refine lv_topi (fun x_7 ex_7 => ?_)
    refine lv_goto (tgt := 18) hx hb dX7_numberOf_14 (by decide) ?_
    have hP9 := hP.sub (ws' := [(h0, .inr (7, [.int (nI nx7), .int xx7_1, .ref ax7_2, .ref ax7_3, .ref ax7_4, .ref ax7_5, .ref ax7_6, .ref ax7_7, .ref ax7_8, .ref ax7_9, .ref ax7_10, .ref ax7_11, .ref ax7_12])), (ax7_12, .inl (cx7_12, nx7, .inl fx7_12))]) [1, 0] rfl
    have hD9 := hD.sub (ws' := [(h0, .inr (7, [.int (nI nx7), .int xx7_1, .ref ax7_2, .ref ax7_3, .ref ax7_4, .ref ax7_5, .ref ax7_6, .ref ax7_7, .ref ax7_8, .ref ax7_9, .ref ax7_10, .ref ax7_11, .ref ax7_12])), (ax7_12, .inl (cx7_12, nx7, .inl fx7_12))]) [1, 0] (by decide) rfl
    have hK9 := hK.sub (tys' := [(cx7_12, .int)]) [0] rfl
    refine W.widen (k := 0) (n := 0) (Nat.le_of_ble_eq_true rfl) (Nat.le_of_ble_eq_true rfl) ?_
    exact W.iret (v := x_7) hx hb hr (fun t ht hW => ⟨⟨x_7, (), rfl, Or.inl ((by rw [ex_7])), by rw [ht]; exact hP9, va_K.moved hW.alike hK9, hD9⟩, hS.F ht⟩) hS.2.2 dX7_numberOf_18

set_option maxRecDepth 100000 in
set_option maxHeartbeats 4000000 in
theorem s_X9_clear (l : Launch) (dC : Nat → ClassId) (dI : Nat → Nat → Nat) (h0 : Nat) (ax9_0 : Nat) (xx9_1 : Int32) (xx9_2 : Int32) (xx9_3 : Int32) (hi_xx9_1 : (0 : Int) ≤ xx9_1.toInt ∧ xx9_1.toInt ≤ (4 : Int)) (sz : Nat) : Met l yX9_clear (.code yX9_clear cX9_clear 1 none :: pw) ({ frames := 0, cells := 0, slots := 0, locals := 0 }) (va_Pc [.ref h0] (vPre dC dI [(h0, .inr (9, [.ref ax9_0, .int xx9_1, .int xx9_2, .int xx9_3]))] [] sz)) (va_Qv (fun (_ : Unit) => True) (fun (_ : Unit) t => vPst dC dI (va_A [(h0, .inr (9, [.ref ax9_0, .int xx9_1, .int xx9_2, .int xx9_3]))] sz) [(h0, .inr (9, [.ref ax9_0, .int 0, .int 0, .int 0]))] [] t) (va_A [(h0, .inr (9, [.ref ax9_0, .int xx9_1, .int xx9_2, .int xx9_3]))] sz)) 0 0 (va_A [(h0, .inr (9, [.ref ax9_0, .int xx9_1, .int xx9_2, .int xx9_3]))] sz) := by
  refine Met.ofW (cc := cX9_clear) (maxL := 1) (ret := none) (by decide) rfl ?_
  intro p e s m args below meth c s₁ B hml hv
  obtain ⟨rfl, hsz, hP, hK, hD0, hN⟩ := hv
  have hx := B.exec
  have hb := B.bytes
  have hr := B.returns
  have hts := atoms_spec (ws := .code yX9_clear cX9_clear 1 none :: pw) B.pre
  have hts : ∀ w ∈ pw, w.before _ s = true := fun w h => hts w (List.mem_cons_of_mem _ h)
  have hown : s.vm.findClass RX9 = some m.cls := findClass_of_methodNamed B.named
  have hlocks := B.notSynchronized
  subst hsz
  have hD := hD0.self (sz := s.heap.size)
  generalize hAe : va_A [(h0, .inr (9, [.ref ax9_0, .int xx9_1, .int xx9_2, .int xx9_3]))] s.heap.size = A at hD ⊢
  have hA : ∀ q : Nat, s.heap.size ≤ q → A q := fun q h => by rw [← hAe]; exact Or.inr h
  have hS : va_S A s.heap s.heap [] := va_S.rf
  have hP : va_P (dC, dI) vwCl [(h0, .inr (9, [.ref ax9_0, .int xx9_1, .int xx9_2, .int xx9_3]))] s.heap := hP
  have hl := lv_entry ([.ref h0]) (n := 1) (Nat.le_of_ble_eq_true rfl)
  rw [lg_entry_eq]
  generalize (lg_sl ([.ref h0]) ++ List.replicate (1 - (lg_sl ([.ref h0])).length) Slot.unset).toArray = ls at hl ⊢
  have hl : lv_has ls 1 [(0, .ref h0)] := hl
  refine lv_aload_n hx hb dX9_clear_0 rfl (lv_at hl 0 rfl) ?_
  refine lv_iconst (v := 0) hx hb dX9_clear_1 (by decide) ?_
  refine va_put (D := (dC, dI)) (ci := 9) (v := .int 0) (ty := .int) (C := RX9) (T := TX9) (N := 4) hx hb hts inlX9 tyX9 tyX9_ok nmX9 hown hK hP hD hS 0 rfl rfl 1 (by decide) (hts (.fieldLink RX9 15 "ShapeReader$Ways" "size" "I") mw_20_3) (fun _ h9 => h9) rfl (by decide +kernel) rfl rfl (Nat.le_of_ble_eq_true rfl) dX9_clear_2 (fun H locs hP hD hS => ?_)
  have hP : va_P (dC, dI) vwCl [(h0, .inr (9, [.ref ax9_0, .int 0, .int xx9_2, .int xx9_3]))] H := hP
  have hD : va_D A [(h0, .inr (9, [.ref ax9_0, .int 0, .int xx9_2, .int xx9_3]))] := hD
  refine lv_aload_n hx hb dX9_clear_5 rfl (lv_at hl 0 rfl) ?_
  refine lv_iconst (v := 0) hx hb dX9_clear_6 (by decide) ?_
  refine va_put (D := (dC, dI)) (ci := 9) (v := .int 0) (ty := .int) (C := RX9) (T := TX9) (N := 4) hx hb hts inlX9 tyX9 tyX9_ok nmX9 hown hK hP hD hS 0 rfl rfl 2 (by decide) (hts (.fieldLink RX9 19 "ShapeReader$Ways" "found" "I") mw_20_4) (fun _ h9 => h9) rfl (by decide +kernel) rfl rfl (Nat.le_of_ble_eq_true rfl) dX9_clear_7 (fun H locs hP hD hS => ?_)
  have hP : va_P (dC, dI) vwCl [(h0, .inr (9, [.ref ax9_0, .int 0, .int 0, .int xx9_3]))] H := hP
  have hD : va_D A [(h0, .inr (9, [.ref ax9_0, .int 0, .int 0, .int xx9_3]))] := hD
  refine lv_aload_n hx hb dX9_clear_10 rfl (lv_at hl 0 rfl) ?_
  refine lv_iconst (v := 0) hx hb dX9_clear_11 (by decide) ?_
  refine va_put (D := (dC, dI)) (ci := 9) (v := .int 0) (ty := .int) (C := RX9) (T := TX9) (N := 4) hx hb hts inlX9 tyX9 tyX9_ok nmX9 hown hK hP hD hS 0 rfl rfl 3 (by decide) (hts (.fieldLink RX9 22 "ShapeReader$Ways" "notFound" "I") mw_20_5) (fun _ h9 => h9) rfl (by decide +kernel) rfl rfl (Nat.le_of_ble_eq_true rfl) dX9_clear_12 (fun H locs hP hD hS => ?_)
  have hP : va_P (dC, dI) vwCl [(h0, .inr (9, [.ref ax9_0, .int 0, .int 0, .int 0]))] H := hP
  have hD : va_D A [(h0, .inr (9, [.ref ax9_0, .int 0, .int 0, .int 0]))] := hD
  have hP9 := hP.sub (ws' := [(h0, .inr (9, [.ref ax9_0, .int 0, .int 0, .int 0]))]) [0] rfl
  have hD9 := hD.sub (ws' := [(h0, .inr (9, [.ref ax9_0, .int 0, .int 0, .int 0]))]) [0] (by decide) rfl
  have hK9 := hK.sub (tys' := []) [] rfl
  refine W.widen (k := 0) (n := 0) (Nat.le_of_ble_eq_true rfl) (Nat.le_of_ble_eq_true rfl) ?_
  exact W.vret hx hb hr (fun t ht hW => ⟨⟨(), rfl, trivial, by rw [ht]; exact hP9, va_K.moved hW.alike hK9, hD9⟩, hS.F ht⟩) hS.2.2 dX9_clear_15

set_option maxRecDepth 100000 in
set_option maxHeartbeats 4000000 in
theorem s_X9_pairAt (l : Launch) (dC : Nat → ClassId) (dI : Nat → Nat → Nat) (h0 : Nat) (ax9_0 : Nat) (cx9_0 : ClassId) (fx9_0 : Nat → Int32) (xx9_1 : Int32) (xx9_2 : Int32) (xx9_3 : Int32) (p0 : Int32) (hi_xx9_1 : (0 : Int) ≤ xx9_1.toInt ∧ xx9_1.toInt ≤ (4 : Int)) (sz : Nat) : Met l yX9_pairAt (.code yX9_pairAt cX9_pairAt 2 (some .int) :: pw) ({ frames := 0, cells := 0, slots := 0, locals := 0 }) (va_Pc [.ref h0, .int p0] (vPre dC dI [(h0, .inr (9, [.ref ax9_0, .int xx9_1, .int xx9_2, .int xx9_3])), (ax9_0, .inl (cx9_0, 4, .inl fx9_0))] [(cx9_0, .int)] sz)) (va_Qi (fun (r : Int32) (_ : Unit) => (r = (fx9_0 p0.toNatClampNeg) ∧ ¬ p0 < 0 ∧ ¬ xx9_1 ≤ p0 ∧ ¬ 4 ≤ p0) ∨ (r = (-1))) (fun (_ : Unit) t => vPst dC dI (va_A [(h0, .inr (9, [.ref ax9_0, .int xx9_1, .int xx9_2, .int xx9_3])), (ax9_0, .inl (cx9_0, 4, .inl fx9_0))] sz) [(h0, .inr (9, [.ref ax9_0, .int xx9_1, .int xx9_2, .int xx9_3])), (ax9_0, .inl (cx9_0, 4, .inl fx9_0))] [(cx9_0, .int)] t) (va_A [(h0, .inr (9, [.ref ax9_0, .int xx9_1, .int xx9_2, .int xx9_3])), (ax9_0, .inl (cx9_0, 4, .inl fx9_0))] sz)) 0 0 (va_A [(h0, .inr (9, [.ref ax9_0, .int xx9_1, .int xx9_2, .int xx9_3])), (ax9_0, .inl (cx9_0, 4, .inl fx9_0))] sz) := by
  refine Met.ofW (cc := cX9_pairAt) (maxL := 2) (ret := (some .int)) (by decide) rfl ?_
  intro p e s m args below meth c s₁ B hml hv
  obtain ⟨rfl, hsz, hP, hK, hD0, hN⟩ := hv
  have hx := B.exec
  have hb := B.bytes
  have hr := B.returns
  have hts := atoms_spec (ws := .code yX9_pairAt cX9_pairAt 2 (some .int) :: pw) B.pre
  have hts : ∀ w ∈ pw, w.before _ s = true := fun w h => hts w (List.mem_cons_of_mem _ h)
  have hown : s.vm.findClass RX9 = some m.cls := findClass_of_methodNamed B.named
  have hlocks := B.notSynchronized
  subst hsz
  have hD := hD0.self (sz := s.heap.size)
  generalize hAe : va_A [(h0, .inr (9, [.ref ax9_0, .int xx9_1, .int xx9_2, .int xx9_3])), (ax9_0, .inl (cx9_0, 4, .inl fx9_0))] s.heap.size = A at hD ⊢
  have hA : ∀ q : Nat, s.heap.size ≤ q → A q := fun q h => by rw [← hAe]; exact Or.inr h
  have hS : va_S A s.heap s.heap [] := va_S.rf
  have hP : va_P (dC, dI) vwCl [(h0, .inr (9, [.ref ax9_0, .int xx9_1, .int xx9_2, .int xx9_3])), (ax9_0, .inl (cx9_0, 4, .inl fx9_0))] s.heap := hP
  have hl := lv_entry ([.ref h0, .int p0]) (n := 2) (Nat.le_of_ble_eq_true rfl)
  rw [lg_entry_eq]
  generalize (lg_sl ([.ref h0, .int p0]) ++ List.replicate (2 - (lg_sl ([.ref h0, .int p0])).length) Slot.unset).toArray = ls at hl ⊢
  have hl : lv_has ls 2 [(0, .ref h0), (1, .int p0)] := hl
  refine lv_iload_n hx hb dX9_pairAt_0 rfl (lv_at hl 1 rfl) ?_
  refine lv_if_lt (tgt := 26) hx hb dX9_pairAt_1 (by decide) (fun c_1 => ?_) (fun c_1 => ?_)
  · refine lv_iconst (v := (-1)) hx hb dX9_pairAt_26 (by decide) ?_
    have hP9 := hP.sub (ws' := [(h0, .inr (9, [.ref ax9_0, .int xx9_1, .int xx9_2, .int xx9_3])), (ax9_0, .inl (cx9_0, 4, .inl fx9_0))]) [0, 1] rfl
    have hD9 := hD.sub (ws' := [(h0, .inr (9, [.ref ax9_0, .int xx9_1, .int xx9_2, .int xx9_3])), (ax9_0, .inl (cx9_0, 4, .inl fx9_0))]) [0, 1] (by decide) rfl
    have hK9 := hK.sub (tys' := [(cx9_0, .int)]) [0] rfl
    refine W.widen (k := 0) (n := 0) (Nat.le_of_ble_eq_true rfl) (Nat.le_of_ble_eq_true rfl) ?_
    exact W.iret (v := (-1)) hx hb hr (fun t ht hW => ⟨⟨(-1), (), rfl, Or.inr (rfl), by rw [ht]; exact hP9, va_K.moved hW.alike hK9, hD9⟩, hS.F ht⟩) hS.2.2 dX9_pairAt_27
  · refine lv_iload_n hx hb dX9_pairAt_4 rfl (lv_at hl 1 rfl) ?_
    refine lv_aload_n hx hb dX9_pairAt_5 rfl (lv_at hl 0 rfl) ?_
    refine va_get (D := (dC, dI)) (ci := 9) (v := .int xx9_1) (C := RX9) (T := TX9) (N := 4) hx hb hts inlX9 hown hK hP 0 rfl rfl 1 (by decide) (hts (.fieldLink RX9 15 "ShapeReader$Ways" "size" "I") mw_20_3) (fun _ h9 => h9) rfl dX9_pairAt_6 ?_
    refine lv_icmp_ge (tgt := 26) hx hb dX9_pairAt_9 (by decide) (fun c_2 => ?_) (fun c_2 => ?_)
    · refine lv_iconst (v := (-1)) hx hb dX9_pairAt_26 (by decide) ?_
      have hP9 := hP.sub (ws' := [(h0, .inr (9, [.ref ax9_0, .int xx9_1, .int xx9_2, .int xx9_3])), (ax9_0, .inl (cx9_0, 4, .inl fx9_0))]) [0, 1] rfl
      have hD9 := hD.sub (ws' := [(h0, .inr (9, [.ref ax9_0, .int xx9_1, .int xx9_2, .int xx9_3])), (ax9_0, .inl (cx9_0, 4, .inl fx9_0))]) [0, 1] (by decide) rfl
      have hK9 := hK.sub (tys' := [(cx9_0, .int)]) [0] rfl
      refine W.widen (k := 0) (n := 0) (Nat.le_of_ble_eq_true rfl) (Nat.le_of_ble_eq_true rfl) ?_
      exact W.iret (v := (-1)) hx hb hr (fun t ht hW => ⟨⟨(-1), (), rfl, Or.inr (rfl), by rw [ht]; exact hP9, va_K.moved hW.alike hK9, hD9⟩, hS.F ht⟩) hS.2.2 dX9_pairAt_27
    · refine lv_iload_n hx hb dX9_pairAt_12 rfl (lv_at hl 1 rfl) ?_
      refine lv_iconst (v := 4) hx hb dX9_pairAt_13 (by decide) ?_
      refine lv_icmp_ge (tgt := 26) hx hb dX9_pairAt_14 (by decide) (fun c_3 => ?_) (fun c_3 => ?_)
      · refine lv_iconst (v := (-1)) hx hb dX9_pairAt_26 (by decide) ?_
        have hP9 := hP.sub (ws' := [(h0, .inr (9, [.ref ax9_0, .int xx9_1, .int xx9_2, .int xx9_3])), (ax9_0, .inl (cx9_0, 4, .inl fx9_0))]) [0, 1] rfl
        have hD9 := hD.sub (ws' := [(h0, .inr (9, [.ref ax9_0, .int xx9_1, .int xx9_2, .int xx9_3])), (ax9_0, .inl (cx9_0, 4, .inl fx9_0))]) [0, 1] (by decide) rfl
        have hK9 := hK.sub (tys' := [(cx9_0, .int)]) [0] rfl
        refine W.widen (k := 0) (n := 0) (Nat.le_of_ble_eq_true rfl) (Nat.le_of_ble_eq_true rfl) ?_
        exact W.iret (v := (-1)) hx hb hr (fun t ht hW => ⟨⟨(-1), (), rfl, Or.inr (rfl), by rw [ht]; exact hP9, va_K.moved hW.alike hK9, hD9⟩, hS.F ht⟩) hS.2.2 dX9_pairAt_27
      · refine lv_aload_n hx hb dX9_pairAt_17 rfl (lv_at hl 0 rfl) ?_
        refine va_get (D := (dC, dI)) (ci := 9) (v := .ref ax9_0) (C := RX9) (T := TX9) (N := 4) hx hb hts inlX9 hown hK hP 0 rfl rfl 0 (by decide) (hts (.fieldLink RX9 11 "ShapeReader$Ways" "pairs" "[I") mw_20_2) (fun _ h9 => h9) rfl dX9_pairAt_18 ?_
        refine lv_iload_n hx hb dX9_pairAt_21 rfl (lv_at hl 1 rfl) ?_
        refine va_iald hx hb hK hP 1 0 rfl rfl (vp_in_iff.mpr (by have a0 := il_nlt c_1; have a1 := il_nle c_3; have e0 : (0 : Int32).toInt = 0 := (by decide); have e1 : (4 : Int32).toInt = 4 := (by decide); omega)) dX9_pairAt_22 ?_
        refine lv_topi (fun x_4 ex_4 => ?_)
        refine lv_goto (tgt := 27) hx hb dX9_pairAt_23 (by decide) ?_
        have hP9 := hP.sub (ws' := [(h0, .inr (9, [.ref ax9_0, .int xx9_1, .int xx9_2, .int xx9_3])), (ax9_0, .inl (cx9_0, 4, .inl fx9_0))]) [0, 1] rfl
        have hD9 := hD.sub (ws' := [(h0, .inr (9, [.ref ax9_0, .int xx9_1, .int xx9_2, .int xx9_3])), (ax9_0, .inl (cx9_0, 4, .inl fx9_0))]) [0, 1] (by decide) rfl
        have hK9 := hK.sub (tys' := [(cx9_0, .int)]) [0] rfl
        refine W.widen (k := 0) (n := 0) (Nat.le_of_ble_eq_true rfl) (Nat.le_of_ble_eq_true rfl) ?_
        exact W.iret (v := x_4) hx hb hr (fun t ht hW => ⟨⟨x_4, (), rfl, Or.inl (⟨(by rw [ex_4]), c_1, c_2, c_3⟩), by rw [ht]; exact hP9, va_K.moved hW.alike hK9, hD9⟩, hS.F ht⟩) hS.2.2 dX9_pairAt_27

set_option maxRecDepth 100000 in
set_option maxHeartbeats 4000000 in
theorem s_X10_isPlan (l : Launch) (dC : Nat → ClassId) (dI : Nat → Nat → Nat) (h0 : Nat) (ax10_0 : Nat) (xx10_1 : Int32) (ox10_2 : Nat) (ox10_3 : Nat) (xx5_3_0 : Int32) (xx5_3_1 : Int32) (ax5_3_2 : Nat) (ax5_3_3 : Nat) (ax5_3_4 : Nat) (ax5_3_5 : Nat) (ax5_3_6 : Nat) (ax5_3_7 : Nat) (ax5_3_8 : Nat) (ax5_3_9 : Nat) (ax5_3_10 : Nat) (ax5_3_11 : Nat) (ax5_3_12 : Nat) (ax5_3_13 : Nat) (ax5_3_14 : Nat) (ax5_3_15 : Nat) (ax5_3_16 : Nat) (ox10_4 : Nat) (ox10_5 : Nat) (ox10_6 : Nat) (ox10_7 : Nat) (ox10_8 : Nat) (ox10_9 : Nat) (ox10_10 : Nat) (ox10_11 : Nat) (ox10_12 : Nat) (ox10_13 : Nat) (ox10_14 : Nat) (ox10_15 : Nat) (p0 : Int32) (hi_xx5_3_0 : (0 : Int) ≤ xx5_3_0.toInt ∧ xx5_3_0.toInt ≤ (6 : Int)) (hi_xx5_3_1 : (0 : Int) ≤ xx5_3_1.toInt ∧ xx5_3_1.toInt ≤ (262 : Int)) (sz : Nat) : Met l yX10_isPlan (.code yX10_isPlan cX10_isPlan 2 (some .boolean) :: pw) ({ frames := 0, cells := 0, slots := 0, locals := 0 }) (va_Pc [.ref h0, .int p0] (vPre dC dI [(h0, .inr (10, [.ref ax10_0, .int xx10_1, .ref ox10_2, .ref ox10_3, .ref ox10_4, .ref ox10_5, .ref ox10_6, .ref ox10_7, .ref ox10_8, .ref ox10_9, .ref ox10_10, .ref ox10_11, .ref ox10_12, .ref ox10_13, .ref ox10_14, .ref ox10_15])), (ox10_3, .inr (5, [.int xx5_3_0, .int xx5_3_1, .ref ax5_3_2, .ref ax5_3_3, .ref ax5_3_4, .ref ax5_3_5, .ref ax5_3_6, .ref ax5_3_7, .ref ax5_3_8, .ref ax5_3_9, .ref ax5_3_10, .ref ax5_3_11, .ref ax5_3_12, .ref ax5_3_13, .ref ax5_3_14, .ref ax5_3_15, .ref ax5_3_16]))] [] sz)) (va_Qi (fun (r : Int32) (_ : Unit) => (r = 0) ∨ (r = 1 ∧ ¬ p0 < 0 ∧ ¬ xx5_3_0 ≤ p0)) (fun (_ : Unit) t => vPst dC dI (va_A [(h0, .inr (10, [.ref ax10_0, .int xx10_1, .ref ox10_2, .ref ox10_3, .ref ox10_4, .ref ox10_5, .ref ox10_6, .ref ox10_7, .ref ox10_8, .ref ox10_9, .ref ox10_10, .ref ox10_11, .ref ox10_12, .ref ox10_13, .ref ox10_14, .ref ox10_15])), (ox10_3, .inr (5, [.int xx5_3_0, .int xx5_3_1, .ref ax5_3_2, .ref ax5_3_3, .ref ax5_3_4, .ref ax5_3_5, .ref ax5_3_6, .ref ax5_3_7, .ref ax5_3_8, .ref ax5_3_9, .ref ax5_3_10, .ref ax5_3_11, .ref ax5_3_12, .ref ax5_3_13, .ref ax5_3_14, .ref ax5_3_15, .ref ax5_3_16]))] sz) [(h0, .inr (10, [.ref ax10_0, .int xx10_1, .ref ox10_2, .ref ox10_3, .ref ox10_4, .ref ox10_5, .ref ox10_6, .ref ox10_7, .ref ox10_8, .ref ox10_9, .ref ox10_10, .ref ox10_11, .ref ox10_12, .ref ox10_13, .ref ox10_14, .ref ox10_15])), (ox10_3, .inr (5, [.int xx5_3_0, .int xx5_3_1, .ref ax5_3_2, .ref ax5_3_3, .ref ax5_3_4, .ref ax5_3_5, .ref ax5_3_6, .ref ax5_3_7, .ref ax5_3_8, .ref ax5_3_9, .ref ax5_3_10, .ref ax5_3_11, .ref ax5_3_12, .ref ax5_3_13, .ref ax5_3_14, .ref ax5_3_15, .ref ax5_3_16]))] [] t) (va_A [(h0, .inr (10, [.ref ax10_0, .int xx10_1, .ref ox10_2, .ref ox10_3, .ref ox10_4, .ref ox10_5, .ref ox10_6, .ref ox10_7, .ref ox10_8, .ref ox10_9, .ref ox10_10, .ref ox10_11, .ref ox10_12, .ref ox10_13, .ref ox10_14, .ref ox10_15])), (ox10_3, .inr (5, [.int xx5_3_0, .int xx5_3_1, .ref ax5_3_2, .ref ax5_3_3, .ref ax5_3_4, .ref ax5_3_5, .ref ax5_3_6, .ref ax5_3_7, .ref ax5_3_8, .ref ax5_3_9, .ref ax5_3_10, .ref ax5_3_11, .ref ax5_3_12, .ref ax5_3_13, .ref ax5_3_14, .ref ax5_3_15, .ref ax5_3_16]))] sz)) 0 0 (va_A [(h0, .inr (10, [.ref ax10_0, .int xx10_1, .ref ox10_2, .ref ox10_3, .ref ox10_4, .ref ox10_5, .ref ox10_6, .ref ox10_7, .ref ox10_8, .ref ox10_9, .ref ox10_10, .ref ox10_11, .ref ox10_12, .ref ox10_13, .ref ox10_14, .ref ox10_15])), (ox10_3, .inr (5, [.int xx5_3_0, .int xx5_3_1, .ref ax5_3_2, .ref ax5_3_3, .ref ax5_3_4, .ref ax5_3_5, .ref ax5_3_6, .ref ax5_3_7, .ref ax5_3_8, .ref ax5_3_9, .ref ax5_3_10, .ref ax5_3_11, .ref ax5_3_12, .ref ax5_3_13, .ref ax5_3_14, .ref ax5_3_15, .ref ax5_3_16]))] sz) := by
  refine Met.ofW (cc := cX10_isPlan) (maxL := 2) (ret := (some .boolean)) (by decide) rfl ?_
  intro p e s m args below meth c s₁ B hml hv
  obtain ⟨rfl, hsz, hP, hK, hD0, hN⟩ := hv
  have hx := B.exec
  have hb := B.bytes
  have hr := B.returns
  have hts := atoms_spec (ws := .code yX10_isPlan cX10_isPlan 2 (some .boolean) :: pw) B.pre
  have hts : ∀ w ∈ pw, w.before _ s = true := fun w h => hts w (List.mem_cons_of_mem _ h)
  have hown : s.vm.findClass RX10 = some m.cls := findClass_of_methodNamed B.named
  have hlocks := B.notSynchronized
  subst hsz
  have hD := hD0.self (sz := s.heap.size)
  generalize hAe : va_A [(h0, .inr (10, [.ref ax10_0, .int xx10_1, .ref ox10_2, .ref ox10_3, .ref ox10_4, .ref ox10_5, .ref ox10_6, .ref ox10_7, .ref ox10_8, .ref ox10_9, .ref ox10_10, .ref ox10_11, .ref ox10_12, .ref ox10_13, .ref ox10_14, .ref ox10_15])), (ox10_3, .inr (5, [.int xx5_3_0, .int xx5_3_1, .ref ax5_3_2, .ref ax5_3_3, .ref ax5_3_4, .ref ax5_3_5, .ref ax5_3_6, .ref ax5_3_7, .ref ax5_3_8, .ref ax5_3_9, .ref ax5_3_10, .ref ax5_3_11, .ref ax5_3_12, .ref ax5_3_13, .ref ax5_3_14, .ref ax5_3_15, .ref ax5_3_16]))] s.heap.size = A at hD ⊢
  have hA : ∀ q : Nat, s.heap.size ≤ q → A q := fun q h => by rw [← hAe]; exact Or.inr h
  have hS : va_S A s.heap s.heap [] := va_S.rf
  have hP : va_P (dC, dI) vwCl [(h0, .inr (10, [.ref ax10_0, .int xx10_1, .ref ox10_2, .ref ox10_3, .ref ox10_4, .ref ox10_5, .ref ox10_6, .ref ox10_7, .ref ox10_8, .ref ox10_9, .ref ox10_10, .ref ox10_11, .ref ox10_12, .ref ox10_13, .ref ox10_14, .ref ox10_15])), (ox10_3, .inr (5, [.int xx5_3_0, .int xx5_3_1, .ref ax5_3_2, .ref ax5_3_3, .ref ax5_3_4, .ref ax5_3_5, .ref ax5_3_6, .ref ax5_3_7, .ref ax5_3_8, .ref ax5_3_9, .ref ax5_3_10, .ref ax5_3_11, .ref ax5_3_12, .ref ax5_3_13, .ref ax5_3_14, .ref ax5_3_15, .ref ax5_3_16]))] s.heap := hP
  have hl := lv_entry ([.ref h0, .int p0]) (n := 2) (Nat.le_of_ble_eq_true rfl)
  rw [lg_entry_eq]
  generalize (lg_sl ([.ref h0, .int p0]) ++ List.replicate (2 - (lg_sl ([.ref h0, .int p0])).length) Slot.unset).toArray = ls at hl ⊢
  have hl : lv_has ls 2 [(0, .ref h0), (1, .int p0)] := hl
  refine lv_iload_n hx hb dX10_isPlan_0 rfl (lv_at hl 1 rfl) ?_
  refine lv_if_lt (tgt := 19) hx hb dX10_isPlan_1 (by decide) (fun c_1 => ?_) (fun c_1 => ?_)
  · refine lv_iconst (v := 0) hx hb dX10_isPlan_19 (by decide) ?_
    have hP9 := hP.sub (ws' := [(h0, .inr (10, [.ref ax10_0, .int xx10_1, .ref ox10_2, .ref ox10_3, .ref ox10_4, .ref ox10_5, .ref ox10_6, .ref ox10_7, .ref ox10_8, .ref ox10_9, .ref ox10_10, .ref ox10_11, .ref ox10_12, .ref ox10_13, .ref ox10_14, .ref ox10_15])), (ox10_3, .inr (5, [.int xx5_3_0, .int xx5_3_1, .ref ax5_3_2, .ref ax5_3_3, .ref ax5_3_4, .ref ax5_3_5, .ref ax5_3_6, .ref ax5_3_7, .ref ax5_3_8, .ref ax5_3_9, .ref ax5_3_10, .ref ax5_3_11, .ref ax5_3_12, .ref ax5_3_13, .ref ax5_3_14, .ref ax5_3_15, .ref ax5_3_16]))]) [0, 1] rfl
    have hD9 := hD.sub (ws' := [(h0, .inr (10, [.ref ax10_0, .int xx10_1, .ref ox10_2, .ref ox10_3, .ref ox10_4, .ref ox10_5, .ref ox10_6, .ref ox10_7, .ref ox10_8, .ref ox10_9, .ref ox10_10, .ref ox10_11, .ref ox10_12, .ref ox10_13, .ref ox10_14, .ref ox10_15])), (ox10_3, .inr (5, [.int xx5_3_0, .int xx5_3_1, .ref ax5_3_2, .ref ax5_3_3, .ref ax5_3_4, .ref ax5_3_5, .ref ax5_3_6, .ref ax5_3_7, .ref ax5_3_8, .ref ax5_3_9, .ref ax5_3_10, .ref ax5_3_11, .ref ax5_3_12, .ref ax5_3_13, .ref ax5_3_14, .ref ax5_3_15, .ref ax5_3_16]))]) [0, 1] (by decide) rfl
    have hK9 := hK.sub (tys' := []) [] rfl
    refine W.widen (k := 0) (n := 0) (Nat.le_of_ble_eq_true rfl) (Nat.le_of_ble_eq_true rfl) ?_
    exact W.zret (v := 0) hx hb hr rfl (fun t ht hW => ⟨⟨0, (), rfl, Or.inl (rfl), by rw [ht]; exact hP9, va_K.moved hW.alike hK9, hD9⟩, hS.F ht⟩) hS.2.2 dX10_isPlan_20
  · refine lv_iload_n hx hb dX10_isPlan_4 rfl (lv_at hl 1 rfl) ?_
    refine lv_aload_n hx hb dX10_isPlan_5 rfl (lv_at hl 0 rfl) ?_
    refine va_get (D := (dC, dI)) (ci := 10) (v := .ref ox10_3) (C := RX10) (T := TX10) (N := 16) hx hb hts inlX10 hown hK hP 0 rfl rfl 3 (by decide) (hts (.fieldLink RX10 29 "ShapeReader" "shapes" "LShapeReader$Shapes;") mw_20_20) (fun _ h9 => h9) rfl dX10_isPlan_6 ?_
    refine va_get (D := (dC, dI)) (ci := 5) (v := .int xx5_3_0) (C := RX5) (T := TX5) (N := 17) hx hb hts inlX5 hown hK hP 1 rfl rfl 0 (by decide) (hts (.fieldLink RX10 137 "ShapeReader$Shapes" "planCount" "I") mw_23_2) (fun _ h9 => h9) rfl dX10_isPlan_9 ?_
    refine lv_icmp_ge (tgt := 19) hx hb dX10_isPlan_12 (by decide) (fun c_2 => ?_) (fun c_2 => ?_)
    · refine lv_iconst (v := 0) hx hb dX10_isPlan_19 (by decide) ?_
      have hP9 := hP.sub (ws' := [(h0, .inr (10, [.ref ax10_0, .int xx10_1, .ref ox10_2, .ref ox10_3, .ref ox10_4, .ref ox10_5, .ref ox10_6, .ref ox10_7, .ref ox10_8, .ref ox10_9, .ref ox10_10, .ref ox10_11, .ref ox10_12, .ref ox10_13, .ref ox10_14, .ref ox10_15])), (ox10_3, .inr (5, [.int xx5_3_0, .int xx5_3_1, .ref ax5_3_2, .ref ax5_3_3, .ref ax5_3_4, .ref ax5_3_5, .ref ax5_3_6, .ref ax5_3_7, .ref ax5_3_8, .ref ax5_3_9, .ref ax5_3_10, .ref ax5_3_11, .ref ax5_3_12, .ref ax5_3_13, .ref ax5_3_14, .ref ax5_3_15, .ref ax5_3_16]))]) [0, 1] rfl
      have hD9 := hD.sub (ws' := [(h0, .inr (10, [.ref ax10_0, .int xx10_1, .ref ox10_2, .ref ox10_3, .ref ox10_4, .ref ox10_5, .ref ox10_6, .ref ox10_7, .ref ox10_8, .ref ox10_9, .ref ox10_10, .ref ox10_11, .ref ox10_12, .ref ox10_13, .ref ox10_14, .ref ox10_15])), (ox10_3, .inr (5, [.int xx5_3_0, .int xx5_3_1, .ref ax5_3_2, .ref ax5_3_3, .ref ax5_3_4, .ref ax5_3_5, .ref ax5_3_6, .ref ax5_3_7, .ref ax5_3_8, .ref ax5_3_9, .ref ax5_3_10, .ref ax5_3_11, .ref ax5_3_12, .ref ax5_3_13, .ref ax5_3_14, .ref ax5_3_15, .ref ax5_3_16]))]) [0, 1] (by decide) rfl
      have hK9 := hK.sub (tys' := []) [] rfl
      refine W.widen (k := 0) (n := 0) (Nat.le_of_ble_eq_true rfl) (Nat.le_of_ble_eq_true rfl) ?_
      exact W.zret (v := 0) hx hb hr rfl (fun t ht hW => ⟨⟨0, (), rfl, Or.inl (rfl), by rw [ht]; exact hP9, va_K.moved hW.alike hK9, hD9⟩, hS.F ht⟩) hS.2.2 dX10_isPlan_20
    · refine lv_iconst (v := 1) hx hb dX10_isPlan_15 (by decide) ?_
      refine lv_goto (tgt := 20) hx hb dX10_isPlan_16 (by decide) ?_
      have hP9 := hP.sub (ws' := [(h0, .inr (10, [.ref ax10_0, .int xx10_1, .ref ox10_2, .ref ox10_3, .ref ox10_4, .ref ox10_5, .ref ox10_6, .ref ox10_7, .ref ox10_8, .ref ox10_9, .ref ox10_10, .ref ox10_11, .ref ox10_12, .ref ox10_13, .ref ox10_14, .ref ox10_15])), (ox10_3, .inr (5, [.int xx5_3_0, .int xx5_3_1, .ref ax5_3_2, .ref ax5_3_3, .ref ax5_3_4, .ref ax5_3_5, .ref ax5_3_6, .ref ax5_3_7, .ref ax5_3_8, .ref ax5_3_9, .ref ax5_3_10, .ref ax5_3_11, .ref ax5_3_12, .ref ax5_3_13, .ref ax5_3_14, .ref ax5_3_15, .ref ax5_3_16]))]) [0, 1] rfl
      have hD9 := hD.sub (ws' := [(h0, .inr (10, [.ref ax10_0, .int xx10_1, .ref ox10_2, .ref ox10_3, .ref ox10_4, .ref ox10_5, .ref ox10_6, .ref ox10_7, .ref ox10_8, .ref ox10_9, .ref ox10_10, .ref ox10_11, .ref ox10_12, .ref ox10_13, .ref ox10_14, .ref ox10_15])), (ox10_3, .inr (5, [.int xx5_3_0, .int xx5_3_1, .ref ax5_3_2, .ref ax5_3_3, .ref ax5_3_4, .ref ax5_3_5, .ref ax5_3_6, .ref ax5_3_7, .ref ax5_3_8, .ref ax5_3_9, .ref ax5_3_10, .ref ax5_3_11, .ref ax5_3_12, .ref ax5_3_13, .ref ax5_3_14, .ref ax5_3_15, .ref ax5_3_16]))]) [0, 1] (by decide) rfl
      have hK9 := hK.sub (tys' := []) [] rfl
      refine W.widen (k := 0) (n := 0) (Nat.le_of_ble_eq_true rfl) (Nat.le_of_ble_eq_true rfl) ?_
      exact W.zret (v := 1) hx hb hr rfl (fun t ht hW => ⟨⟨1, (), rfl, Or.inr (⟨rfl, c_1, c_2⟩), by rw [ht]; exact hP9, va_K.moved hW.alike hK9, hD9⟩, hS.F ht⟩) hS.2.2 dX10_isPlan_20

set_option maxRecDepth 100000 in
set_option maxHeartbeats 4000000 in
theorem s_X10_message (l : Launch) (dC : Nat → ClassId) (dI : Nat → Nat → Nat) (h0 : Nat) (ax10_0 : Nat) (xx10_1 : Int32) (ox10_2 : Nat) (ox10_3 : Nat) (ox10_4 : Nat) (ox10_5 : Nat) (ox10_6 : Nat) (ax1_6_0 : Nat) (ax1_6_1 : Nat) (cx1_6_1 : ClassId) (fx1_6_1 : Nat → Int32) (ax1_6_2 : Nat) (cx1_6_2 : ClassId) (fx1_6_2 : Nat → Int32) (ox10_7 : Nat) (ox10_8 : Nat) (ox10_9 : Nat) (ox10_10 : Nat) (ox10_11 : Nat) (ox10_12 : Nat) (ox10_13 : Nat) (ox10_14 : Nat) (ox10_15 : Nat) (p0 : Int32) (p1 : Int32) (sz : Nat) : Met l yX10_message (.code yX10_message cX10_message 3 (some .int) :: pw) ({ frames := 2, cells := 0, slots := 0, locals := 42 }) (va_Pc [.ref h0, .int p0, .int p1] (vPre dC dI [(h0, .inr (10, [.ref ax10_0, .int xx10_1, .ref ox10_2, .ref ox10_3, .ref ox10_4, .ref ox10_5, .ref ox10_6, .ref ox10_7, .ref ox10_8, .ref ox10_9, .ref ox10_10, .ref ox10_11, .ref ox10_12, .ref ox10_13, .ref ox10_14, .ref ox10_15])), (ox10_6, .inr (1, [.ref ax1_6_0, .ref ax1_6_1, .ref ax1_6_2])), (ax1_6_1, .inl (cx1_6_1, 4, .inl fx1_6_1)), (ax1_6_2, .inl (cx1_6_2, 4, .inl fx1_6_2))] [(cx1_6_1, .int), (cx1_6_2, .int)] sz)) (va_Qi (fun (r : Int32) (_ : Unit) => (r = (fx1_6_1 p0.toNatClampNeg) ∧ p1 = 0) ∨ (r = (fx1_6_2 p0.toNatClampNeg) ∧ p1 = 1) ∨ (r = (-1)) ∨ (r = 0 ∧ p1 = 0)) (fun (_ : Unit) t => vPst dC dI (va_A [(h0, .inr (10, [.ref ax10_0, .int xx10_1, .ref ox10_2, .ref ox10_3, .ref ox10_4, .ref ox10_5, .ref ox10_6, .ref ox10_7, .ref ox10_8, .ref ox10_9, .ref ox10_10, .ref ox10_11, .ref ox10_12, .ref ox10_13, .ref ox10_14, .ref ox10_15])), (ox10_6, .inr (1, [.ref ax1_6_0, .ref ax1_6_1, .ref ax1_6_2])), (ax1_6_1, .inl (cx1_6_1, 4, .inl fx1_6_1)), (ax1_6_2, .inl (cx1_6_2, 4, .inl fx1_6_2))] sz) [(h0, .inr (10, [.ref ax10_0, .int xx10_1, .ref ox10_2, .ref ox10_3, .ref ox10_4, .ref ox10_5, .ref ox10_6, .ref ox10_7, .ref ox10_8, .ref ox10_9, .ref ox10_10, .ref ox10_11, .ref ox10_12, .ref ox10_13, .ref ox10_14, .ref ox10_15])), (ox10_6, .inr (1, [.ref ax1_6_0, .ref ax1_6_1, .ref ax1_6_2])), (ax1_6_1, .inl (cx1_6_1, 4, .inl fx1_6_1)), (ax1_6_2, .inl (cx1_6_2, 4, .inl fx1_6_2))] [(cx1_6_1, .int), (cx1_6_2, .int)] t) (va_A [(h0, .inr (10, [.ref ax10_0, .int xx10_1, .ref ox10_2, .ref ox10_3, .ref ox10_4, .ref ox10_5, .ref ox10_6, .ref ox10_7, .ref ox10_8, .ref ox10_9, .ref ox10_10, .ref ox10_11, .ref ox10_12, .ref ox10_13, .ref ox10_14, .ref ox10_15])), (ox10_6, .inr (1, [.ref ax1_6_0, .ref ax1_6_1, .ref ax1_6_2])), (ax1_6_1, .inl (cx1_6_1, 4, .inl fx1_6_1)), (ax1_6_2, .inl (cx1_6_2, 4, .inl fx1_6_2))] sz)) 0 0 (va_A [(h0, .inr (10, [.ref ax10_0, .int xx10_1, .ref ox10_2, .ref ox10_3, .ref ox10_4, .ref ox10_5, .ref ox10_6, .ref ox10_7, .ref ox10_8, .ref ox10_9, .ref ox10_10, .ref ox10_11, .ref ox10_12, .ref ox10_13, .ref ox10_14, .ref ox10_15])), (ox10_6, .inr (1, [.ref ax1_6_0, .ref ax1_6_1, .ref ax1_6_2])), (ax1_6_1, .inl (cx1_6_1, 4, .inl fx1_6_1)), (ax1_6_2, .inl (cx1_6_2, 4, .inl fx1_6_2))] sz) := by
  refine Met.ofW (cc := cX10_message) (maxL := 3) (ret := (some .int)) (by decide) rfl ?_
  intro p e s m args below meth c s₁ B hml hv
  obtain ⟨rfl, hsz, hP, hK, hD0, hN⟩ := hv
  have hx := B.exec
  have hb := B.bytes
  have hr := B.returns
  have hts := atoms_spec (ws := .code yX10_message cX10_message 3 (some .int) :: pw) B.pre
  have hts : ∀ w ∈ pw, w.before _ s = true := fun w h => hts w (List.mem_cons_of_mem _ h)
  have hown : s.vm.findClass RX10 = some m.cls := findClass_of_methodNamed B.named
  have hlocks := B.notSynchronized
  subst hsz
  have hD := hD0.self (sz := s.heap.size)
  generalize hAe : va_A [(h0, .inr (10, [.ref ax10_0, .int xx10_1, .ref ox10_2, .ref ox10_3, .ref ox10_4, .ref ox10_5, .ref ox10_6, .ref ox10_7, .ref ox10_8, .ref ox10_9, .ref ox10_10, .ref ox10_11, .ref ox10_12, .ref ox10_13, .ref ox10_14, .ref ox10_15])), (ox10_6, .inr (1, [.ref ax1_6_0, .ref ax1_6_1, .ref ax1_6_2])), (ax1_6_1, .inl (cx1_6_1, 4, .inl fx1_6_1)), (ax1_6_2, .inl (cx1_6_2, 4, .inl fx1_6_2))] s.heap.size = A at hD ⊢
  have hA : ∀ q : Nat, s.heap.size ≤ q → A q := fun q h => by rw [← hAe]; exact Or.inr h
  have hS : va_S A s.heap s.heap [] := va_S.rf
  have hP : va_P (dC, dI) vwCl [(h0, .inr (10, [.ref ax10_0, .int xx10_1, .ref ox10_2, .ref ox10_3, .ref ox10_4, .ref ox10_5, .ref ox10_6, .ref ox10_7, .ref ox10_8, .ref ox10_9, .ref ox10_10, .ref ox10_11, .ref ox10_12, .ref ox10_13, .ref ox10_14, .ref ox10_15])), (ox10_6, .inr (1, [.ref ax1_6_0, .ref ax1_6_1, .ref ax1_6_2])), (ax1_6_1, .inl (cx1_6_1, 4, .inl fx1_6_1)), (ax1_6_2, .inl (cx1_6_2, 4, .inl fx1_6_2))] s.heap := hP
  have hl := lv_entry ([.ref h0, .int p0, .int p1]) (n := 3) (Nat.le_of_ble_eq_true rfl)
  rw [lg_entry_eq]
  generalize (lg_sl ([.ref h0, .int p0, .int p1]) ++ List.replicate (3 - (lg_sl ([.ref h0, .int p0, .int p1])).length) Slot.unset).toArray = ls at hl ⊢
  have hl : lv_has ls 3 [(0, .ref h0), (1, .int p0), (2, .int p1)] := hl
  refine lv_aload_n hx hb dX10_message_0 rfl (lv_at hl 0 rfl) ?_
  refine va_get (D := (dC, dI)) (ci := 10) (v := .ref ox10_6) (C := RX10) (T := TX10) (N := 16) hx hb hts inlX10 hown hK hP 0 rfl rfl 6 (by decide) (hts (.fieldLink RX10 48 "ShapeReader" "messages" "LShapeReader$Messages;") mw_21_1) (fun _ h9 => h9) rfl dX10_message_1 ?_
  refine lv_iload_n hx hb dX10_message_4 rfl (lv_at hl 1 rfl) ?_
  have hPc := hP.sub (ws' := [(ox10_6, .inr (1, [.ref ax1_6_0, .ref ax1_6_1, .ref ax1_6_2])), (ax1_6_2, .inl (cx1_6_2, 4, .inl fx1_6_2))]) [1, 3] rfl
  have hDc := hD.sub (ws' := [(ox10_6, .inr (1, [.ref ax1_6_0, .ref ax1_6_1, .ref ax1_6_2])), (ax1_6_2, .inl (cx1_6_2, 4, .inl fx1_6_2))]) [1, 3] (by decide) rfl
  have hKc := hK.sub (tys' := [(cx1_6_2, .int)]) [1] rfl
  have hFc := va_free (wc := [(ox10_6, .inr (1, [.ref ax1_6_0, .ref ax1_6_1, .ref ax1_6_2])), (ax1_6_2, .inl (cx1_6_2, 4, .inl fx1_6_2))]) hD hS hA [1, 3] rfl
  refine va_calli (va_runV (As := [.int p0]) (rest := []) ⟨hx, hb, hml, hown, hts⟩ (s_X1_isWritten l dC dI ox10_6 ax1_6_0 ax1_6_1 ax1_6_2 cx1_6_2 fx1_6_2 p0 s.heap.size) (cwV 1 hts (gV mw_24_2 mw_4_11 mw_4_12 mw_0_5 mw_47_0) rfl rfl rfl (by decide +kernel) ⟨(Nat.le_of_ble_eq_true rfl), (Nat.le_of_ble_eq_true rfl)⟩) (vV (ci := 1) (q0 := 0) hKc hPc hDc hN rfl rfl) rfl rfl hl.1 rfl (lv_room (Nat.le_of_ble_eq_true rfl)) dX10_message_5 ⟨(Nat.le_of_ble_eq_true rfl), (Nat.le_of_ble_eq_true rfl)⟩) hS (fun q _ h => hFc q h) hFc (fun r_1 u t H1 locs ht hvm hw hB hz1 hk1 hS => ?_)
  obtain ⟨hP1, hK1, hD1⟩ := hB
  rw [ht] at hP1
  have hK1 := va_K.moved hvm.symm hK1
  obtain ⟨hP, hD⟩ := va_join (wr := [(h0, .inr (10, [.ref ax10_0, .int xx10_1, .ref ox10_2, .ref ox10_3, .ref ox10_4, .ref ox10_5, .ref ox10_6, .ref ox10_7, .ref ox10_8, .ref ox10_9, .ref ox10_10, .ref ox10_11, .ref ox10_12, .ref ox10_13, .ref ox10_14, .ref ox10_15])), (ax1_6_1, .inl (cx1_6_1, 4, .inl fx1_6_1))]) (w1 := [(ox10_6, .inr (1, [.ref ax1_6_0, .ref ax1_6_1, .ref ax1_6_2])), (ax1_6_2, .inl (cx1_6_2, 4, .inl fx1_6_2))]) hP hD [1, 3] [0, 2] rfl rfl (by decide) (by decide) hk1 hFc hP1 hD1
  clear hPc hDc hKc hP1 hK1 hD1 hFc hk1 hz1
  generalize H1 = H at hP hS ⊢
  have hP : va_P (dC, dI) vwCl [(h0, .inr (10, [.ref ax10_0, .int xx10_1, .ref ox10_2, .ref ox10_3, .ref ox10_4, .ref ox10_5, .ref ox10_6, .ref ox10_7, .ref ox10_8, .ref ox10_9, .ref ox10_10, .ref ox10_11, .ref ox10_12, .ref ox10_13, .ref ox10_14, .ref ox10_15])), (ax1_6_1, .inl (cx1_6_1, 4, .inl fx1_6_1)), (ox10_6, .inr (1, [.ref ax1_6_0, .ref ax1_6_1, .ref ax1_6_2])), (ax1_6_2, .inl (cx1_6_2, 4, .inl fx1_6_2))] H := hP
  have hD : va_D A [(h0, .inr (10, [.ref ax10_0, .int xx10_1, .ref ox10_2, .ref ox10_3, .ref ox10_4, .ref ox10_5, .ref ox10_6, .ref ox10_7, .ref ox10_8, .ref ox10_9, .ref ox10_10, .ref ox10_11, .ref ox10_12, .ref ox10_13, .ref ox10_14, .ref ox10_15])), (ax1_6_1, .inl (cx1_6_1, 4, .inl fx1_6_1)), (ox10_6, .inr (1, [.ref ax1_6_0, .ref ax1_6_1, .ref ax1_6_2])), (ax1_6_2, .inl (cx1_6_2, 4, .inl fx1_6_2))] := hD
  rcases hw with rfl | rfl
  · refine lv_if_ne (tgt := 13) hx hb dX10_message_8 (by decide) (fun h => absurd rfl h) (fun _ => ?_)
    refine lv_iconst (v := (-1)) hx hb dX10_message_11 (by decide) ?_
    have hP9 := hP.sub (ws' := [(h0, .inr (10, [.ref ax10_0, .int xx10_1, .ref ox10_2, .ref ox10_3, .ref ox10_4, .ref ox10_5, .ref ox10_6, .ref ox10_7, .ref ox10_8, .ref ox10_9, .ref ox10_10, .ref ox10_11, .ref ox10_12, .ref ox10_13, .ref ox10_14, .ref ox10_15])), (ox10_6, .inr (1, [.ref ax1_6_0, .ref ax1_6_1, .ref ax1_6_2])), (ax1_6_1, .inl (cx1_6_1, 4, .inl fx1_6_1)), (ax1_6_2, .inl (cx1_6_2, 4, .inl fx1_6_2))]) [0, 2, 1, 3] rfl
    have hD9 := hD.sub (ws' := [(h0, .inr (10, [.ref ax10_0, .int xx10_1, .ref ox10_2, .ref ox10_3, .ref ox10_4, .ref ox10_5, .ref ox10_6, .ref ox10_7, .ref ox10_8, .ref ox10_9, .ref ox10_10, .ref ox10_11, .ref ox10_12, .ref ox10_13, .ref ox10_14, .ref ox10_15])), (ox10_6, .inr (1, [.ref ax1_6_0, .ref ax1_6_1, .ref ax1_6_2])), (ax1_6_1, .inl (cx1_6_1, 4, .inl fx1_6_1)), (ax1_6_2, .inl (cx1_6_2, 4, .inl fx1_6_2))]) [0, 2, 1, 3] (by decide) rfl
    have hK9 := hK.sub (tys' := [(cx1_6_1, .int), (cx1_6_2, .int)]) [0, 1] rfl
    refine W.widen (k := 0) (n := 0) (Nat.le_of_ble_eq_true rfl) (Nat.le_of_ble_eq_true rfl) ?_
    exact W.iret (v := (-1)) hx hb hr (fun t ht hW => ⟨⟨(-1), (), rfl, Or.inr (Or.inr (Or.inl (rfl))), by rw [ht]; exact hP9, va_K.moved hW.alike hK9, hD9⟩, hS.F ht⟩) hS.2.2 dX10_message_12
  · refine lv_if_ne (tgt := 13) hx hb dX10_message_8 (by decide) (fun _ => ?_) (fun h => absurd h (by decide))
    refine lv_iload_n hx hb dX10_message_13 rfl (lv_at hl 2 rfl) ?_
    rcases (il_sw2 p1 (0) (1)) with s_4 | s_5 | ⟨s_4, s_5⟩
    · refine lv_lookup (off := 26) (tgt := 40) hx hb dX10_message_14 (by decide) (by rw [s_4]; decide) (by decide) ?_
      refine lv_aload_n hx hb dX10_message_40 rfl (lv_at hl 0 rfl) ?_
      refine va_get (D := (dC, dI)) (ci := 10) (v := .ref ox10_6) (C := RX10) (T := TX10) (N := 16) hx hb hts inlX10 hown hK hP 0 rfl rfl 6 (by decide) (hts (.fieldLink RX10 48 "ShapeReader" "messages" "LShapeReader$Messages;") mw_21_1) (fun _ h9 => h9) rfl dX10_message_41 ?_
      refine lv_iload_n hx hb dX10_message_44 rfl (lv_at hl 1 rfl) ?_
      have hPc := hP.sub (ws' := [(ox10_6, .inr (1, [.ref ax1_6_0, .ref ax1_6_1, .ref ax1_6_2])), (ax1_6_1, .inl (cx1_6_1, 4, .inl fx1_6_1))]) [2, 1] rfl
      have hDc := hD.sub (ws' := [(ox10_6, .inr (1, [.ref ax1_6_0, .ref ax1_6_1, .ref ax1_6_2])), (ax1_6_1, .inl (cx1_6_1, 4, .inl fx1_6_1))]) [2, 1] (by decide) rfl
      have hKc := hK.sub (tys' := [(cx1_6_1, .int)]) [0] rfl
      have hFc := va_free (wc := [(ox10_6, .inr (1, [.ref ax1_6_0, .ref ax1_6_1, .ref ax1_6_2])), (ax1_6_1, .inl (cx1_6_1, 4, .inl fx1_6_1))]) hD hS hA [2, 1] rfl
      refine va_calli (va_runV (As := [.int p0]) (rest := []) ⟨hx, hb, hml, hown, hts⟩ (s_X1_sizeOf l dC dI ox10_6 ax1_6_0 ax1_6_1 cx1_6_1 fx1_6_1 ax1_6_2 p0 H.size) (cwV 1 hts (gV mw_24_3 mw_4_20 mw_4_21 mw_0_5 mw_47_2) rfl rfl rfl (by decide +kernel) ⟨(Nat.le_of_ble_eq_true rfl), (Nat.le_of_ble_eq_true rfl)⟩) (vV (ci := 1) (q0 := 0) hKc hPc hDc hN rfl rfl) rfl rfl hl.1 rfl (lv_room (Nat.le_of_ble_eq_true rfl)) dX10_message_45 ⟨(Nat.le_of_ble_eq_true rfl), (Nat.le_of_ble_eq_true rfl)⟩) hS (fun q _ h => hFc q h) hFc (fun r_6 u t H1 locs ht hvm hw hB hz1 hk1 hS => ?_)
      obtain ⟨hP1, hK1, hD1⟩ := hB
      rw [ht] at hP1
      have hK1 := va_K.moved hvm.symm hK1
      obtain ⟨hP, hD⟩ := va_join (wr := [(h0, .inr (10, [.ref ax10_0, .int xx10_1, .ref ox10_2, .ref ox10_3, .ref ox10_4, .ref ox10_5, .ref ox10_6, .ref ox10_7, .ref ox10_8, .ref ox10_9, .ref ox10_10, .ref ox10_11, .ref ox10_12, .ref ox10_13, .ref ox10_14, .ref ox10_15])), (ax1_6_2, .inl (cx1_6_2, 4, .inl fx1_6_2))]) (w1 := [(ox10_6, .inr (1, [.ref ax1_6_0, .ref ax1_6_1, .ref ax1_6_2])), (ax1_6_1, .inl (cx1_6_1, 4, .inl fx1_6_1))]) hP hD [2, 1] [0, 3] rfl rfl (by decide) (by decide) hk1 hFc hP1 hD1
      clear hPc hDc hKc hP1 hK1 hD1 hFc hk1 hz1
      generalize H1 = H at hP hS ⊢
      have hP : va_P (dC, dI) vwCl [(h0, .inr (10, [.ref ax10_0, .int xx10_1, .ref ox10_2, .ref ox10_3, .ref ox10_4, .ref ox10_5, .ref ox10_6, .ref ox10_7, .ref ox10_8, .ref ox10_9, .ref ox10_10, .ref ox10_11, .ref ox10_12, .ref ox10_13, .ref ox10_14, .ref ox10_15])), (ax1_6_2, .inl (cx1_6_2, 4, .inl fx1_6_2)), (ox10_6, .inr (1, [.ref ax1_6_0, .ref ax1_6_1, .ref ax1_6_2])), (ax1_6_1, .inl (cx1_6_1, 4, .inl fx1_6_1))] H := hP
      have hD : va_D A [(h0, .inr (10, [.ref ax10_0, .int xx10_1, .ref ox10_2, .ref ox10_3, .ref ox10_4, .ref ox10_5, .ref ox10_6, .ref ox10_7, .ref ox10_8, .ref ox10_9, .ref ox10_10, .ref ox10_11, .ref ox10_12, .ref ox10_13, .ref ox10_14, .ref ox10_15])), (ax1_6_2, .inl (cx1_6_2, 4, .inl fx1_6_2)), (ox10_6, .inr (1, [.ref ax1_6_0, .ref ax1_6_1, .ref ax1_6_2])), (ax1_6_1, .inl (cx1_6_1, 4, .inl fx1_6_1))] := hD
      rcases hw with q_7 | rfl
      · have hP9 := hP.sub (ws' := [(h0, .inr (10, [.ref ax10_0, .int xx10_1, .ref ox10_2, .ref ox10_3, .ref ox10_4, .ref ox10_5, .ref ox10_6, .ref ox10_7, .ref ox10_8, .ref ox10_9, .ref ox10_10, .ref ox10_11, .ref ox10_12, .ref ox10_13, .ref ox10_14, .ref ox10_15])), (ox10_6, .inr (1, [.ref ax1_6_0, .ref ax1_6_1, .ref ax1_6_2])), (ax1_6_1, .inl (cx1_6_1, 4, .inl fx1_6_1)), (ax1_6_2, .inl (cx1_6_2, 4, .inl fx1_6_2))]) [0, 2, 3, 1] rfl
        have hD9 := hD.sub (ws' := [(h0, .inr (10, [.ref ax10_0, .int xx10_1, .ref ox10_2, .ref ox10_3, .ref ox10_4, .ref ox10_5, .ref ox10_6, .ref ox10_7, .ref ox10_8, .ref ox10_9, .ref ox10_10, .ref ox10_11, .ref ox10_12, .ref ox10_13, .ref ox10_14, .ref ox10_15])), (ox10_6, .inr (1, [.ref ax1_6_0, .ref ax1_6_1, .ref ax1_6_2])), (ax1_6_1, .inl (cx1_6_1, 4, .inl fx1_6_1)), (ax1_6_2, .inl (cx1_6_2, 4, .inl fx1_6_2))]) [0, 2, 3, 1] (by decide) rfl
        have hK9 := hK.sub (tys' := [(cx1_6_1, .int), (cx1_6_2, .int)]) [0, 1] rfl
        refine W.widen (k := 0) (n := 0) (Nat.le_of_ble_eq_true rfl) (Nat.le_of_ble_eq_true rfl) ?_
        exact W.iret (v := r_6) hx hb hr (fun t ht hW => ⟨⟨r_6, (), rfl, Or.inl (⟨(by rw [q_7]), s_4⟩), by rw [ht]; exact hP9, va_K.moved hW.alike hK9, hD9⟩, hS.F ht⟩) hS.2.2 dX10_message_48
      · have hP9 := hP.sub (ws' := [(h0, .inr (10, [.ref ax10_0, .int xx10_1, .ref ox10_2, .ref ox10_3, .ref ox10_4, .ref ox10_5, .ref ox10_6, .ref ox10_7, .ref ox10_8, .ref ox10_9, .ref ox10_10, .ref ox10_11, .ref ox10_12, .ref ox10_13, .ref ox10_14, .ref ox10_15])), (ox10_6, .inr (1, [.ref ax1_6_0, .ref ax1_6_1, .ref ax1_6_2])), (ax1_6_1, .inl (cx1_6_1, 4, .inl fx1_6_1)), (ax1_6_2, .inl (cx1_6_2, 4, .inl fx1_6_2))]) [0, 2, 3, 1] rfl
        have hD9 := hD.sub (ws' := [(h0, .inr (10, [.ref ax10_0, .int xx10_1, .ref ox10_2, .ref ox10_3, .ref ox10_4, .ref ox10_5, .ref ox10_6, .ref ox10_7, .ref ox10_8, .ref ox10_9, .ref ox10_10, .ref ox10_11, .ref ox10_12, .ref ox10_13, .ref ox10_14, .ref ox10_15])), (ox10_6, .inr (1, [.ref ax1_6_0, .ref ax1_6_1, .ref ax1_6_2])), (ax1_6_1, .inl (cx1_6_1, 4, .inl fx1_6_1)), (ax1_6_2, .inl (cx1_6_2, 4, .inl fx1_6_2))]) [0, 2, 3, 1] (by decide) rfl
        have hK9 := hK.sub (tys' := [(cx1_6_1, .int), (cx1_6_2, .int)]) [0, 1] rfl
        refine W.widen (k := 0) (n := 0) (Nat.le_of_ble_eq_true rfl) (Nat.le_of_ble_eq_true rfl) ?_
        exact W.iret (v := 0) hx hb hr (fun t ht hW => ⟨⟨0, (), rfl, Or.inr (Or.inr (Or.inr (⟨rfl, s_4⟩))), by rw [ht]; exact hP9, va_K.moved hW.alike hK9, hD9⟩, hS.F ht⟩) hS.2.2 dX10_message_48
    · refine lv_lookup (off := 35) (tgt := 49) hx hb dX10_message_14 (by decide) (by rw [s_5]; decide) (by decide) ?_
      refine lv_aload_n hx hb dX10_message_49 rfl (lv_at hl 0 rfl) ?_
      refine va_get (D := (dC, dI)) (ci := 10) (v := .ref ox10_6) (C := RX10) (T := TX10) (N := 16) hx hb hts inlX10 hown hK hP 0 rfl rfl 6 (by decide) (hts (.fieldLink RX10 48 "ShapeReader" "messages" "LShapeReader$Messages;") mw_21_1) (fun _ h9 => h9) rfl dX10_message_50 ?_
      refine lv_iload_n hx hb dX10_message_53 rfl (lv_at hl 1 rfl) ?_
      have hPc := hP.sub (ws' := [(ox10_6, .inr (1, [.ref ax1_6_0, .ref ax1_6_1, .ref ax1_6_2])), (ax1_6_2, .inl (cx1_6_2, 4, .inl fx1_6_2))]) [2, 3] rfl
      have hDc := hD.sub (ws' := [(ox10_6, .inr (1, [.ref ax1_6_0, .ref ax1_6_1, .ref ax1_6_2])), (ax1_6_2, .inl (cx1_6_2, 4, .inl fx1_6_2))]) [2, 3] (by decide) rfl
      have hKc := hK.sub (tys' := [(cx1_6_2, .int)]) [1] rfl
      have hFc := va_free (wc := [(ox10_6, .inr (1, [.ref ax1_6_0, .ref ax1_6_1, .ref ax1_6_2])), (ax1_6_2, .inl (cx1_6_2, 4, .inl fx1_6_2))]) hD hS hA [2, 3] rfl
      refine va_calli (va_runV (As := [.int p0]) (rest := []) ⟨hx, hb, hml, hown, hts⟩ (s_X1_planOf l dC dI ox10_6 ax1_6_0 ax1_6_1 ax1_6_2 cx1_6_2 fx1_6_2 p0 H.size) (cwV 1 hts (gV mw_24_4 mw_10_28 mw_10_29 mw_0_5 mw_47_3) rfl rfl rfl (by decide +kernel) ⟨(Nat.le_of_ble_eq_true rfl), (Nat.le_of_ble_eq_true rfl)⟩) (vV (ci := 1) (q0 := 0) hKc hPc hDc hN rfl rfl) rfl rfl hl.1 rfl (lv_room (Nat.le_of_ble_eq_true rfl)) dX10_message_54 ⟨(Nat.le_of_ble_eq_true rfl), (Nat.le_of_ble_eq_true rfl)⟩) hS (fun q _ h => hFc q h) hFc (fun r_8 u t H1 locs ht hvm hw hB hz1 hk1 hS => ?_)
      obtain ⟨hP1, hK1, hD1⟩ := hB
      rw [ht] at hP1
      have hK1 := va_K.moved hvm.symm hK1
      obtain ⟨hP, hD⟩ := va_join (wr := [(h0, .inr (10, [.ref ax10_0, .int xx10_1, .ref ox10_2, .ref ox10_3, .ref ox10_4, .ref ox10_5, .ref ox10_6, .ref ox10_7, .ref ox10_8, .ref ox10_9, .ref ox10_10, .ref ox10_11, .ref ox10_12, .ref ox10_13, .ref ox10_14, .ref ox10_15])), (ax1_6_1, .inl (cx1_6_1, 4, .inl fx1_6_1))]) (w1 := [(ox10_6, .inr (1, [.ref ax1_6_0, .ref ax1_6_1, .ref ax1_6_2])), (ax1_6_2, .inl (cx1_6_2, 4, .inl fx1_6_2))]) hP hD [2, 3] [0, 1] rfl rfl (by decide) (by decide) hk1 hFc hP1 hD1
      clear hPc hDc hKc hP1 hK1 hD1 hFc hk1 hz1
      generalize H1 = H at hP hS ⊢
      have hP : va_P (dC, dI) vwCl [(h0, .inr (10, [.ref ax10_0, .int xx10_1, .ref ox10_2, .ref ox10_3, .ref ox10_4, .ref ox10_5, .ref ox10_6, .ref ox10_7, .ref ox10_8, .ref ox10_9, .ref ox10_10, .ref ox10_11, .ref ox10_12, .ref ox10_13, .ref ox10_14, .ref ox10_15])), (ax1_6_1, .inl (cx1_6_1, 4, .inl fx1_6_1)), (ox10_6, .inr (1, [.ref ax1_6_0, .ref ax1_6_1, .ref ax1_6_2])), (ax1_6_2, .inl (cx1_6_2, 4, .inl fx1_6_2))] H := hP
      have hD : va_D A [(h0, .inr (10, [.ref ax10_0, .int xx10_1, .ref ox10_2, .ref ox10_3, .ref ox10_4, .ref ox10_5, .ref ox10_6, .ref ox10_7, .ref ox10_8, .ref ox10_9, .ref ox10_10, .ref ox10_11, .ref ox10_12, .ref ox10_13, .ref ox10_14, .ref ox10_15])), (ax1_6_1, .inl (cx1_6_1, 4, .inl fx1_6_1)), (ox10_6, .inr (1, [.ref ax1_6_0, .ref ax1_6_1, .ref ax1_6_2])), (ax1_6_2, .inl (cx1_6_2, 4, .inl fx1_6_2))] := hD
      rcases hw with q_9 | rfl
      · have hP9 := hP.sub (ws' := [(h0, .inr (10, [.ref ax10_0, .int xx10_1, .ref ox10_2, .ref ox10_3, .ref ox10_4, .ref ox10_5, .ref ox10_6, .ref ox10_7, .ref ox10_8, .ref ox10_9, .ref ox10_10, .ref ox10_11, .ref ox10_12, .ref ox10_13, .ref ox10_14, .ref ox10_15])), (ox10_6, .inr (1, [.ref ax1_6_0, .ref ax1_6_1, .ref ax1_6_2])), (ax1_6_1, .inl (cx1_6_1, 4, .inl fx1_6_1)), (ax1_6_2, .inl (cx1_6_2, 4, .inl fx1_6_2))]) [0, 2, 1, 3] rfl
        have hD9 := hD.sub (ws' := [(h0, .inr (10, [.ref ax10_0, .int xx10_1, .ref ox10_2, .ref ox10_3, .ref ox10_4, .ref ox10_5, .ref ox10_6, .ref ox10_7, .ref ox10_8, .ref ox10_9, .ref ox10_10, .ref ox10_11, .ref ox10_12, .ref ox10_13, .ref ox10_14, .ref ox10_15])), (ox10_6, .inr (1, [.ref ax1_6_0, .ref ax1_6_1, .ref ax1_6_2])), (ax1_6_1, .inl (cx1_6_1, 4, .inl fx1_6_1)), (ax1_6_2, .inl (cx1_6_2, 4, .inl fx1_6_2))]) [0, 2, 1, 3] (by decide) rfl
        have hK9 := hK.sub (tys' := [(cx1_6_1, .int), (cx1_6_2, .int)]) [0, 1] rfl
        refine W.widen (k := 0) (n := 0) (Nat.le_of_ble_eq_true rfl) (Nat.le_of_ble_eq_true rfl) ?_
        exact W.iret (v := r_8) hx hb hr (fun t ht hW => ⟨⟨r_8, (), rfl, Or.inr (Or.inl (⟨(by rw [q_9]), s_5⟩)), by rw [ht]; exact hP9, va_K.moved hW.alike hK9, hD9⟩, hS.F ht⟩) hS.2.2 dX10_message_57
      · have hP9 := hP.sub (ws' := [(h0, .inr (10, [.ref ax10_0, .int xx10_1, .ref ox10_2, .ref ox10_3, .ref ox10_4, .ref ox10_5, .ref ox10_6, .ref ox10_7, .ref ox10_8, .ref ox10_9, .ref ox10_10, .ref ox10_11, .ref ox10_12, .ref ox10_13, .ref ox10_14, .ref ox10_15])), (ox10_6, .inr (1, [.ref ax1_6_0, .ref ax1_6_1, .ref ax1_6_2])), (ax1_6_1, .inl (cx1_6_1, 4, .inl fx1_6_1)), (ax1_6_2, .inl (cx1_6_2, 4, .inl fx1_6_2))]) [0, 2, 1, 3] rfl
        have hD9 := hD.sub (ws' := [(h0, .inr (10, [.ref ax10_0, .int xx10_1, .ref ox10_2, .ref ox10_3, .ref ox10_4, .ref ox10_5, .ref ox10_6, .ref ox10_7, .ref ox10_8, .ref ox10_9, .ref ox10_10, .ref ox10_11, .ref ox10_12, .ref ox10_13, .ref ox10_14, .ref ox10_15])), (ox10_6, .inr (1, [.ref ax1_6_0, .ref ax1_6_1, .ref ax1_6_2])), (ax1_6_1, .inl (cx1_6_1, 4, .inl fx1_6_1)), (ax1_6_2, .inl (cx1_6_2, 4, .inl fx1_6_2))]) [0, 2, 1, 3] (by decide) rfl
        have hK9 := hK.sub (tys' := [(cx1_6_1, .int), (cx1_6_2, .int)]) [0, 1] rfl
        refine W.widen (k := 0) (n := 0) (Nat.le_of_ble_eq_true rfl) (Nat.le_of_ble_eq_true rfl) ?_
        exact W.iret (v := (-1)) hx hb hr (fun t ht hW => ⟨⟨(-1), (), rfl, Or.inr (Or.inr (Or.inl (rfl))), by rw [ht]; exact hP9, va_K.moved hW.alike hK9, hD9⟩, hS.F ht⟩) hS.2.2 dX10_message_57
    · refine lv_lookup (off := 44) (tgt := 58) hx hb dX10_message_14 (by decide) (by have a0 := il_ne s_4; have e0 : (0 : Int32).toInt = 0 := (by decide); have a1 := il_ne s_5; have e1 : (1 : Int32).toInt = 1 := (by decide); exact lk_dflt2 (by omega)) (by decide) ?_
      refine lv_iconst (v := (-1)) hx hb dX10_message_58 (by decide) ?_
      have hP9 := hP.sub (ws' := [(h0, .inr (10, [.ref ax10_0, .int xx10_1, .ref ox10_2, .ref ox10_3, .ref ox10_4, .ref ox10_5, .ref ox10_6, .ref ox10_7, .ref ox10_8, .ref ox10_9, .ref ox10_10, .ref ox10_11, .ref ox10_12, .ref ox10_13, .ref ox10_14, .ref ox10_15])), (ox10_6, .inr (1, [.ref ax1_6_0, .ref ax1_6_1, .ref ax1_6_2])), (ax1_6_1, .inl (cx1_6_1, 4, .inl fx1_6_1)), (ax1_6_2, .inl (cx1_6_2, 4, .inl fx1_6_2))]) [0, 2, 1, 3] rfl
      have hD9 := hD.sub (ws' := [(h0, .inr (10, [.ref ax10_0, .int xx10_1, .ref ox10_2, .ref ox10_3, .ref ox10_4, .ref ox10_5, .ref ox10_6, .ref ox10_7, .ref ox10_8, .ref ox10_9, .ref ox10_10, .ref ox10_11, .ref ox10_12, .ref ox10_13, .ref ox10_14, .ref ox10_15])), (ox10_6, .inr (1, [.ref ax1_6_0, .ref ax1_6_1, .ref ax1_6_2])), (ax1_6_1, .inl (cx1_6_1, 4, .inl fx1_6_1)), (ax1_6_2, .inl (cx1_6_2, 4, .inl fx1_6_2))]) [0, 2, 1, 3] (by decide) rfl
      have hK9 := hK.sub (tys' := [(cx1_6_1, .int), (cx1_6_2, .int)]) [0, 1] rfl
      refine W.widen (k := 0) (n := 0) (Nat.le_of_ble_eq_true rfl) (Nat.le_of_ble_eq_true rfl) ?_
      exact W.iret (v := (-1)) hx hb hr (fun t ht hW => ⟨⟨(-1), (), rfl, Or.inr (Or.inr (Or.inl (rfl))), by rw [ht]; exact hP9, va_K.moved hW.alike hK9, hD9⟩, hS.F ht⟩) hS.2.2 dX10_message_59

set_option maxRecDepth 100000 in
set_option maxHeartbeats 4000000 in
theorem s_X10_cut (l : Launch) (dC : Nat → ClassId) (dI : Nat → Nat → Nat) (h0 : Nat) (ax10_0 : Nat) (xx10_1 : Int32) (ox10_2 : Nat) (ox10_3 : Nat) (ox10_4 : Nat) (ox10_5 : Nat) (ox10_6 : Nat) (ax1_6_0 : Nat) (ax1_6_1 : Nat) (cx1_6_1 : ClassId) (fx1_6_1 : Nat → Int32) (ax1_6_2 : Nat) (cx1_6_2 : ClassId) (fx1_6_2 : Nat → Int32) (ox10_7 : Nat) (ox10_8 : Nat) (ox10_9 : Nat) (ox10_10 : Nat) (ox10_11 : Nat) (ox10_12 : Nat) (ox10_13 : Nat) (ox10_14 : Nat) (ox10_15 : Nat) (p0 : Int32) (p1 : Int32) (sz : Nat) : Met l yX10_cut (.code yX10_cut cX10_cut 3 (some .int) :: pw) ({ frames := 3, cells := 0, slots := 0, locals := 65 }) (va_Pc [.ref h0, .int p0, .int p1] (vPre dC dI [(h0, .inr (10, [.ref ax10_0, .int xx10_1, .ref ox10_2, .ref ox10_3, .ref ox10_4, .ref ox10_5, .ref ox10_6, .ref ox10_7, .ref ox10_8, .ref ox10_9, .ref ox10_10, .ref ox10_11, .ref ox10_12, .ref ox10_13, .ref ox10_14, .ref ox10_15])), (ox10_6, .inr (1, [.ref ax1_6_0, .ref ax1_6_1, .ref ax1_6_2])), (ax1_6_1, .inl (cx1_6_1, 4, .inl fx1_6_1)), (ax1_6_2, .inl (cx1_6_2, 4, .inl fx1_6_2))] [(cx1_6_1, .int), (cx1_6_2, .int)] sz)) (va_Qi (fun (r : Int32) (_ : Unit) => (r = (fx1_6_1 p0.toNatClampNeg)) ∨ (r = (-1)) ∨ (r = 0)) (fun (_ : Unit) t => ∃ (z2 : Nat → Int32), vPst dC dI (va_A [(h0, .inr (10, [.ref ax10_0, .int xx10_1, .ref ox10_2, .ref ox10_3, .ref ox10_4, .ref ox10_5, .ref ox10_6, .ref ox10_7, .ref ox10_8, .ref ox10_9, .ref ox10_10, .ref ox10_11, .ref ox10_12, .ref ox10_13, .ref ox10_14, .ref ox10_15])), (ox10_6, .inr (1, [.ref ax1_6_0, .ref ax1_6_1, .ref ax1_6_2])), (ax1_6_1, .inl (cx1_6_1, 4, .inl fx1_6_1)), (ax1_6_2, .inl (cx1_6_2, 4, .inl fx1_6_2))] sz) [(h0, .inr (10, [.ref ax10_0, .int xx10_1, .ref ox10_2, .ref ox10_3, .ref ox10_4, .ref ox10_5, .ref ox10_6, .ref ox10_7, .ref ox10_8, .ref ox10_9, .ref ox10_10, .ref ox10_11, .ref ox10_12, .ref ox10_13, .ref ox10_14, .ref ox10_15])), (ox10_6, .inr (1, [.ref ax1_6_0, .ref ax1_6_1, .ref ax1_6_2])), (ax1_6_1, .inl (cx1_6_1, 4, .inl z2)), (ax1_6_2, .inl (cx1_6_2, 4, .inl fx1_6_2))] [(cx1_6_1, .int), (cx1_6_2, .int)] t) (va_A [(h0, .inr (10, [.ref ax10_0, .int xx10_1, .ref ox10_2, .ref ox10_3, .ref ox10_4, .ref ox10_5, .ref ox10_6, .ref ox10_7, .ref ox10_8, .ref ox10_9, .ref ox10_10, .ref ox10_11, .ref ox10_12, .ref ox10_13, .ref ox10_14, .ref ox10_15])), (ox10_6, .inr (1, [.ref ax1_6_0, .ref ax1_6_1, .ref ax1_6_2])), (ax1_6_1, .inl (cx1_6_1, 4, .inl fx1_6_1)), (ax1_6_2, .inl (cx1_6_2, 4, .inl fx1_6_2))] sz)) 0 0 (va_A [(h0, .inr (10, [.ref ax10_0, .int xx10_1, .ref ox10_2, .ref ox10_3, .ref ox10_4, .ref ox10_5, .ref ox10_6, .ref ox10_7, .ref ox10_8, .ref ox10_9, .ref ox10_10, .ref ox10_11, .ref ox10_12, .ref ox10_13, .ref ox10_14, .ref ox10_15])), (ox10_6, .inr (1, [.ref ax1_6_0, .ref ax1_6_1, .ref ax1_6_2])), (ax1_6_1, .inl (cx1_6_1, 4, .inl fx1_6_1)), (ax1_6_2, .inl (cx1_6_2, 4, .inl fx1_6_2))] sz) := by
  refine Met.ofW (cc := cX10_cut) (maxL := 3) (ret := (some .int)) (by decide) rfl ?_
  intro p e s m args below meth c s₁ B hml hv
  obtain ⟨rfl, hsz, hP, hK, hD0, hN⟩ := hv
  have hx := B.exec
  have hb := B.bytes
  have hr := B.returns
  have hts := atoms_spec (ws := .code yX10_cut cX10_cut 3 (some .int) :: pw) B.pre
  have hts : ∀ w ∈ pw, w.before _ s = true := fun w h => hts w (List.mem_cons_of_mem _ h)
  have hown : s.vm.findClass RX10 = some m.cls := findClass_of_methodNamed B.named
  have hlocks := B.notSynchronized
  subst hsz
  have hD := hD0.self (sz := s.heap.size)
  generalize hAe : va_A [(h0, .inr (10, [.ref ax10_0, .int xx10_1, .ref ox10_2, .ref ox10_3, .ref ox10_4, .ref ox10_5, .ref ox10_6, .ref ox10_7, .ref ox10_8, .ref ox10_9, .ref ox10_10, .ref ox10_11, .ref ox10_12, .ref ox10_13, .ref ox10_14, .ref ox10_15])), (ox10_6, .inr (1, [.ref ax1_6_0, .ref ax1_6_1, .ref ax1_6_2])), (ax1_6_1, .inl (cx1_6_1, 4, .inl fx1_6_1)), (ax1_6_2, .inl (cx1_6_2, 4, .inl fx1_6_2))] s.heap.size = A at hD ⊢
  have hA : ∀ q : Nat, s.heap.size ≤ q → A q := fun q h => by rw [← hAe]; exact Or.inr h
  have hS : va_S A s.heap s.heap [] := va_S.rf
  have hP : va_P (dC, dI) vwCl [(h0, .inr (10, [.ref ax10_0, .int xx10_1, .ref ox10_2, .ref ox10_3, .ref ox10_4, .ref ox10_5, .ref ox10_6, .ref ox10_7, .ref ox10_8, .ref ox10_9, .ref ox10_10, .ref ox10_11, .ref ox10_12, .ref ox10_13, .ref ox10_14, .ref ox10_15])), (ox10_6, .inr (1, [.ref ax1_6_0, .ref ax1_6_1, .ref ax1_6_2])), (ax1_6_1, .inl (cx1_6_1, 4, .inl fx1_6_1)), (ax1_6_2, .inl (cx1_6_2, 4, .inl fx1_6_2))] s.heap := hP
  have hl := lv_entry ([.ref h0, .int p0, .int p1]) (n := 3) (Nat.le_of_ble_eq_true rfl)
  rw [lg_entry_eq]
  generalize (lg_sl ([.ref h0, .int p0, .int p1]) ++ List.replicate (3 - (lg_sl ([.ref h0, .int p0, .int p1])).length) Slot.unset).toArray = ls at hl ⊢
  have hl : lv_has ls 3 [(0, .ref h0), (1, .int p0), (2, .int p1)] := hl
  refine lv_aload_n hx hb dX10_cut_0 rfl (lv_at hl 0 rfl) ?_
  refine va_get (D := (dC, dI)) (ci := 10) (v := .ref ox10_6) (C := RX10) (T := TX10) (N := 16) hx hb hts inlX10 hown hK hP 0 rfl rfl 6 (by decide) (hts (.fieldLink RX10 48 "ShapeReader" "messages" "LShapeReader$Messages;") mw_21_1) (fun _ h9 => h9) rfl dX10_cut_1 ?_
  refine lv_iload_n hx hb dX10_cut_4 rfl (lv_at hl 1 rfl) ?_
  have hPc := hP.sub (ws' := [(ox10_6, .inr (1, [.ref ax1_6_0, .ref ax1_6_1, .ref ax1_6_2])), (ax1_6_2, .inl (cx1_6_2, 4, .inl fx1_6_2))]) [1, 3] rfl
  have hDc := hD.sub (ws' := [(ox10_6, .inr (1, [.ref ax1_6_0, .ref ax1_6_1, .ref ax1_6_2])), (ax1_6_2, .inl (cx1_6_2, 4, .inl fx1_6_2))]) [1, 3] (by decide) rfl
  have hKc := hK.sub (tys' := [(cx1_6_2, .int)]) [1] rfl
  have hFc := va_free (wc := [(ox10_6, .inr (1, [.ref ax1_6_0, .ref ax1_6_1, .ref ax1_6_2])), (ax1_6_2, .inl (cx1_6_2, 4, .inl fx1_6_2))]) hD hS hA [1, 3] rfl
  refine va_calli (va_runV (As := [.int p0]) (rest := []) ⟨hx, hb, hml, hown, hts⟩ (s_X1_isWritten l dC dI ox10_6 ax1_6_0 ax1_6_1 ax1_6_2 cx1_6_2 fx1_6_2 p0 s.heap.size) (cwV 1 hts (gV mw_24_2 mw_4_11 mw_4_12 mw_0_5 mw_47_0) rfl rfl rfl (by decide +kernel) ⟨(Nat.le_of_ble_eq_true rfl), (Nat.le_of_ble_eq_true rfl)⟩) (vV (ci := 1) (q0 := 0) hKc hPc hDc hN rfl rfl) rfl rfl hl.1 rfl (lv_room (Nat.le_of_ble_eq_true rfl)) dX10_cut_5 ⟨(Nat.le_of_ble_eq_true rfl), (Nat.le_of_ble_eq_true rfl)⟩) hS (fun q _ h => hFc q h) hFc (fun r_1 u t H1 locs ht hvm hw hB hz1 hk1 hS => ?_)
  obtain ⟨hP1, hK1, hD1⟩ := hB
  rw [ht] at hP1
  have hK1 := va_K.moved hvm.symm hK1
  obtain ⟨hP, hD⟩ := va_join (wr := [(h0, .inr (10, [.ref ax10_0, .int xx10_1, .ref ox10_2, .ref ox10_3, .ref ox10_4, .ref ox10_5, .ref ox10_6, .ref ox10_7, .ref ox10_8, .ref ox10_9, .ref ox10_10, .ref ox10_11, .ref ox10_12, .ref ox10_13, .ref ox10_14, .ref ox10_15])), (ax1_6_1, .inl (cx1_6_1, 4, .inl fx1_6_1))]) (w1 := [(ox10_6, .inr (1, [.ref ax1_6_0, .ref ax1_6_1, .ref ax1_6_2])), (ax1_6_2, .inl (cx1_6_2, 4, .inl fx1_6_2))]) hP hD [1, 3] [0, 2] rfl rfl (by decide) (by decide) hk1 hFc hP1 hD1
  clear hPc hDc hKc hP1 hK1 hD1 hFc hk1 hz1
  generalize H1 = H at hP hS ⊢
  have hP : va_P (dC, dI) vwCl [(h0, .inr (10, [.ref ax10_0, .int xx10_1, .ref ox10_2, .ref ox10_3, .ref ox10_4, .ref ox10_5, .ref ox10_6, .ref ox10_7, .ref ox10_8, .ref ox10_9, .ref ox10_10, .ref ox10_11, .ref ox10_12, .ref ox10_13, .ref ox10_14, .ref ox10_15])), (ax1_6_1, .inl (cx1_6_1, 4, .inl fx1_6_1)), (ox10_6, .inr (1, [.ref ax1_6_0, .ref ax1_6_1, .ref ax1_6_2])), (ax1_6_2, .inl (cx1_6_2, 4, .inl fx1_6_2))] H := hP
  have hD : va_D A [(h0, .inr (10, [.ref ax10_0, .int xx10_1, .ref ox10_2, .ref ox10_3, .ref ox10_4, .ref ox10_5, .ref ox10_6, .ref ox10_7, .ref ox10_8, .ref ox10_9, .ref ox10_10, .ref ox10_11, .ref ox10_12, .ref ox10_13, .ref ox10_14, .ref ox10_15])), (ax1_6_1, .inl (cx1_6_1, 4, .inl fx1_6_1)), (ox10_6, .inr (1, [.ref ax1_6_0, .ref ax1_6_1, .ref ax1_6_2])), (ax1_6_2, .inl (cx1_6_2, 4, .inl fx1_6_2))] := hD
  rcases hw with rfl | rfl
  · refine lv_if_eq (tgt := 27) hx hb dX10_cut_8 (by decide) (fun _ => ?_) (fun h => absurd (by decide) h)
    refine lv_iconst (v := (-1)) hx hb dX10_cut_27 (by decide) ?_
    have hP9 := hP.sub (ws' := [(h0, .inr (10, [.ref ax10_0, .int xx10_1, .ref ox10_2, .ref ox10_3, .ref ox10_4, .ref ox10_5, .ref ox10_6, .ref ox10_7, .ref ox10_8, .ref ox10_9, .ref ox10_10, .ref ox10_11, .ref ox10_12, .ref ox10_13, .ref ox10_14, .ref ox10_15])), (ox10_6, .inr (1, [.ref ax1_6_0, .ref ax1_6_1, .ref ax1_6_2])), (ax1_6_1, .inl (cx1_6_1, 4, .inl fx1_6_1)), (ax1_6_2, .inl (cx1_6_2, 4, .inl fx1_6_2))]) [0, 2, 1, 3] rfl
    have hD9 := hD.sub (ws' := [(h0, .inr (10, [.ref ax10_0, .int xx10_1, .ref ox10_2, .ref ox10_3, .ref ox10_4, .ref ox10_5, .ref ox10_6, .ref ox10_7, .ref ox10_8, .ref ox10_9, .ref ox10_10, .ref ox10_11, .ref ox10_12, .ref ox10_13, .ref ox10_14, .ref ox10_15])), (ox10_6, .inr (1, [.ref ax1_6_0, .ref ax1_6_1, .ref ax1_6_2])), (ax1_6_1, .inl (cx1_6_1, 4, .inl fx1_6_1)), (ax1_6_2, .inl (cx1_6_2, 4, .inl fx1_6_2))]) [0, 2, 1, 3] (by decide) rfl
    have hK9 := hK.sub (tys' := [(cx1_6_1, .int), (cx1_6_2, .int)]) [0, 1] rfl
    refine W.widen (k := 0) (n := 0) (Nat.le_of_ble_eq_true rfl) (Nat.le_of_ble_eq_true rfl) ?_
    exact W.iret (v := (-1)) hx hb hr (fun t ht hW => ⟨⟨(-1), (), rfl, Or.inr (Or.inl (rfl)), fx1_6_1, by rw [ht]; exact hP9, va_K.moved hW.alike hK9, hD9⟩, hS.F ht⟩) hS.2.2 dX10_cut_28
  · refine lv_if_eq (tgt := 27) hx hb dX10_cut_8 (by decide) (fun h => absurd h (by decide)) (fun _ => ?_)
    refine lv_iload_n hx hb dX10_cut_11 rfl (lv_at hl 2 rfl) ?_
    refine lv_if_lt (tgt := 27) hx hb dX10_cut_12 (by decide) (fun c_4 => ?_) (fun c_4 => ?_)
    · refine lv_iconst (v := (-1)) hx hb dX10_cut_27 (by decide) ?_
      have hP9 := hP.sub (ws' := [(h0, .inr (10, [.ref ax10_0, .int xx10_1, .ref ox10_2, .ref ox10_3, .ref ox10_4, .ref ox10_5, .ref ox10_6, .ref ox10_7, .ref ox10_8, .ref ox10_9, .ref ox10_10, .ref ox10_11, .ref ox10_12, .ref ox10_13, .ref ox10_14, .ref ox10_15])), (ox10_6, .inr (1, [.ref ax1_6_0, .ref ax1_6_1, .ref ax1_6_2])), (ax1_6_1, .inl (cx1_6_1, 4, .inl fx1_6_1)), (ax1_6_2, .inl (cx1_6_2, 4, .inl fx1_6_2))]) [0, 2, 1, 3] rfl
      have hD9 := hD.sub (ws' := [(h0, .inr (10, [.ref ax10_0, .int xx10_1, .ref ox10_2, .ref ox10_3, .ref ox10_4, .ref ox10_5, .ref ox10_6, .ref ox10_7, .ref ox10_8, .ref ox10_9, .ref ox10_10, .ref ox10_11, .ref ox10_12, .ref ox10_13, .ref ox10_14, .ref ox10_15])), (ox10_6, .inr (1, [.ref ax1_6_0, .ref ax1_6_1, .ref ax1_6_2])), (ax1_6_1, .inl (cx1_6_1, 4, .inl fx1_6_1)), (ax1_6_2, .inl (cx1_6_2, 4, .inl fx1_6_2))]) [0, 2, 1, 3] (by decide) rfl
      have hK9 := hK.sub (tys' := [(cx1_6_1, .int), (cx1_6_2, .int)]) [0, 1] rfl
      refine W.widen (k := 0) (n := 0) (Nat.le_of_ble_eq_true rfl) (Nat.le_of_ble_eq_true rfl) ?_
      exact W.iret (v := (-1)) hx hb hr (fun t ht hW => ⟨⟨(-1), (), rfl, Or.inr (Or.inl (rfl)), fx1_6_1, by rw [ht]; exact hP9, va_K.moved hW.alike hK9, hD9⟩, hS.F ht⟩) hS.2.2 dX10_cut_28
    · refine lv_iload_n hx hb dX10_cut_15 rfl (lv_at hl 2 rfl) ?_
      refine lv_aload_n hx hb dX10_cut_16 rfl (lv_at hl 0 rfl) ?_
      refine va_get (D := (dC, dI)) (ci := 10) (v := .ref ox10_6) (C := RX10) (T := TX10) (N := 16) hx hb hts inlX10 hown hK hP 0 rfl rfl 6 (by decide) (hts (.fieldLink RX10 48 "ShapeReader" "messages" "LShapeReader$Messages;") mw_21_1) (fun _ h9 => h9) rfl dX10_cut_17 ?_
      refine lv_iload_n hx hb dX10_cut_20 rfl (lv_at hl 1 rfl) ?_
      have hPc := hP.sub (ws' := [(ox10_6, .inr (1, [.ref ax1_6_0, .ref ax1_6_1, .ref ax1_6_2])), (ax1_6_1, .inl (cx1_6_1, 4, .inl fx1_6_1))]) [2, 1] rfl
      have hDc := hD.sub (ws' := [(ox10_6, .inr (1, [.ref ax1_6_0, .ref ax1_6_1, .ref ax1_6_2])), (ax1_6_1, .inl (cx1_6_1, 4, .inl fx1_6_1))]) [2, 1] (by decide) rfl
      have hKc := hK.sub (tys' := [(cx1_6_1, .int)]) [0] rfl
      have hFc := va_free (wc := [(ox10_6, .inr (1, [.ref ax1_6_0, .ref ax1_6_1, .ref ax1_6_2])), (ax1_6_1, .inl (cx1_6_1, 4, .inl fx1_6_1))]) hD hS hA [2, 1] rfl
      refine va_calli (va_runV (As := [.int p0]) (rest := [.int p1]) ⟨hx, hb, hml, hown, hts⟩ (s_X1_sizeOf l dC dI ox10_6 ax1_6_0 ax1_6_1 cx1_6_1 fx1_6_1 ax1_6_2 p0 H.size) (cwV 1 hts (gV mw_24_3 mw_4_20 mw_4_21 mw_0_5 mw_47_2) rfl rfl rfl (by decide +kernel) ⟨(Nat.le_of_ble_eq_true rfl), (Nat.le_of_ble_eq_true rfl)⟩) (vV (ci := 1) (q0 := 0) hKc hPc hDc hN rfl rfl) rfl rfl hl.1 rfl (lv_room (Nat.le_of_ble_eq_true rfl)) dX10_cut_21 ⟨(Nat.le_of_ble_eq_true rfl), (Nat.le_of_ble_eq_true rfl)⟩) hS (fun q _ h => hFc q h) hFc (fun r_5 u t H1 locs ht hvm hw hB hz1 hk1 hS => ?_)
      obtain ⟨hP1, hK1, hD1⟩ := hB
      rw [ht] at hP1
      have hK1 := va_K.moved hvm.symm hK1
      obtain ⟨hP, hD⟩ := va_join (wr := [(h0, .inr (10, [.ref ax10_0, .int xx10_1, .ref ox10_2, .ref ox10_3, .ref ox10_4, .ref ox10_5, .ref ox10_6, .ref ox10_7, .ref ox10_8, .ref ox10_9, .ref ox10_10, .ref ox10_11, .ref ox10_12, .ref ox10_13, .ref ox10_14, .ref ox10_15])), (ax1_6_2, .inl (cx1_6_2, 4, .inl fx1_6_2))]) (w1 := [(ox10_6, .inr (1, [.ref ax1_6_0, .ref ax1_6_1, .ref ax1_6_2])), (ax1_6_1, .inl (cx1_6_1, 4, .inl fx1_6_1))]) hP hD [2, 1] [0, 3] rfl rfl (by decide) (by decide) hk1 hFc hP1 hD1
      clear hPc hDc hKc hP1 hK1 hD1 hFc hk1 hz1
      generalize H1 = H at hP hS ⊢
      have hP : va_P (dC, dI) vwCl [(h0, .inr (10, [.ref ax10_0, .int xx10_1, .ref ox10_2, .ref ox10_3, .ref ox10_4, .ref ox10_5, .ref ox10_6, .ref ox10_7, .ref ox10_8, .ref ox10_9, .ref ox10_10, .ref ox10_11, .ref ox10_12, .ref ox10_13, .ref ox10_14, .ref ox10_15])), (ax1_6_2, .inl (cx1_6_2, 4, .inl fx1_6_2)), (ox10_6, .inr (1, [.ref ax1_6_0, .ref ax1_6_1, .ref ax1_6_2])), (ax1_6_1, .inl (cx1_6_1, 4, .inl fx1_6_1))] H := hP
      have hD : va_D A [(h0, .inr (10, [.ref ax10_0, .int xx10_1, .ref ox10_2, .ref ox10_3, .ref ox10_4, .ref ox10_5, .ref ox10_6, .ref ox10_7, .ref ox10_8, .ref ox10_9, .ref ox10_10, .ref ox10_11, .ref ox10_12, .ref ox10_13, .ref ox10_14, .ref ox10_15])), (ax1_6_2, .inl (cx1_6_2, 4, .inl fx1_6_2)), (ox10_6, .inr (1, [.ref ax1_6_0, .ref ax1_6_1, .ref ax1_6_2])), (ax1_6_1, .inl (cx1_6_1, 4, .inl fx1_6_1))] := hD
      rcases hw with q_6 | rfl
      · refine lv_icmp_le (tgt := 29) hx hb dX10_cut_24 (by decide) (fun c_7 => ?_) (fun c_7 => ?_)
        · refine lv_aload_n hx hb dX10_cut_29 rfl (lv_at hl 0 rfl) ?_
          refine va_get (D := (dC, dI)) (ci := 10) (v := .ref ox10_6) (C := RX10) (T := TX10) (N := 16) hx hb hts inlX10 hown hK hP 0 rfl rfl 6 (by decide) (hts (.fieldLink RX10 48 "ShapeReader" "messages" "LShapeReader$Messages;") mw_21_1) (fun _ h9 => h9) rfl dX10_cut_30 ?_
          refine lv_iload_n hx hb dX10_cut_33 rfl (lv_at hl 1 rfl) ?_
          refine lv_iload_n hx hb dX10_cut_34 rfl (lv_at hl 2 rfl) ?_
          have hPc := hP.sub (ws' := [(ox10_6, .inr (1, [.ref ax1_6_0, .ref ax1_6_1, .ref ax1_6_2])), (ax1_6_1, .inl (cx1_6_1, 4, .inl fx1_6_1))]) [2, 3] rfl
          have hDc := hD.sub (ws' := [(ox10_6, .inr (1, [.ref ax1_6_0, .ref ax1_6_1, .ref ax1_6_2])), (ax1_6_1, .inl (cx1_6_1, 4, .inl fx1_6_1))]) [2, 3] (by decide) rfl
          have hKc := hK.sub (tys' := [(cx1_6_1, .int)]) [0] rfl
          have hFc := va_free (wc := [(ox10_6, .inr (1, [.ref ax1_6_0, .ref ax1_6_1, .ref ax1_6_2])), (ax1_6_1, .inl (cx1_6_1, 4, .inl fx1_6_1))]) hD hS hA [2, 3] rfl
          refine va_calli (va_runV (As := [.int p0, .int p1]) (rest := []) ⟨hx, hb, hml, hown, hts⟩ (s_X1_shorten l dC dI ox10_6 ax1_6_0 ax1_6_1 cx1_6_1 fx1_6_1 ax1_6_2 p0 p1 H.size) (cwV 2 hts (gV mw_24_12 mw_24_13 mw_24_14 mw_0_5 mw_47_6) rfl rfl rfl (by decide +kernel) ⟨(Nat.le_of_ble_eq_true rfl), (Nat.le_of_ble_eq_true rfl)⟩) (vV (ci := 1) (q0 := 0) hKc hPc hDc hN rfl rfl) rfl rfl hl.1 rfl (lv_room (Nat.le_of_ble_eq_true rfl)) dX10_cut_35 ⟨(Nat.le_of_ble_eq_true rfl), (Nat.le_of_ble_eq_true rfl)⟩) hS (fun q _ h => hFc q h) hFc (fun r_8 u t H1 locs ht hvm hw hB hz1 hk1 hS => ?_)
          obtain ⟨z1_9, hP1, hK1, hD1⟩ := hB
          rw [ht] at hP1
          have hK1 := va_K.moved hvm.symm hK1
          obtain ⟨hP, hD⟩ := va_join (wr := [(h0, .inr (10, [.ref ax10_0, .int xx10_1, .ref ox10_2, .ref ox10_3, .ref ox10_4, .ref ox10_5, .ref ox10_6, .ref ox10_7, .ref ox10_8, .ref ox10_9, .ref ox10_10, .ref ox10_11, .ref ox10_12, .ref ox10_13, .ref ox10_14, .ref ox10_15])), (ax1_6_2, .inl (cx1_6_2, 4, .inl fx1_6_2))]) (w1 := [(ox10_6, .inr (1, [.ref ax1_6_0, .ref ax1_6_1, .ref ax1_6_2])), (ax1_6_1, .inl (cx1_6_1, 4, .inl z1_9))]) hP hD [2, 3] [0, 1] rfl rfl (by decide) (by decide) hk1 hFc hP1 hD1
          clear hPc hDc hKc hP1 hK1 hD1 hFc hk1 hz1
          generalize H1 = H at hP hS ⊢
          have hP : va_P (dC, dI) vwCl [(h0, .inr (10, [.ref ax10_0, .int xx10_1, .ref ox10_2, .ref ox10_3, .ref ox10_4, .ref ox10_5, .ref ox10_6, .ref ox10_7, .ref ox10_8, .ref ox10_9, .ref ox10_10, .ref ox10_11, .ref ox10_12, .ref ox10_13, .ref ox10_14, .ref ox10_15])), (ax1_6_2, .inl (cx1_6_2, 4, .inl fx1_6_2)), (ox10_6, .inr (1, [.ref ax1_6_0, .ref ax1_6_1, .ref ax1_6_2])), (ax1_6_1, .inl (cx1_6_1, 4, .inl z1_9))] H := hP
          have hD : va_D A [(h0, .inr (10, [.ref ax10_0, .int xx10_1, .ref ox10_2, .ref ox10_3, .ref ox10_4, .ref ox10_5, .ref ox10_6, .ref ox10_7, .ref ox10_8, .ref ox10_9, .ref ox10_10, .ref ox10_11, .ref ox10_12, .ref ox10_13, .ref ox10_14, .ref ox10_15])), (ax1_6_2, .inl (cx1_6_2, 4, .inl fx1_6_2)), (ox10_6, .inr (1, [.ref ax1_6_0, .ref ax1_6_1, .ref ax1_6_2])), (ax1_6_1, .inl (cx1_6_1, 4, .inl z1_9))] := hD
          rcases hw with q_10 | rfl
          · have hP9 := hP.sub (ws' := [(h0, .inr (10, [.ref ax10_0, .int xx10_1, .ref ox10_2, .ref ox10_3, .ref ox10_4, .ref ox10_5, .ref ox10_6, .ref ox10_7, .ref ox10_8, .ref ox10_9, .ref ox10_10, .ref ox10_11, .ref ox10_12, .ref ox10_13, .ref ox10_14, .ref ox10_15])), (ox10_6, .inr (1, [.ref ax1_6_0, .ref ax1_6_1, .ref ax1_6_2])), (ax1_6_1, .inl (cx1_6_1, 4, .inl z1_9)), (ax1_6_2, .inl (cx1_6_2, 4, .inl fx1_6_2))]) [0, 2, 3, 1] rfl
            have hD9 := hD.sub (ws' := [(h0, .inr (10, [.ref ax10_0, .int xx10_1, .ref ox10_2, .ref ox10_3, .ref ox10_4, .ref ox10_5, .ref ox10_6, .ref ox10_7, .ref ox10_8, .ref ox10_9, .ref ox10_10, .ref ox10_11, .ref ox10_12, .ref ox10_13, .ref ox10_14, .ref ox10_15])), (ox10_6, .inr (1, [.ref ax1_6_0, .ref ax1_6_1, .ref ax1_6_2])), (ax1_6_1, .inl (cx1_6_1, 4, .inl z1_9)), (ax1_6_2, .inl (cx1_6_2, 4, .inl fx1_6_2))]) [0, 2, 3, 1] (by decide) rfl
            have hK9 := hK.sub (tys' := [(cx1_6_1, .int), (cx1_6_2, .int)]) [0, 1] rfl
            refine W.widen (k := 0) (n := 0) (Nat.le_of_ble_eq_true rfl) (Nat.le_of_ble_eq_true rfl) ?_
            exact W.iret (v := r_8) hx hb hr (fun t ht hW => ⟨⟨r_8, (), rfl, Or.inl ((by rw [q_10])), z1_9, by rw [ht]; exact hP9, va_K.moved hW.alike hK9, hD9⟩, hS.F ht⟩) hS.2.2 dX10_cut_38
          · have hP9 := hP.sub (ws' := [(h0, .inr (10, [.ref ax10_0, .int xx10_1, .ref ox10_2, .ref ox10_3, .ref ox10_4, .ref ox10_5, .ref ox10_6, .ref ox10_7, .ref ox10_8, .ref ox10_9, .ref ox10_10, .ref ox10_11, .ref ox10_12, .ref ox10_13, .ref ox10_14, .ref ox10_15])), (ox10_6, .inr (1, [.ref ax1_6_0, .ref ax1_6_1, .ref ax1_6_2])), (ax1_6_1, .inl (cx1_6_1, 4, .inl z1_9)), (ax1_6_2, .inl (cx1_6_2, 4, .inl fx1_6_2))]) [0, 2, 3, 1] rfl
            have hD9 := hD.sub (ws' := [(h0, .inr (10, [.ref ax10_0, .int xx10_1, .ref ox10_2, .ref ox10_3, .ref ox10_4, .ref ox10_5, .ref ox10_6, .ref ox10_7, .ref ox10_8, .ref ox10_9, .ref ox10_10, .ref ox10_11, .ref ox10_12, .ref ox10_13, .ref ox10_14, .ref ox10_15])), (ox10_6, .inr (1, [.ref ax1_6_0, .ref ax1_6_1, .ref ax1_6_2])), (ax1_6_1, .inl (cx1_6_1, 4, .inl z1_9)), (ax1_6_2, .inl (cx1_6_2, 4, .inl fx1_6_2))]) [0, 2, 3, 1] (by decide) rfl
            have hK9 := hK.sub (tys' := [(cx1_6_1, .int), (cx1_6_2, .int)]) [0, 1] rfl
            refine W.widen (k := 0) (n := 0) (Nat.le_of_ble_eq_true rfl) (Nat.le_of_ble_eq_true rfl) ?_
            exact W.iret (v := 0) hx hb hr (fun t ht hW => ⟨⟨0, (), rfl, Or.inr (Or.inr (rfl)), z1_9, by rw [ht]; exact hP9, va_K.moved hW.alike hK9, hD9⟩, hS.F ht⟩) hS.2.2 dX10_cut_38
        · refine lv_iconst (v := (-1)) hx hb dX10_cut_27 (by decide) ?_
          have hP9 := hP.sub (ws' := [(h0, .inr (10, [.ref ax10_0, .int xx10_1, .ref ox10_2, .ref ox10_3, .ref ox10_4, .ref ox10_5, .ref ox10_6, .ref ox10_7, .ref ox10_8, .ref ox10_9, .ref ox10_10, .ref ox10_11, .ref ox10_12, .ref ox10_13, .ref ox10_14, .ref ox10_15])), (ox10_6, .inr (1, [.ref ax1_6_0, .ref ax1_6_1, .ref ax1_6_2])), (ax1_6_1, .inl (cx1_6_1, 4, .inl fx1_6_1)), (ax1_6_2, .inl (cx1_6_2, 4, .inl fx1_6_2))]) [0, 2, 3, 1] rfl
          have hD9 := hD.sub (ws' := [(h0, .inr (10, [.ref ax10_0, .int xx10_1, .ref ox10_2, .ref ox10_3, .ref ox10_4, .ref ox10_5, .ref ox10_6, .ref ox10_7, .ref ox10_8, .ref ox10_9, .ref ox10_10, .ref ox10_11, .ref ox10_12, .ref ox10_13, .ref ox10_14, .ref ox10_15])), (ox10_6, .inr (1, [.ref ax1_6_0, .ref ax1_6_1, .ref ax1_6_2])), (ax1_6_1, .inl (cx1_6_1, 4, .inl fx1_6_1)), (ax1_6_2, .inl (cx1_6_2, 4, .inl fx1_6_2))]) [0, 2, 3, 1] (by decide) rfl
          have hK9 := hK.sub (tys' := [(cx1_6_1, .int), (cx1_6_2, .int)]) [0, 1] rfl
          refine W.widen (k := 0) (n := 0) (Nat.le_of_ble_eq_true rfl) (Nat.le_of_ble_eq_true rfl) ?_
          exact W.iret (v := (-1)) hx hb hr (fun t ht hW => ⟨⟨(-1), (), rfl, Or.inr (Or.inl (rfl)), fx1_6_1, by rw [ht]; exact hP9, va_K.moved hW.alike hK9, hD9⟩, hS.F ht⟩) hS.2.2 dX10_cut_28
      · refine lv_icmp_le (tgt := 29) hx hb dX10_cut_24 (by decide) (fun c_11 => ?_) (fun c_11 => ?_)
        · refine lv_aload_n hx hb dX10_cut_29 rfl (lv_at hl 0 rfl) ?_
          refine va_get (D := (dC, dI)) (ci := 10) (v := .ref ox10_6) (C := RX10) (T := TX10) (N := 16) hx hb hts inlX10 hown hK hP 0 rfl rfl 6 (by decide) (hts (.fieldLink RX10 48 "ShapeReader" "messages" "LShapeReader$Messages;") mw_21_1) (fun _ h9 => h9) rfl dX10_cut_30 ?_
          refine lv_iload_n hx hb dX10_cut_33 rfl (lv_at hl 1 rfl) ?_
          refine lv_iload_n hx hb dX10_cut_34 rfl (lv_at hl 2 rfl) ?_
          have hPc := hP.sub (ws' := [(ox10_6, .inr (1, [.ref ax1_6_0, .ref ax1_6_1, .ref ax1_6_2])), (ax1_6_1, .inl (cx1_6_1, 4, .inl fx1_6_1))]) [2, 3] rfl
          have hDc := hD.sub (ws' := [(ox10_6, .inr (1, [.ref ax1_6_0, .ref ax1_6_1, .ref ax1_6_2])), (ax1_6_1, .inl (cx1_6_1, 4, .inl fx1_6_1))]) [2, 3] (by decide) rfl
          have hKc := hK.sub (tys' := [(cx1_6_1, .int)]) [0] rfl
          have hFc := va_free (wc := [(ox10_6, .inr (1, [.ref ax1_6_0, .ref ax1_6_1, .ref ax1_6_2])), (ax1_6_1, .inl (cx1_6_1, 4, .inl fx1_6_1))]) hD hS hA [2, 3] rfl
          refine va_calli (va_runV (As := [.int p0, .int p1]) (rest := []) ⟨hx, hb, hml, hown, hts⟩ (s_X1_shorten l dC dI ox10_6 ax1_6_0 ax1_6_1 cx1_6_1 fx1_6_1 ax1_6_2 p0 p1 H.size) (cwV 2 hts (gV mw_24_12 mw_24_13 mw_24_14 mw_0_5 mw_47_6) rfl rfl rfl (by decide +kernel) ⟨(Nat.le_of_ble_eq_true rfl), (Nat.le_of_ble_eq_true rfl)⟩) (vV (ci := 1) (q0 := 0) hKc hPc hDc hN rfl rfl) rfl rfl hl.1 rfl (lv_room (Nat.le_of_ble_eq_true rfl)) dX10_cut_35 ⟨(Nat.le_of_ble_eq_true rfl), (Nat.le_of_ble_eq_true rfl)⟩) hS (fun q _ h => hFc q h) hFc (fun r_12 u t H1 locs ht hvm hw hB hz1 hk1 hS => ?_)
          obtain ⟨z1_13, hP1, hK1, hD1⟩ := hB
          rw [ht] at hP1
          have hK1 := va_K.moved hvm.symm hK1
          obtain ⟨hP, hD⟩ := va_join (wr := [(h0, .inr (10, [.ref ax10_0, .int xx10_1, .ref ox10_2, .ref ox10_3, .ref ox10_4, .ref ox10_5, .ref ox10_6, .ref ox10_7, .ref ox10_8, .ref ox10_9, .ref ox10_10, .ref ox10_11, .ref ox10_12, .ref ox10_13, .ref ox10_14, .ref ox10_15])), (ax1_6_2, .inl (cx1_6_2, 4, .inl fx1_6_2))]) (w1 := [(ox10_6, .inr (1, [.ref ax1_6_0, .ref ax1_6_1, .ref ax1_6_2])), (ax1_6_1, .inl (cx1_6_1, 4, .inl z1_13))]) hP hD [2, 3] [0, 1] rfl rfl (by decide) (by decide) hk1 hFc hP1 hD1
          clear hPc hDc hKc hP1 hK1 hD1 hFc hk1 hz1
          generalize H1 = H at hP hS ⊢
          have hP : va_P (dC, dI) vwCl [(h0, .inr (10, [.ref ax10_0, .int xx10_1, .ref ox10_2, .ref ox10_3, .ref ox10_4, .ref ox10_5, .ref ox10_6, .ref ox10_7, .ref ox10_8, .ref ox10_9, .ref ox10_10, .ref ox10_11, .ref ox10_12, .ref ox10_13, .ref ox10_14, .ref ox10_15])), (ax1_6_2, .inl (cx1_6_2, 4, .inl fx1_6_2)), (ox10_6, .inr (1, [.ref ax1_6_0, .ref ax1_6_1, .ref ax1_6_2])), (ax1_6_1, .inl (cx1_6_1, 4, .inl z1_13))] H := hP
          have hD : va_D A [(h0, .inr (10, [.ref ax10_0, .int xx10_1, .ref ox10_2, .ref ox10_3, .ref ox10_4, .ref ox10_5, .ref ox10_6, .ref ox10_7, .ref ox10_8, .ref ox10_9, .ref ox10_10, .ref ox10_11, .ref ox10_12, .ref ox10_13, .ref ox10_14, .ref ox10_15])), (ax1_6_2, .inl (cx1_6_2, 4, .inl fx1_6_2)), (ox10_6, .inr (1, [.ref ax1_6_0, .ref ax1_6_1, .ref ax1_6_2])), (ax1_6_1, .inl (cx1_6_1, 4, .inl z1_13))] := hD
          rcases hw with q_14 | rfl
          · have hP9 := hP.sub (ws' := [(h0, .inr (10, [.ref ax10_0, .int xx10_1, .ref ox10_2, .ref ox10_3, .ref ox10_4, .ref ox10_5, .ref ox10_6, .ref ox10_7, .ref ox10_8, .ref ox10_9, .ref ox10_10, .ref ox10_11, .ref ox10_12, .ref ox10_13, .ref ox10_14, .ref ox10_15])), (ox10_6, .inr (1, [.ref ax1_6_0, .ref ax1_6_1, .ref ax1_6_2])), (ax1_6_1, .inl (cx1_6_1, 4, .inl z1_13)), (ax1_6_2, .inl (cx1_6_2, 4, .inl fx1_6_2))]) [0, 2, 3, 1] rfl
            have hD9 := hD.sub (ws' := [(h0, .inr (10, [.ref ax10_0, .int xx10_1, .ref ox10_2, .ref ox10_3, .ref ox10_4, .ref ox10_5, .ref ox10_6, .ref ox10_7, .ref ox10_8, .ref ox10_9, .ref ox10_10, .ref ox10_11, .ref ox10_12, .ref ox10_13, .ref ox10_14, .ref ox10_15])), (ox10_6, .inr (1, [.ref ax1_6_0, .ref ax1_6_1, .ref ax1_6_2])), (ax1_6_1, .inl (cx1_6_1, 4, .inl z1_13)), (ax1_6_2, .inl (cx1_6_2, 4, .inl fx1_6_2))]) [0, 2, 3, 1] (by decide) rfl
            have hK9 := hK.sub (tys' := [(cx1_6_1, .int), (cx1_6_2, .int)]) [0, 1] rfl
            refine W.widen (k := 0) (n := 0) (Nat.le_of_ble_eq_true rfl) (Nat.le_of_ble_eq_true rfl) ?_
            exact W.iret (v := r_12) hx hb hr (fun t ht hW => ⟨⟨r_12, (), rfl, Or.inl ((by rw [q_14])), z1_13, by rw [ht]; exact hP9, va_K.moved hW.alike hK9, hD9⟩, hS.F ht⟩) hS.2.2 dX10_cut_38
          · have hP9 := hP.sub (ws' := [(h0, .inr (10, [.ref ax10_0, .int xx10_1, .ref ox10_2, .ref ox10_3, .ref ox10_4, .ref ox10_5, .ref ox10_6, .ref ox10_7, .ref ox10_8, .ref ox10_9, .ref ox10_10, .ref ox10_11, .ref ox10_12, .ref ox10_13, .ref ox10_14, .ref ox10_15])), (ox10_6, .inr (1, [.ref ax1_6_0, .ref ax1_6_1, .ref ax1_6_2])), (ax1_6_1, .inl (cx1_6_1, 4, .inl z1_13)), (ax1_6_2, .inl (cx1_6_2, 4, .inl fx1_6_2))]) [0, 2, 3, 1] rfl
            have hD9 := hD.sub (ws' := [(h0, .inr (10, [.ref ax10_0, .int xx10_1, .ref ox10_2, .ref ox10_3, .ref ox10_4, .ref ox10_5, .ref ox10_6, .ref ox10_7, .ref ox10_8, .ref ox10_9, .ref ox10_10, .ref ox10_11, .ref ox10_12, .ref ox10_13, .ref ox10_14, .ref ox10_15])), (ox10_6, .inr (1, [.ref ax1_6_0, .ref ax1_6_1, .ref ax1_6_2])), (ax1_6_1, .inl (cx1_6_1, 4, .inl z1_13)), (ax1_6_2, .inl (cx1_6_2, 4, .inl fx1_6_2))]) [0, 2, 3, 1] (by decide) rfl
            have hK9 := hK.sub (tys' := [(cx1_6_1, .int), (cx1_6_2, .int)]) [0, 1] rfl
            refine W.widen (k := 0) (n := 0) (Nat.le_of_ble_eq_true rfl) (Nat.le_of_ble_eq_true rfl) ?_
            exact W.iret (v := 0) hx hb hr (fun t ht hW => ⟨⟨0, (), rfl, Or.inr (Or.inr (rfl)), z1_13, by rw [ht]; exact hP9, va_K.moved hW.alike hK9, hD9⟩, hS.F ht⟩) hS.2.2 dX10_cut_38
        · refine lv_iconst (v := (-1)) hx hb dX10_cut_27 (by decide) ?_
          have hP9 := hP.sub (ws' := [(h0, .inr (10, [.ref ax10_0, .int xx10_1, .ref ox10_2, .ref ox10_3, .ref ox10_4, .ref ox10_5, .ref ox10_6, .ref ox10_7, .ref ox10_8, .ref ox10_9, .ref ox10_10, .ref ox10_11, .ref ox10_12, .ref ox10_13, .ref ox10_14, .ref ox10_15])), (ox10_6, .inr (1, [.ref ax1_6_0, .ref ax1_6_1, .ref ax1_6_2])), (ax1_6_1, .inl (cx1_6_1, 4, .inl fx1_6_1)), (ax1_6_2, .inl (cx1_6_2, 4, .inl fx1_6_2))]) [0, 2, 3, 1] rfl
          have hD9 := hD.sub (ws' := [(h0, .inr (10, [.ref ax10_0, .int xx10_1, .ref ox10_2, .ref ox10_3, .ref ox10_4, .ref ox10_5, .ref ox10_6, .ref ox10_7, .ref ox10_8, .ref ox10_9, .ref ox10_10, .ref ox10_11, .ref ox10_12, .ref ox10_13, .ref ox10_14, .ref ox10_15])), (ox10_6, .inr (1, [.ref ax1_6_0, .ref ax1_6_1, .ref ax1_6_2])), (ax1_6_1, .inl (cx1_6_1, 4, .inl fx1_6_1)), (ax1_6_2, .inl (cx1_6_2, 4, .inl fx1_6_2))]) [0, 2, 3, 1] (by decide) rfl
          have hK9 := hK.sub (tys' := [(cx1_6_1, .int), (cx1_6_2, .int)]) [0, 1] rfl
          refine W.widen (k := 0) (n := 0) (Nat.le_of_ble_eq_true rfl) (Nat.le_of_ble_eq_true rfl) ?_
          exact W.iret (v := (-1)) hx hb hr (fun t ht hW => ⟨⟨(-1), (), rfl, Or.inr (Or.inl (rfl)), fx1_6_1, by rw [ht]; exact hP9, va_K.moved hW.alike hK9, hD9⟩, hS.F ht⟩) hS.2.2 dX10_cut_28

set_option maxRecDepth 100000 in
set_option maxHeartbeats 4000000 in
theorem s_X10_failure (l : Launch) (dC : Nat → ClassId) (dI : Nat → Nat → Nat) (h0 : Nat) (ax10_0 : Nat) (xx10_1 : Int32) (ox10_2 : Nat) (ox10_3 : Nat) (ox10_4 : Nat) (ox10_5 : Nat) (ox10_6 : Nat) (ox10_7 : Nat) (ox10_8 : Nat) (ox10_9 : Nat) (ox10_10 : Nat) (ox10_11 : Nat) (ox10_12 : Nat) (ox10_13 : Nat) (ox10_14 : Nat) (ox4_14_0 : Nat) (ox4_14_1 : Nat) (ox4_14_2 : Nat) (ox4_14_3 : Nat) (xx4_14_4 : Int32) (xx4_14_5 : Int32) (xx4_14_6 : Int32) (xx4_14_7 : Int32) (xx4_14_8 : Int32) (ax4_14_9 : Nat) (xx4_14_10 : Int32) (ax4_14_11 : Nat) (ox10_15 : Nat) (p0 : Int32) (sz : Nat) : Met l yX10_failure (.code yX10_failure cX10_failure 2 (some .int) :: pw) ({ frames := 0, cells := 0, slots := 0, locals := 0 }) (va_Pc [.ref h0, .int p0] (vPre dC dI [(h0, .inr (10, [.ref ax10_0, .int xx10_1, .ref ox10_2, .ref ox10_3, .ref ox10_4, .ref ox10_5, .ref ox10_6, .ref ox10_7, .ref ox10_8, .ref ox10_9, .ref ox10_10, .ref ox10_11, .ref ox10_12, .ref ox10_13, .ref ox10_14, .ref ox10_15])), (ox10_14, .inr (4, [.ref ox4_14_0, .ref ox4_14_1, .ref ox4_14_2, .ref ox4_14_3, .int xx4_14_4, .int xx4_14_5, .int xx4_14_6, .int xx4_14_7, .int xx4_14_8, .ref ax4_14_9, .int xx4_14_10, .ref ax4_14_11]))] [] sz)) (va_Qi (fun (r : Int32) (_ : Unit) => (r = xx4_14_10 ∧ ¬ xx4_14_7 = 0 ∧ p0 = 1) ∨ (r = xx4_14_7 ∧ ¬ xx4_14_7 = 0 ∧ p0 = 0) ∨ (r = xx4_14_8 ∧ ¬ xx4_14_7 = 0 ∧ p0 = 2) ∨ (r = (-1))) (fun (_ : Unit) t => vPst dC dI (va_A [(h0, .inr (10, [.ref ax10_0, .int xx10_1, .ref ox10_2, .ref ox10_3, .ref ox10_4, .ref ox10_5, .ref ox10_6, .ref ox10_7, .ref ox10_8, .ref ox10_9, .ref ox10_10, .ref ox10_11, .ref ox10_12, .ref ox10_13, .ref ox10_14, .ref ox10_15])), (ox10_14, .inr (4, [.ref ox4_14_0, .ref ox4_14_1, .ref ox4_14_2, .ref ox4_14_3, .int xx4_14_4, .int xx4_14_5, .int xx4_14_6, .int xx4_14_7, .int xx4_14_8, .ref ax4_14_9, .int xx4_14_10, .ref ax4_14_11]))] sz) [(h0, .inr (10, [.ref ax10_0, .int xx10_1, .ref ox10_2, .ref ox10_3, .ref ox10_4, .ref ox10_5, .ref ox10_6, .ref ox10_7, .ref ox10_8, .ref ox10_9, .ref ox10_10, .ref ox10_11, .ref ox10_12, .ref ox10_13, .ref ox10_14, .ref ox10_15])), (ox10_14, .inr (4, [.ref ox4_14_0, .ref ox4_14_1, .ref ox4_14_2, .ref ox4_14_3, .int xx4_14_4, .int xx4_14_5, .int xx4_14_6, .int xx4_14_7, .int xx4_14_8, .ref ax4_14_9, .int xx4_14_10, .ref ax4_14_11]))] [] t) (va_A [(h0, .inr (10, [.ref ax10_0, .int xx10_1, .ref ox10_2, .ref ox10_3, .ref ox10_4, .ref ox10_5, .ref ox10_6, .ref ox10_7, .ref ox10_8, .ref ox10_9, .ref ox10_10, .ref ox10_11, .ref ox10_12, .ref ox10_13, .ref ox10_14, .ref ox10_15])), (ox10_14, .inr (4, [.ref ox4_14_0, .ref ox4_14_1, .ref ox4_14_2, .ref ox4_14_3, .int xx4_14_4, .int xx4_14_5, .int xx4_14_6, .int xx4_14_7, .int xx4_14_8, .ref ax4_14_9, .int xx4_14_10, .ref ax4_14_11]))] sz)) 0 0 (va_A [(h0, .inr (10, [.ref ax10_0, .int xx10_1, .ref ox10_2, .ref ox10_3, .ref ox10_4, .ref ox10_5, .ref ox10_6, .ref ox10_7, .ref ox10_8, .ref ox10_9, .ref ox10_10, .ref ox10_11, .ref ox10_12, .ref ox10_13, .ref ox10_14, .ref ox10_15])), (ox10_14, .inr (4, [.ref ox4_14_0, .ref ox4_14_1, .ref ox4_14_2, .ref ox4_14_3, .int xx4_14_4, .int xx4_14_5, .int xx4_14_6, .int xx4_14_7, .int xx4_14_8, .ref ax4_14_9, .int xx4_14_10, .ref ax4_14_11]))] sz) := by
  refine Met.ofW (cc := cX10_failure) (maxL := 2) (ret := (some .int)) (by decide) rfl ?_
  intro p e s m args below meth c s₁ B hml hv
  obtain ⟨rfl, hsz, hP, hK, hD0, hN⟩ := hv
  have hx := B.exec
  have hb := B.bytes
  have hr := B.returns
  have hts := atoms_spec (ws := .code yX10_failure cX10_failure 2 (some .int) :: pw) B.pre
  have hts : ∀ w ∈ pw, w.before _ s = true := fun w h => hts w (List.mem_cons_of_mem _ h)
  have hown : s.vm.findClass RX10 = some m.cls := findClass_of_methodNamed B.named
  have hlocks := B.notSynchronized
  subst hsz
  have hD := hD0.self (sz := s.heap.size)
  generalize hAe : va_A [(h0, .inr (10, [.ref ax10_0, .int xx10_1, .ref ox10_2, .ref ox10_3, .ref ox10_4, .ref ox10_5, .ref ox10_6, .ref ox10_7, .ref ox10_8, .ref ox10_9, .ref ox10_10, .ref ox10_11, .ref ox10_12, .ref ox10_13, .ref ox10_14, .ref ox10_15])), (ox10_14, .inr (4, [.ref ox4_14_0, .ref ox4_14_1, .ref ox4_14_2, .ref ox4_14_3, .int xx4_14_4, .int xx4_14_5, .int xx4_14_6, .int xx4_14_7, .int xx4_14_8, .ref ax4_14_9, .int xx4_14_10, .ref ax4_14_11]))] s.heap.size = A at hD ⊢
  have hA : ∀ q : Nat, s.heap.size ≤ q → A q := fun q h => by rw [← hAe]; exact Or.inr h
  have hS : va_S A s.heap s.heap [] := va_S.rf
  have hP : va_P (dC, dI) vwCl [(h0, .inr (10, [.ref ax10_0, .int xx10_1, .ref ox10_2, .ref ox10_3, .ref ox10_4, .ref ox10_5, .ref ox10_6, .ref ox10_7, .ref ox10_8, .ref ox10_9, .ref ox10_10, .ref ox10_11, .ref ox10_12, .ref ox10_13, .ref ox10_14, .ref ox10_15])), (ox10_14, .inr (4, [.ref ox4_14_0, .ref ox4_14_1, .ref ox4_14_2, .ref ox4_14_3, .int xx4_14_4, .int xx4_14_5, .int xx4_14_6, .int xx4_14_7, .int xx4_14_8, .ref ax4_14_9, .int xx4_14_10, .ref ax4_14_11]))] s.heap := hP
  have hl := lv_entry ([.ref h0, .int p0]) (n := 2) (Nat.le_of_ble_eq_true rfl)
  rw [lg_entry_eq]
  generalize (lg_sl ([.ref h0, .int p0]) ++ List.replicate (2 - (lg_sl ([.ref h0, .int p0])).length) Slot.unset).toArray = ls at hl ⊢
  have hl : lv_has ls 2 [(0, .ref h0), (1, .int p0)] := hl
  refine lv_aload_n hx hb dX10_failure_0 rfl (lv_at hl 0 rfl) ?_
  refine va_get (D := (dC, dI)) (ci := 10) (v := .ref ox10_14) (C := RX10) (T := TX10) (N := 16) hx hb hts inlX10 hown hK hP 0 rfl rfl 14 (by decide) (hts (.fieldLink RX10 104 "ShapeReader" "latest" "LShapeReader$Reading;") mw_22_2) (fun _ h9 => h9) rfl dX10_failure_1 ?_
  refine va_get (D := (dC, dI)) (ci := 4) (v := .int xx4_14_7) (C := RX4) (T := TX4) (N := 12) hx hb hts inlX4 hown hK hP 1 rfl rfl 7 (by decide) (hts (.fieldLink RX10 256 "ShapeReader$Reading" "failure" "I") mw_25_7) (fun _ h9 => h9) rfl dX10_failure_4 ?_
  refine lv_if_ne (tgt := 12) hx hb dX10_failure_7 (by decide) (fun c_1 => ?_) (fun c_1 => ?_)
  · refine lv_iload_n hx hb dX10_failure_12 rfl (lv_at hl 1 rfl) ?_
    rcases (il_sw3 p0 (0) (1) (2)) with s_2 | s_3 | s_4 | ⟨s_2, s_3, s_4⟩
    · refine lv_tableIn (off := 27) (tgt := 40) hx hb dX10_failure_13 (by rw [s_2]; decide) (by rw [s_2]; decide) (by rw [s_2]; rfl) (by decide) ?_
      refine lv_aload_n hx hb dX10_failure_40 rfl (lv_at hl 0 rfl) ?_
      refine va_get (D := (dC, dI)) (ci := 10) (v := .ref ox10_14) (C := RX10) (T := TX10) (N := 16) hx hb hts inlX10 hown hK hP 0 rfl rfl 14 (by decide) (hts (.fieldLink RX10 104 "ShapeReader" "latest" "LShapeReader$Reading;") mw_22_2) (fun _ h9 => h9) rfl dX10_failure_41 ?_
      refine va_get (D := (dC, dI)) (ci := 4) (v := .int xx4_14_7) (C := RX4) (T := TX4) (N := 12) hx hb hts inlX4 hown hK hP 1 rfl rfl 7 (by decide) (hts (.fieldLink RX10 256 "ShapeReader$Reading" "failure" "I") mw_25_7) (fun _ h9 => h9) rfl dX10_failure_44 ?_
      have hP9 := hP.sub (ws' := [(h0, .inr (10, [.ref ax10_0, .int xx10_1, .ref ox10_2, .ref ox10_3, .ref ox10_4, .ref ox10_5, .ref ox10_6, .ref ox10_7, .ref ox10_8, .ref ox10_9, .ref ox10_10, .ref ox10_11, .ref ox10_12, .ref ox10_13, .ref ox10_14, .ref ox10_15])), (ox10_14, .inr (4, [.ref ox4_14_0, .ref ox4_14_1, .ref ox4_14_2, .ref ox4_14_3, .int xx4_14_4, .int xx4_14_5, .int xx4_14_6, .int xx4_14_7, .int xx4_14_8, .ref ax4_14_9, .int xx4_14_10, .ref ax4_14_11]))]) [0, 1] rfl
      have hD9 := hD.sub (ws' := [(h0, .inr (10, [.ref ax10_0, .int xx10_1, .ref ox10_2, .ref ox10_3, .ref ox10_4, .ref ox10_5, .ref ox10_6, .ref ox10_7, .ref ox10_8, .ref ox10_9, .ref ox10_10, .ref ox10_11, .ref ox10_12, .ref ox10_13, .ref ox10_14, .ref ox10_15])), (ox10_14, .inr (4, [.ref ox4_14_0, .ref ox4_14_1, .ref ox4_14_2, .ref ox4_14_3, .int xx4_14_4, .int xx4_14_5, .int xx4_14_6, .int xx4_14_7, .int xx4_14_8, .ref ax4_14_9, .int xx4_14_10, .ref ax4_14_11]))]) [0, 1] (by decide) rfl
      have hK9 := hK.sub (tys' := []) [] rfl
      refine W.widen (k := 0) (n := 0) (Nat.le_of_ble_eq_true rfl) (Nat.le_of_ble_eq_true rfl) ?_
      exact W.iret (v := xx4_14_7) hx hb hr (fun t ht hW => ⟨⟨xx4_14_7, (), rfl, Or.inr (Or.inl (⟨rfl, c_1, s_2⟩)), by rw [ht]; exact hP9, va_K.moved hW.alike hK9, hD9⟩, hS.F ht⟩) hS.2.2 dX10_failure_47
    · refine lv_tableIn (off := 35) (tgt := 48) hx hb dX10_failure_13 (by rw [s_3]; decide) (by rw [s_3]; decide) (by rw [s_3]; rfl) (by decide) ?_
      refine lv_aload_n hx hb dX10_failure_48 rfl (lv_at hl 0 rfl) ?_
      refine va_get (D := (dC, dI)) (ci := 10) (v := .ref ox10_14) (C := RX10) (T := TX10) (N := 16) hx hb hts inlX10 hown hK hP 0 rfl rfl 14 (by decide) (hts (.fieldLink RX10 104 "ShapeReader" "latest" "LShapeReader$Reading;") mw_22_2) (fun _ h9 => h9) rfl dX10_failure_49 ?_
      refine va_get (D := (dC, dI)) (ci := 4) (v := .int xx4_14_10) (C := RX4) (T := TX4) (N := 12) hx hb hts inlX4 hown hK hP 1 rfl rfl 10 (by decide) (hts (.fieldLink RX10 259 "ShapeReader$Reading" "steps" "I") mw_25_8) (fun _ h9 => h9) rfl dX10_failure_52 ?_
      have hP9 := hP.sub (ws' := [(h0, .inr (10, [.ref ax10_0, .int xx10_1, .ref ox10_2, .ref ox10_3, .ref ox10_4, .ref ox10_5, .ref ox10_6, .ref ox10_7, .ref ox10_8, .ref ox10_9, .ref ox10_10, .ref ox10_11, .ref ox10_12, .ref ox10_13, .ref ox10_14, .ref ox10_15])), (ox10_14, .inr (4, [.ref ox4_14_0, .ref ox4_14_1, .ref ox4_14_2, .ref ox4_14_3, .int xx4_14_4, .int xx4_14_5, .int xx4_14_6, .int xx4_14_7, .int xx4_14_8, .ref ax4_14_9, .int xx4_14_10, .ref ax4_14_11]))]) [0, 1] rfl
      have hD9 := hD.sub (ws' := [(h0, .inr (10, [.ref ax10_0, .int xx10_1, .ref ox10_2, .ref ox10_3, .ref ox10_4, .ref ox10_5, .ref ox10_6, .ref ox10_7, .ref ox10_8, .ref ox10_9, .ref ox10_10, .ref ox10_11, .ref ox10_12, .ref ox10_13, .ref ox10_14, .ref ox10_15])), (ox10_14, .inr (4, [.ref ox4_14_0, .ref ox4_14_1, .ref ox4_14_2, .ref ox4_14_3, .int xx4_14_4, .int xx4_14_5, .int xx4_14_6, .int xx4_14_7, .int xx4_14_8, .ref ax4_14_9, .int xx4_14_10, .ref ax4_14_11]))]) [0, 1] (by decide) rfl
      have hK9 := hK.sub (tys' := []) [] rfl
      refine W.widen (k := 0) (n := 0) (Nat.le_of_ble_eq_true rfl) (Nat.le_of_ble_eq_true rfl) ?_
      exact W.iret (v := xx4_14_10) hx hb hr (fun t ht hW => ⟨⟨xx4_14_10, (), rfl, Or.inl (⟨rfl, c_1, s_3⟩), by rw [ht]; exact hP9, va_K.moved hW.alike hK9, hD9⟩, hS.F ht⟩) hS.2.2 dX10_failure_55
    · refine lv_tableIn (off := 43) (tgt := 56) hx hb dX10_failure_13 (by rw [s_4]; decide) (by rw [s_4]; decide) (by rw [s_4]; rfl) (by decide) ?_
      refine lv_aload_n hx hb dX10_failure_56 rfl (lv_at hl 0 rfl) ?_
      refine va_get (D := (dC, dI)) (ci := 10) (v := .ref ox10_14) (C := RX10) (T := TX10) (N := 16) hx hb hts inlX10 hown hK hP 0 rfl rfl 14 (by decide) (hts (.fieldLink RX10 104 "ShapeReader" "latest" "LShapeReader$Reading;") mw_22_2) (fun _ h9 => h9) rfl dX10_failure_57 ?_
      refine va_get (D := (dC, dI)) (ci := 4) (v := .int xx4_14_8) (C := RX4) (T := TX4) (N := 12) hx hb hts inlX4 hown hK hP 1 rfl rfl 8 (by decide) (hts (.fieldLink RX10 262 "ShapeReader$Reading" "failedAt" "I") mw_25_9) (fun _ h9 => h9) rfl dX10_failure_60 ?_
      have hP9 := hP.sub (ws' := [(h0, .inr (10, [.ref ax10_0, .int xx10_1, .ref ox10_2, .ref ox10_3, .ref ox10_4, .ref ox10_5, .ref ox10_6, .ref ox10_7, .ref ox10_8, .ref ox10_9, .ref ox10_10, .ref ox10_11, .ref ox10_12, .ref ox10_13, .ref ox10_14, .ref ox10_15])), (ox10_14, .inr (4, [.ref ox4_14_0, .ref ox4_14_1, .ref ox4_14_2, .ref ox4_14_3, .int xx4_14_4, .int xx4_14_5, .int xx4_14_6, .int xx4_14_7, .int xx4_14_8, .ref ax4_14_9, .int xx4_14_10, .ref ax4_14_11]))]) [0, 1] rfl
      have hD9 := hD.sub (ws' := [(h0, .inr (10, [.ref ax10_0, .int xx10_1, .ref ox10_2, .ref ox10_3, .ref ox10_4, .ref ox10_5, .ref ox10_6, .ref ox10_7, .ref ox10_8, .ref ox10_9, .ref ox10_10, .ref ox10_11, .ref ox10_12, .ref ox10_13, .ref ox10_14, .ref ox10_15])), (ox10_14, .inr (4, [.ref ox4_14_0, .ref ox4_14_1, .ref ox4_14_2, .ref ox4_14_3, .int xx4_14_4, .int xx4_14_5, .int xx4_14_6, .int xx4_14_7, .int xx4_14_8, .ref ax4_14_9, .int xx4_14_10, .ref ax4_14_11]))]) [0, 1] (by decide) rfl
      have hK9 := hK.sub (tys' := []) [] rfl
      refine W.widen (k := 0) (n := 0) (Nat.le_of_ble_eq_true rfl) (Nat.le_of_ble_eq_true rfl) ?_
      exact W.iret (v := xx4_14_8) hx hb hr (fun t ht hW => ⟨⟨xx4_14_8, (), rfl, Or.inr (Or.inr (Or.inl (⟨rfl, c_1, s_4⟩))), by rw [ht]; exact hP9, va_K.moved hW.alike hK9, hD9⟩, hS.F ht⟩) hS.2.2 dX10_failure_63
    · refine lv_tableOut (tgt := 64) hx hb dX10_failure_13 (by have a0 := il_ne s_2; have e0 : (0 : Int32).toInt = 0 := (by decide); have a1 := il_ne s_3; have e1 : (1 : Int32).toInt = 1 := (by decide); have a2 := il_ne s_4; have e2 : (2 : Int32).toInt = 2 := (by decide); omega) (by decide) ?_
      refine lv_iconst (v := (-1)) hx hb dX10_failure_64 (by decide) ?_
      have hP9 := hP.sub (ws' := [(h0, .inr (10, [.ref ax10_0, .int xx10_1, .ref ox10_2, .ref ox10_3, .ref ox10_4, .ref ox10_5, .ref ox10_6, .ref ox10_7, .ref ox10_8, .ref ox10_9, .ref ox10_10, .ref ox10_11, .ref ox10_12, .ref ox10_13, .ref ox10_14, .ref ox10_15])), (ox10_14, .inr (4, [.ref ox4_14_0, .ref ox4_14_1, .ref ox4_14_2, .ref ox4_14_3, .int xx4_14_4, .int xx4_14_5, .int xx4_14_6, .int xx4_14_7, .int xx4_14_8, .ref ax4_14_9, .int xx4_14_10, .ref ax4_14_11]))]) [0, 1] rfl
      have hD9 := hD.sub (ws' := [(h0, .inr (10, [.ref ax10_0, .int xx10_1, .ref ox10_2, .ref ox10_3, .ref ox10_4, .ref ox10_5, .ref ox10_6, .ref ox10_7, .ref ox10_8, .ref ox10_9, .ref ox10_10, .ref ox10_11, .ref ox10_12, .ref ox10_13, .ref ox10_14, .ref ox10_15])), (ox10_14, .inr (4, [.ref ox4_14_0, .ref ox4_14_1, .ref ox4_14_2, .ref ox4_14_3, .int xx4_14_4, .int xx4_14_5, .int xx4_14_6, .int xx4_14_7, .int xx4_14_8, .ref ax4_14_9, .int xx4_14_10, .ref ax4_14_11]))]) [0, 1] (by decide) rfl
      have hK9 := hK.sub (tys' := []) [] rfl
      refine W.widen (k := 0) (n := 0) (Nat.le_of_ble_eq_true rfl) (Nat.le_of_ble_eq_true rfl) ?_
      exact W.iret (v := (-1)) hx hb hr (fun t ht hW => ⟨⟨(-1), (), rfl, Or.inr (Or.inr (Or.inr (rfl))), by rw [ht]; exact hP9, va_K.moved hW.alike hK9, hD9⟩, hS.F ht⟩) hS.2.2 dX10_failure_65
  · refine lv_iconst (v := (-1)) hx hb dX10_failure_10 (by decide) ?_
    have hP9 := hP.sub (ws' := [(h0, .inr (10, [.ref ax10_0, .int xx10_1, .ref ox10_2, .ref ox10_3, .ref ox10_4, .ref ox10_5, .ref ox10_6, .ref ox10_7, .ref ox10_8, .ref ox10_9, .ref ox10_10, .ref ox10_11, .ref ox10_12, .ref ox10_13, .ref ox10_14, .ref ox10_15])), (ox10_14, .inr (4, [.ref ox4_14_0, .ref ox4_14_1, .ref ox4_14_2, .ref ox4_14_3, .int xx4_14_4, .int xx4_14_5, .int xx4_14_6, .int xx4_14_7, .int xx4_14_8, .ref ax4_14_9, .int xx4_14_10, .ref ax4_14_11]))]) [0, 1] rfl
    have hD9 := hD.sub (ws' := [(h0, .inr (10, [.ref ax10_0, .int xx10_1, .ref ox10_2, .ref ox10_3, .ref ox10_4, .ref ox10_5, .ref ox10_6, .ref ox10_7, .ref ox10_8, .ref ox10_9, .ref ox10_10, .ref ox10_11, .ref ox10_12, .ref ox10_13, .ref ox10_14, .ref ox10_15])), (ox10_14, .inr (4, [.ref ox4_14_0, .ref ox4_14_1, .ref ox4_14_2, .ref ox4_14_3, .int xx4_14_4, .int xx4_14_5, .int xx4_14_6, .int xx4_14_7, .int xx4_14_8, .ref ax4_14_9, .int xx4_14_10, .ref ax4_14_11]))]) [0, 1] (by decide) rfl
    have hK9 := hK.sub (tys' := []) [] rfl
    refine W.widen (k := 0) (n := 0) (Nat.le_of_ble_eq_true rfl) (Nat.le_of_ble_eq_true rfl) ?_
    exact W.iret (v := (-1)) hx hb hr (fun t ht hW => ⟨⟨(-1), (), rfl, Or.inr (Or.inr (Or.inr (rfl))), by rw [ht]; exact hP9, va_K.moved hW.alike hK9, hD9⟩, hS.F ht⟩) hS.2.2 dX10_failure_11

set_option maxRecDepth 100000 in
set_option maxHeartbeats 4000000 in
theorem s_X10_failureStep (l : Launch) (dC : Nat → ClassId) (dI : Nat → Nat → Nat) (h0 : Nat) (ax10_0 : Nat) (xx10_1 : Int32) (ox10_2 : Nat) (ox10_3 : Nat) (ox10_4 : Nat) (ox10_5 : Nat) (ox10_6 : Nat) (ox10_7 : Nat) (ox10_8 : Nat) (ox10_9 : Nat) (ox10_10 : Nat) (ox10_11 : Nat) (ox10_12 : Nat) (ox10_13 : Nat) (ox10_14 : Nat) (ox4_14_0 : Nat) (ox4_14_1 : Nat) (ox4_14_2 : Nat) (ox4_14_3 : Nat) (xx4_14_4 : Int32) (xx4_14_5 : Int32) (xx4_14_6 : Int32) (xx4_14_7 : Int32) (xx4_14_8 : Int32) (ax4_14_9 : Nat) (cx4_14_9 : ClassId) (fx4_14_9 : Nat → Int32) (xx4_14_10 : Int32) (ax4_14_11 : Nat) (ox10_15 : Nat) (p0 : Int32) (sz : Nat) : Met l yX10_failureStep (.code yX10_failureStep cX10_failureStep 2 (some .int) :: pw) ({ frames := 1, cells := 0, slots := 0, locals := 21 }) (va_Pc [.ref h0, .int p0] (vPre dC dI [(h0, .inr (10, [.ref ax10_0, .int xx10_1, .ref ox10_2, .ref ox10_3, .ref ox10_4, .ref ox10_5, .ref ox10_6, .ref ox10_7, .ref ox10_8, .ref ox10_9, .ref ox10_10, .ref ox10_11, .ref ox10_12, .ref ox10_13, .ref ox10_14, .ref ox10_15])), (ox10_14, .inr (4, [.ref ox4_14_0, .ref ox4_14_1, .ref ox4_14_2, .ref ox4_14_3, .int xx4_14_4, .int xx4_14_5, .int xx4_14_6, .int xx4_14_7, .int xx4_14_8, .ref ax4_14_9, .int xx4_14_10, .ref ax4_14_11])), (ax4_14_9, .inl (cx4_14_9, 64, .inl fx4_14_9))] [(cx4_14_9, .int)] sz)) (va_Qi (fun (r : Int32) (_ : Unit) => (r = (fx4_14_9 p0.toNatClampNeg) ∧ ¬ xx4_14_7 = 0) ∨ (r = (-1))) (fun (_ : Unit) t => vPst dC dI (va_A [(h0, .inr (10, [.ref ax10_0, .int xx10_1, .ref ox10_2, .ref ox10_3, .ref ox10_4, .ref ox10_5, .ref ox10_6, .ref ox10_7, .ref ox10_8, .ref ox10_9, .ref ox10_10, .ref ox10_11, .ref ox10_12, .ref ox10_13, .ref ox10_14, .ref ox10_15])), (ox10_14, .inr (4, [.ref ox4_14_0, .ref ox4_14_1, .ref ox4_14_2, .ref ox4_14_3, .int xx4_14_4, .int xx4_14_5, .int xx4_14_6, .int xx4_14_7, .int xx4_14_8, .ref ax4_14_9, .int xx4_14_10, .ref ax4_14_11])), (ax4_14_9, .inl (cx4_14_9, 64, .inl fx4_14_9))] sz) [(h0, .inr (10, [.ref ax10_0, .int xx10_1, .ref ox10_2, .ref ox10_3, .ref ox10_4, .ref ox10_5, .ref ox10_6, .ref ox10_7, .ref ox10_8, .ref ox10_9, .ref ox10_10, .ref ox10_11, .ref ox10_12, .ref ox10_13, .ref ox10_14, .ref ox10_15])), (ox10_14, .inr (4, [.ref ox4_14_0, .ref ox4_14_1, .ref ox4_14_2, .ref ox4_14_3, .int xx4_14_4, .int xx4_14_5, .int xx4_14_6, .int xx4_14_7, .int xx4_14_8, .ref ax4_14_9, .int xx4_14_10, .ref ax4_14_11])), (ax4_14_9, .inl (cx4_14_9, 64, .inl fx4_14_9))] [(cx4_14_9, .int)] t) (va_A [(h0, .inr (10, [.ref ax10_0, .int xx10_1, .ref ox10_2, .ref ox10_3, .ref ox10_4, .ref ox10_5, .ref ox10_6, .ref ox10_7, .ref ox10_8, .ref ox10_9, .ref ox10_10, .ref ox10_11, .ref ox10_12, .ref ox10_13, .ref ox10_14, .ref ox10_15])), (ox10_14, .inr (4, [.ref ox4_14_0, .ref ox4_14_1, .ref ox4_14_2, .ref ox4_14_3, .int xx4_14_4, .int xx4_14_5, .int xx4_14_6, .int xx4_14_7, .int xx4_14_8, .ref ax4_14_9, .int xx4_14_10, .ref ax4_14_11])), (ax4_14_9, .inl (cx4_14_9, 64, .inl fx4_14_9))] sz)) 0 0 (va_A [(h0, .inr (10, [.ref ax10_0, .int xx10_1, .ref ox10_2, .ref ox10_3, .ref ox10_4, .ref ox10_5, .ref ox10_6, .ref ox10_7, .ref ox10_8, .ref ox10_9, .ref ox10_10, .ref ox10_11, .ref ox10_12, .ref ox10_13, .ref ox10_14, .ref ox10_15])), (ox10_14, .inr (4, [.ref ox4_14_0, .ref ox4_14_1, .ref ox4_14_2, .ref ox4_14_3, .int xx4_14_4, .int xx4_14_5, .int xx4_14_6, .int xx4_14_7, .int xx4_14_8, .ref ax4_14_9, .int xx4_14_10, .ref ax4_14_11])), (ax4_14_9, .inl (cx4_14_9, 64, .inl fx4_14_9))] sz) := by
  refine Met.ofW (cc := cX10_failureStep) (maxL := 2) (ret := (some .int)) (by decide) rfl ?_
  intro p e s m args below meth c s₁ B hml hv
  obtain ⟨rfl, hsz, hP, hK, hD0, hN⟩ := hv
  have hx := B.exec
  have hb := B.bytes
  have hr := B.returns
  have hts := atoms_spec (ws := .code yX10_failureStep cX10_failureStep 2 (some .int) :: pw) B.pre
  have hts : ∀ w ∈ pw, w.before _ s = true := fun w h => hts w (List.mem_cons_of_mem _ h)
  have hown : s.vm.findClass RX10 = some m.cls := findClass_of_methodNamed B.named
  have hlocks := B.notSynchronized
  subst hsz
  have hD := hD0.self (sz := s.heap.size)
  generalize hAe : va_A [(h0, .inr (10, [.ref ax10_0, .int xx10_1, .ref ox10_2, .ref ox10_3, .ref ox10_4, .ref ox10_5, .ref ox10_6, .ref ox10_7, .ref ox10_8, .ref ox10_9, .ref ox10_10, .ref ox10_11, .ref ox10_12, .ref ox10_13, .ref ox10_14, .ref ox10_15])), (ox10_14, .inr (4, [.ref ox4_14_0, .ref ox4_14_1, .ref ox4_14_2, .ref ox4_14_3, .int xx4_14_4, .int xx4_14_5, .int xx4_14_6, .int xx4_14_7, .int xx4_14_8, .ref ax4_14_9, .int xx4_14_10, .ref ax4_14_11])), (ax4_14_9, .inl (cx4_14_9, 64, .inl fx4_14_9))] s.heap.size = A at hD ⊢
  have hA : ∀ q : Nat, s.heap.size ≤ q → A q := fun q h => by rw [← hAe]; exact Or.inr h
  have hS : va_S A s.heap s.heap [] := va_S.rf
  have hP : va_P (dC, dI) vwCl [(h0, .inr (10, [.ref ax10_0, .int xx10_1, .ref ox10_2, .ref ox10_3, .ref ox10_4, .ref ox10_5, .ref ox10_6, .ref ox10_7, .ref ox10_8, .ref ox10_9, .ref ox10_10, .ref ox10_11, .ref ox10_12, .ref ox10_13, .ref ox10_14, .ref ox10_15])), (ox10_14, .inr (4, [.ref ox4_14_0, .ref ox4_14_1, .ref ox4_14_2, .ref ox4_14_3, .int xx4_14_4, .int xx4_14_5, .int xx4_14_6, .int xx4_14_7, .int xx4_14_8, .ref ax4_14_9, .int xx4_14_10, .ref ax4_14_11])), (ax4_14_9, .inl (cx4_14_9, 64, .inl fx4_14_9))] s.heap := hP
  have hl := lv_entry ([.ref h0, .int p0]) (n := 2) (Nat.le_of_ble_eq_true rfl)
  rw [lg_entry_eq]
  generalize (lg_sl ([.ref h0, .int p0]) ++ List.replicate (2 - (lg_sl ([.ref h0, .int p0])).length) Slot.unset).toArray = ls at hl ⊢
  have hl : lv_has ls 2 [(0, .ref h0), (1, .int p0)] := hl
  refine lv_aload_n hx hb dX10_failureStep_0 rfl (lv_at hl 0 rfl) ?_
  refine va_get (D := (dC, dI)) (ci := 10) (v := .ref ox10_14) (C := RX10) (T := TX10) (N := 16) hx hb hts inlX10 hown hK hP 0 rfl rfl 14 (by decide) (hts (.fieldLink RX10 104 "ShapeReader" "latest" "LShapeReader$Reading;") mw_22_2) (fun _ h9 => h9) rfl dX10_failureStep_1 ?_
  refine va_get (D := (dC, dI)) (ci := 4) (v := .int xx4_14_7) (C := RX4) (T := TX4) (N := 12) hx hb hts inlX4 hown hK hP 1 rfl rfl 7 (by decide) (hts (.fieldLink RX10 256 "ShapeReader$Reading" "failure" "I") mw_25_7) (fun _ h9 => h9) rfl dX10_failureStep_4 ?_
  refine lv_if_ne (tgt := 14) hx hb dX10_failureStep_7 (by decide) (fun c_1 => ?_) (fun c_1 => ?_)
  · refine lv_aload_n hx hb dX10_failureStep_14 rfl (lv_at hl 0 rfl) ?_
    refine va_get (D := (dC, dI)) (ci := 10) (v := .ref ox10_14) (C := RX10) (T := TX10) (N := 16) hx hb hts inlX10 hown hK hP 0 rfl rfl 14 (by decide) (hts (.fieldLink RX10 104 "ShapeReader" "latest" "LShapeReader$Reading;") mw_22_2) (fun _ h9 => h9) rfl dX10_failureStep_15 ?_
    refine lv_iload_n hx hb dX10_failureStep_18 rfl (lv_at hl 1 rfl) ?_
    have hPc := hP.sub (ws' := [(ox10_14, .inr (4, [.ref ox4_14_0, .ref ox4_14_1, .ref ox4_14_2, .ref ox4_14_3, .int xx4_14_4, .int xx4_14_5, .int xx4_14_6, .int xx4_14_7, .int xx4_14_8, .ref ax4_14_9, .int xx4_14_10, .ref ax4_14_11])), (ax4_14_9, .inl (cx4_14_9, 64, .inl fx4_14_9))]) [1, 2] rfl
    have hDc := hD.sub (ws' := [(ox10_14, .inr (4, [.ref ox4_14_0, .ref ox4_14_1, .ref ox4_14_2, .ref ox4_14_3, .int xx4_14_4, .int xx4_14_5, .int xx4_14_6, .int xx4_14_7, .int xx4_14_8, .ref ax4_14_9, .int xx4_14_10, .ref ax4_14_11])), (ax4_14_9, .inl (cx4_14_9, 64, .inl fx4_14_9))]) [1, 2] (by decide) rfl
    have hKc := hK.sub (tys' := [(cx4_14_9, .int)]) [0] rfl
    have hFc := va_free (wc := [(ox10_14, .inr (4, [.ref ox4_14_0, .ref ox4_14_1, .ref ox4_14_2, .ref ox4_14_3, .int xx4_14_4, .int xx4_14_5, .int xx4_14_6, .int xx4_14_7, .int xx4_14_8, .ref ax4_14_9, .int xx4_14_10, .ref ax4_14_11])), (ax4_14_9, .inl (cx4_14_9, 64, .inl fx4_14_9))]) hD hS hA [1, 2] rfl
    refine va_calli (va_runV (As := [.int p0]) (rest := []) ⟨hx, hb, hml, hown, hts⟩ (s_X4_stepAt l dC dI ox10_14 ox4_14_0 ox4_14_1 ox4_14_2 ox4_14_3 xx4_14_4 xx4_14_5 xx4_14_6 xx4_14_7 xx4_14_8 ax4_14_9 cx4_14_9 fx4_14_9 xx4_14_10 ax4_14_11 p0 s.heap.size) (cwV 1 hts (gV mw_25_10 mw_25_11 mw_25_12 mw_0_8 mw_48_1) rfl rfl rfl (by decide +kernel) ⟨(Nat.le_of_ble_eq_true rfl), (Nat.le_of_ble_eq_true rfl)⟩) (vV (ci := 4) (q0 := 0) hKc hPc hDc hN rfl rfl) rfl rfl hl.1 rfl (lv_room (Nat.le_of_ble_eq_true rfl)) dX10_failureStep_19 ⟨(Nat.le_of_ble_eq_true rfl), (Nat.le_of_ble_eq_true rfl)⟩) hS (fun q _ h => hFc q h) hFc (fun r_2 u t H1 locs ht hvm hw hB hz1 hk1 hS => ?_)
    obtain ⟨hP1, hK1, hD1⟩ := hB
    rw [ht] at hP1
    have hK1 := va_K.moved hvm.symm hK1
    obtain ⟨hP, hD⟩ := va_join (wr := [(h0, .inr (10, [.ref ax10_0, .int xx10_1, .ref ox10_2, .ref ox10_3, .ref ox10_4, .ref ox10_5, .ref ox10_6, .ref ox10_7, .ref ox10_8, .ref ox10_9, .ref ox10_10, .ref ox10_11, .ref ox10_12, .ref ox10_13, .ref ox10_14, .ref ox10_15]))]) (w1 := [(ox10_14, .inr (4, [.ref ox4_14_0, .ref ox4_14_1, .ref ox4_14_2, .ref ox4_14_3, .int xx4_14_4, .int xx4_14_5, .int xx4_14_6, .int xx4_14_7, .int xx4_14_8, .ref ax4_14_9, .int xx4_14_10, .ref ax4_14_11])), (ax4_14_9, .inl (cx4_14_9, 64, .inl fx4_14_9))]) hP hD [1, 2] [0] rfl rfl (by decide) (by decide) hk1 hFc hP1 hD1
    clear hPc hDc hKc hP1 hK1 hD1 hFc hk1 hz1
    generalize H1 = H at hP hS ⊢
    have hP : va_P (dC, dI) vwCl [(h0, .inr (10, [.ref ax10_0, .int xx10_1, .ref ox10_2, .ref ox10_3, .ref ox10_4, .ref ox10_5, .ref ox10_6, .ref ox10_7, .ref ox10_8, .ref ox10_9, .ref ox10_10, .ref ox10_11, .ref ox10_12, .ref ox10_13, .ref ox10_14, .ref ox10_15])), (ox10_14, .inr (4, [.ref ox4_14_0, .ref ox4_14_1, .ref ox4_14_2, .ref ox4_14_3, .int xx4_14_4, .int xx4_14_5, .int xx4_14_6, .int xx4_14_7, .int xx4_14_8, .ref ax4_14_9, .int xx4_14_10, .ref ax4_14_11])), (ax4_14_9, .inl (cx4_14_9, 64, .inl fx4_14_9))] H := hP
    have hD : va_D A [(h0, .inr (10, [.ref ax10_0, .int xx10_1, .ref ox10_2, .ref ox10_3, .ref ox10_4, .ref ox10_5, .ref ox10_6, .ref ox10_7, .ref ox10_8, .ref ox10_9, .ref ox10_10, .ref ox10_11, .ref ox10_12, .ref ox10_13, .ref ox10_14, .ref ox10_15])), (ox10_14, .inr (4, [.ref ox4_14_0, .ref ox4_14_1, .ref ox4_14_2, .ref ox4_14_3, .int xx4_14_4, .int xx4_14_5, .int xx4_14_6, .int xx4_14_7, .int xx4_14_8, .ref ax4_14_9, .int xx4_14_10, .ref ax4_14_11])), (ax4_14_9, .inl (cx4_14_9, 64, .inl fx4_14_9))] := hD
    rcases hw with ⟨q_6, g_3, g_4, g_5⟩ | rfl
    · have hP9 := hP.sub (ws' := [(h0, .inr (10, [.ref ax10_0, .int xx10_1, .ref ox10_2, .ref ox10_3, .ref ox10_4, .ref ox10_5, .ref ox10_6, .ref ox10_7, .ref ox10_8, .ref ox10_9, .ref ox10_10, .ref ox10_11, .ref ox10_12, .ref ox10_13, .ref ox10_14, .ref ox10_15])), (ox10_14, .inr (4, [.ref ox4_14_0, .ref ox4_14_1, .ref ox4_14_2, .ref ox4_14_3, .int xx4_14_4, .int xx4_14_5, .int xx4_14_6, .int xx4_14_7, .int xx4_14_8, .ref ax4_14_9, .int xx4_14_10, .ref ax4_14_11])), (ax4_14_9, .inl (cx4_14_9, 64, .inl fx4_14_9))]) [0, 1, 2] rfl
      have hD9 := hD.sub (ws' := [(h0, .inr (10, [.ref ax10_0, .int xx10_1, .ref ox10_2, .ref ox10_3, .ref ox10_4, .ref ox10_5, .ref ox10_6, .ref ox10_7, .ref ox10_8, .ref ox10_9, .ref ox10_10, .ref ox10_11, .ref ox10_12, .ref ox10_13, .ref ox10_14, .ref ox10_15])), (ox10_14, .inr (4, [.ref ox4_14_0, .ref ox4_14_1, .ref ox4_14_2, .ref ox4_14_3, .int xx4_14_4, .int xx4_14_5, .int xx4_14_6, .int xx4_14_7, .int xx4_14_8, .ref ax4_14_9, .int xx4_14_10, .ref ax4_14_11])), (ax4_14_9, .inl (cx4_14_9, 64, .inl fx4_14_9))]) [0, 1, 2] (by decide) rfl
      have hK9 := hK.sub (tys' := [(cx4_14_9, .int)]) [0] rfl
      refine W.widen (k := 0) (n := 0) (Nat.le_of_ble_eq_true rfl) (Nat.le_of_ble_eq_true rfl) ?_
      exact W.iret (v := r_2) hx hb hr (fun t ht hW => ⟨⟨r_2, (), rfl, Or.inl (⟨(by rw [q_6]), c_1⟩), by rw [ht]; exact hP9, va_K.moved hW.alike hK9, hD9⟩, hS.F ht⟩) hS.2.2 dX10_failureStep_22
    · have hP9 := hP.sub (ws' := [(h0, .inr (10, [.ref ax10_0, .int xx10_1, .ref ox10_2, .ref ox10_3, .ref ox10_4, .ref ox10_5, .ref ox10_6, .ref ox10_7, .ref ox10_8, .ref ox10_9, .ref ox10_10, .ref ox10_11, .ref ox10_12, .ref ox10_13, .ref ox10_14, .ref ox10_15])), (ox10_14, .inr (4, [.ref ox4_14_0, .ref ox4_14_1, .ref ox4_14_2, .ref ox4_14_3, .int xx4_14_4, .int xx4_14_5, .int xx4_14_6, .int xx4_14_7, .int xx4_14_8, .ref ax4_14_9, .int xx4_14_10, .ref ax4_14_11])), (ax4_14_9, .inl (cx4_14_9, 64, .inl fx4_14_9))]) [0, 1, 2] rfl
      have hD9 := hD.sub (ws' := [(h0, .inr (10, [.ref ax10_0, .int xx10_1, .ref ox10_2, .ref ox10_3, .ref ox10_4, .ref ox10_5, .ref ox10_6, .ref ox10_7, .ref ox10_8, .ref ox10_9, .ref ox10_10, .ref ox10_11, .ref ox10_12, .ref ox10_13, .ref ox10_14, .ref ox10_15])), (ox10_14, .inr (4, [.ref ox4_14_0, .ref ox4_14_1, .ref ox4_14_2, .ref ox4_14_3, .int xx4_14_4, .int xx4_14_5, .int xx4_14_6, .int xx4_14_7, .int xx4_14_8, .ref ax4_14_9, .int xx4_14_10, .ref ax4_14_11])), (ax4_14_9, .inl (cx4_14_9, 64, .inl fx4_14_9))]) [0, 1, 2] (by decide) rfl
      have hK9 := hK.sub (tys' := [(cx4_14_9, .int)]) [0] rfl
      refine W.widen (k := 0) (n := 0) (Nat.le_of_ble_eq_true rfl) (Nat.le_of_ble_eq_true rfl) ?_
      exact W.iret (v := (-1)) hx hb hr (fun t ht hW => ⟨⟨(-1), (), rfl, Or.inr (rfl), by rw [ht]; exact hP9, va_K.moved hW.alike hK9, hD9⟩, hS.F ht⟩) hS.2.2 dX10_failureStep_22
  · refine lv_iconst (v := (-1)) hx hb dX10_failureStep_10 (by decide) ?_
    refine lv_goto (tgt := 22) hx hb dX10_failureStep_11 (by decide) ?_
    have hP9 := hP.sub (ws' := [(h0, .inr (10, [.ref ax10_0, .int xx10_1, .ref ox10_2, .ref ox10_3, .ref ox10_4, .ref ox10_5, .ref ox10_6, .ref ox10_7, .ref ox10_8, .ref ox10_9, .ref ox10_10, .ref ox10_11, .ref ox10_12, .ref ox10_13, .ref ox10_14, .ref ox10_15])), (ox10_14, .inr (4, [.ref ox4_14_0, .ref ox4_14_1, .ref ox4_14_2, .ref ox4_14_3, .int xx4_14_4, .int xx4_14_5, .int xx4_14_6, .int xx4_14_7, .int xx4_14_8, .ref ax4_14_9, .int xx4_14_10, .ref ax4_14_11])), (ax4_14_9, .inl (cx4_14_9, 64, .inl fx4_14_9))]) [0, 1, 2] rfl
    have hD9 := hD.sub (ws' := [(h0, .inr (10, [.ref ax10_0, .int xx10_1, .ref ox10_2, .ref ox10_3, .ref ox10_4, .ref ox10_5, .ref ox10_6, .ref ox10_7, .ref ox10_8, .ref ox10_9, .ref ox10_10, .ref ox10_11, .ref ox10_12, .ref ox10_13, .ref ox10_14, .ref ox10_15])), (ox10_14, .inr (4, [.ref ox4_14_0, .ref ox4_14_1, .ref ox4_14_2, .ref ox4_14_3, .int xx4_14_4, .int xx4_14_5, .int xx4_14_6, .int xx4_14_7, .int xx4_14_8, .ref ax4_14_9, .int xx4_14_10, .ref ax4_14_11])), (ax4_14_9, .inl (cx4_14_9, 64, .inl fx4_14_9))]) [0, 1, 2] (by decide) rfl
    have hK9 := hK.sub (tys' := [(cx4_14_9, .int)]) [0] rfl
    refine W.widen (k := 0) (n := 0) (Nat.le_of_ble_eq_true rfl) (Nat.le_of_ble_eq_true rfl) ?_
    exact W.iret (v := (-1)) hx hb hr (fun t ht hW => ⟨⟨(-1), (), rfl, Or.inr (rfl), by rw [ht]; exact hP9, va_K.moved hW.alike hK9, hD9⟩, hS.F ht⟩) hS.2.2 dX10_failureStep_22

set_option maxRecDepth 100000 in
set_option maxHeartbeats 4000000 in
theorem s_X10_kept (l : Launch) (dC : Nat → ClassId) (dI : Nat → Nat → Nat) (h0 : Nat) (ax10_0 : Nat) (xx10_1 : Int32) (ox10_2 : Nat) (ox10_3 : Nat) (ox10_4 : Nat) (ox10_5 : Nat) (ox10_6 : Nat) (ox10_7 : Nat) (ox10_8 : Nat) (ax9_8_0 : Nat) (cx9_8_0 : ClassId) (fx9_8_0 : Nat → Int32) (xx9_8_1 : Int32) (xx9_8_2 : Int32) (xx9_8_3 : Int32) (ox10_9 : Nat) (ox10_10 : Nat) (ox10_11 : Nat) (ox10_12 : Nat) (ox10_13 : Nat) (ox10_14 : Nat) (ox10_15 : Nat) (p0 : Int32) (hi_xx9_8_1 : (0 : Int) ≤ xx9_8_1.toInt ∧ xx9_8_1.toInt ≤ (4 : Int)) (sz : Nat) : Met l yX10_kept (.code yX10_kept cX10_kept 2 (some .int) :: pw) ({ frames := 1, cells := 0, slots := 0, locals := 21 }) (va_Pc [.ref h0, .int p0] (vPre dC dI [(h0, .inr (10, [.ref ax10_0, .int xx10_1, .ref ox10_2, .ref ox10_3, .ref ox10_4, .ref ox10_5, .ref ox10_6, .ref ox10_7, .ref ox10_8, .ref ox10_9, .ref ox10_10, .ref ox10_11, .ref ox10_12, .ref ox10_13, .ref ox10_14, .ref ox10_15])), (ox10_8, .inr (9, [.ref ax9_8_0, .int xx9_8_1, .int xx9_8_2, .int xx9_8_3])), (ax9_8_0, .inl (cx9_8_0, 4, .inl fx9_8_0))] [(cx9_8_0, .int)] sz)) (va_Qi (fun (r : Int32) (_ : Unit) => (r = (fx9_8_0 p0.toNatClampNeg) ∧ ¬ p0 = (-1)) ∨ (r = xx9_8_1 ∧ p0 = (-1)) ∨ (r = (-1) ∧ ¬ p0 = (-1))) (fun (_ : Unit) t => vPst dC dI (va_A [(h0, .inr (10, [.ref ax10_0, .int xx10_1, .ref ox10_2, .ref ox10_3, .ref ox10_4, .ref ox10_5, .ref ox10_6, .ref ox10_7, .ref ox10_8, .ref ox10_9, .ref ox10_10, .ref ox10_11, .ref ox10_12, .ref ox10_13, .ref ox10_14, .ref ox10_15])), (ox10_8, .inr (9, [.ref ax9_8_0, .int xx9_8_1, .int xx9_8_2, .int xx9_8_3])), (ax9_8_0, .inl (cx9_8_0, 4, .inl fx9_8_0))] sz) [(h0, .inr (10, [.ref ax10_0, .int xx10_1, .ref ox10_2, .ref ox10_3, .ref ox10_4, .ref ox10_5, .ref ox10_6, .ref ox10_7, .ref ox10_8, .ref ox10_9, .ref ox10_10, .ref ox10_11, .ref ox10_12, .ref ox10_13, .ref ox10_14, .ref ox10_15])), (ox10_8, .inr (9, [.ref ax9_8_0, .int xx9_8_1, .int xx9_8_2, .int xx9_8_3])), (ax9_8_0, .inl (cx9_8_0, 4, .inl fx9_8_0))] [(cx9_8_0, .int)] t) (va_A [(h0, .inr (10, [.ref ax10_0, .int xx10_1, .ref ox10_2, .ref ox10_3, .ref ox10_4, .ref ox10_5, .ref ox10_6, .ref ox10_7, .ref ox10_8, .ref ox10_9, .ref ox10_10, .ref ox10_11, .ref ox10_12, .ref ox10_13, .ref ox10_14, .ref ox10_15])), (ox10_8, .inr (9, [.ref ax9_8_0, .int xx9_8_1, .int xx9_8_2, .int xx9_8_3])), (ax9_8_0, .inl (cx9_8_0, 4, .inl fx9_8_0))] sz)) 0 0 (va_A [(h0, .inr (10, [.ref ax10_0, .int xx10_1, .ref ox10_2, .ref ox10_3, .ref ox10_4, .ref ox10_5, .ref ox10_6, .ref ox10_7, .ref ox10_8, .ref ox10_9, .ref ox10_10, .ref ox10_11, .ref ox10_12, .ref ox10_13, .ref ox10_14, .ref ox10_15])), (ox10_8, .inr (9, [.ref ax9_8_0, .int xx9_8_1, .int xx9_8_2, .int xx9_8_3])), (ax9_8_0, .inl (cx9_8_0, 4, .inl fx9_8_0))] sz) := by
  refine Met.ofW (cc := cX10_kept) (maxL := 2) (ret := (some .int)) (by decide) rfl ?_
  intro p e s m args below meth c s₁ B hml hv
  obtain ⟨rfl, hsz, hP, hK, hD0, hN⟩ := hv
  have hx := B.exec
  have hb := B.bytes
  have hr := B.returns
  have hts := atoms_spec (ws := .code yX10_kept cX10_kept 2 (some .int) :: pw) B.pre
  have hts : ∀ w ∈ pw, w.before _ s = true := fun w h => hts w (List.mem_cons_of_mem _ h)
  have hown : s.vm.findClass RX10 = some m.cls := findClass_of_methodNamed B.named
  have hlocks := B.notSynchronized
  subst hsz
  have hD := hD0.self (sz := s.heap.size)
  generalize hAe : va_A [(h0, .inr (10, [.ref ax10_0, .int xx10_1, .ref ox10_2, .ref ox10_3, .ref ox10_4, .ref ox10_5, .ref ox10_6, .ref ox10_7, .ref ox10_8, .ref ox10_9, .ref ox10_10, .ref ox10_11, .ref ox10_12, .ref ox10_13, .ref ox10_14, .ref ox10_15])), (ox10_8, .inr (9, [.ref ax9_8_0, .int xx9_8_1, .int xx9_8_2, .int xx9_8_3])), (ax9_8_0, .inl (cx9_8_0, 4, .inl fx9_8_0))] s.heap.size = A at hD ⊢
  have hA : ∀ q : Nat, s.heap.size ≤ q → A q := fun q h => by rw [← hAe]; exact Or.inr h
  have hS : va_S A s.heap s.heap [] := va_S.rf
  have hP : va_P (dC, dI) vwCl [(h0, .inr (10, [.ref ax10_0, .int xx10_1, .ref ox10_2, .ref ox10_3, .ref ox10_4, .ref ox10_5, .ref ox10_6, .ref ox10_7, .ref ox10_8, .ref ox10_9, .ref ox10_10, .ref ox10_11, .ref ox10_12, .ref ox10_13, .ref ox10_14, .ref ox10_15])), (ox10_8, .inr (9, [.ref ax9_8_0, .int xx9_8_1, .int xx9_8_2, .int xx9_8_3])), (ax9_8_0, .inl (cx9_8_0, 4, .inl fx9_8_0))] s.heap := hP
  have hl := lv_entry ([.ref h0, .int p0]) (n := 2) (Nat.le_of_ble_eq_true rfl)
  rw [lg_entry_eq]
  generalize (lg_sl ([.ref h0, .int p0]) ++ List.replicate (2 - (lg_sl ([.ref h0, .int p0])).length) Slot.unset).toArray = ls at hl ⊢
  have hl : lv_has ls 2 [(0, .ref h0), (1, .int p0)] := hl
  refine lv_iload_n hx hb dX10_kept_0 rfl (lv_at hl 1 rfl) ?_
  refine lv_iconst (v := (-1)) hx hb dX10_kept_1 (by decide) ?_
  refine lv_icmp_ne (tgt := 15) hx hb dX10_kept_2 (by decide) (fun c_1 => ?_) (fun c_1 => ?_)
  · refine lv_aload_n hx hb dX10_kept_15 rfl (lv_at hl 0 rfl) ?_
    refine va_get (D := (dC, dI)) (ci := 10) (v := .ref ox10_8) (C := RX10) (T := TX10) (N := 16) hx hb hts inlX10 hown hK hP 0 rfl rfl 8 (by decide) (hts (.fieldLink RX10 64 "ShapeReader" "ways" "LShapeReader$Ways;") mw_21_10) (fun _ h9 => h9) rfl dX10_kept_16 ?_
    refine lv_iload_n hx hb dX10_kept_19 rfl (lv_at hl 1 rfl) ?_
    have hPc := hP.sub (ws' := [(ox10_8, .inr (9, [.ref ax9_8_0, .int xx9_8_1, .int xx9_8_2, .int xx9_8_3])), (ax9_8_0, .inl (cx9_8_0, 4, .inl fx9_8_0))]) [1, 2] rfl
    have hDc := hD.sub (ws' := [(ox10_8, .inr (9, [.ref ax9_8_0, .int xx9_8_1, .int xx9_8_2, .int xx9_8_3])), (ax9_8_0, .inl (cx9_8_0, 4, .inl fx9_8_0))]) [1, 2] (by decide) rfl
    have hKc := hK.sub (tys' := [(cx9_8_0, .int)]) [0] rfl
    have hFc := va_free (wc := [(ox10_8, .inr (9, [.ref ax9_8_0, .int xx9_8_1, .int xx9_8_2, .int xx9_8_3])), (ax9_8_0, .inl (cx9_8_0, 4, .inl fx9_8_0))]) hD hS hA [1, 2] rfl
    refine va_calli (va_runV (As := [.int p0]) (rest := []) ⟨hx, hb, hml, hown, hts⟩ (s_X9_pairAt l dC dI ox10_8 ax9_8_0 cx9_8_0 fx9_8_0 xx9_8_1 xx9_8_2 xx9_8_3 p0 (by have a0 := hi_xx9_8_1.1; have a1 := hi_xx9_8_1.2; omega) s.heap.size) (cwV 1 hts (gV mw_26_0 mw_20_7 mw_20_8 mw_0_13 mw_51_20) rfl rfl rfl (by decide +kernel) ⟨(Nat.le_of_ble_eq_true rfl), (Nat.le_of_ble_eq_true rfl)⟩) (vV (ci := 9) (q0 := 0) hKc hPc hDc hN rfl rfl) rfl rfl hl.1 rfl (lv_room (Nat.le_of_ble_eq_true rfl)) dX10_kept_20 ⟨(Nat.le_of_ble_eq_true rfl), (Nat.le_of_ble_eq_true rfl)⟩) hS (fun q _ h => hFc q h) hFc (fun r_2 u t H1 locs ht hvm hw hB hz1 hk1 hS => ?_)
    obtain ⟨hP1, hK1, hD1⟩ := hB
    rw [ht] at hP1
    have hK1 := va_K.moved hvm.symm hK1
    obtain ⟨hP, hD⟩ := va_join (wr := [(h0, .inr (10, [.ref ax10_0, .int xx10_1, .ref ox10_2, .ref ox10_3, .ref ox10_4, .ref ox10_5, .ref ox10_6, .ref ox10_7, .ref ox10_8, .ref ox10_9, .ref ox10_10, .ref ox10_11, .ref ox10_12, .ref ox10_13, .ref ox10_14, .ref ox10_15]))]) (w1 := [(ox10_8, .inr (9, [.ref ax9_8_0, .int xx9_8_1, .int xx9_8_2, .int xx9_8_3])), (ax9_8_0, .inl (cx9_8_0, 4, .inl fx9_8_0))]) hP hD [1, 2] [0] rfl rfl (by decide) (by decide) hk1 hFc hP1 hD1
    clear hPc hDc hKc hP1 hK1 hD1 hFc hk1 hz1
    generalize H1 = H at hP hS ⊢
    have hP : va_P (dC, dI) vwCl [(h0, .inr (10, [.ref ax10_0, .int xx10_1, .ref ox10_2, .ref ox10_3, .ref ox10_4, .ref ox10_5, .ref ox10_6, .ref ox10_7, .ref ox10_8, .ref ox10_9, .ref ox10_10, .ref ox10_11, .ref ox10_12, .ref ox10_13, .ref ox10_14, .ref ox10_15])), (ox10_8, .inr (9, [.ref ax9_8_0, .int xx9_8_1, .int xx9_8_2, .int xx9_8_3])), (ax9_8_0, .inl (cx9_8_0, 4, .inl fx9_8_0))] H := hP
    have hD : va_D A [(h0, .inr (10, [.ref ax10_0, .int xx10_1, .ref ox10_2, .ref ox10_3, .ref ox10_4, .ref ox10_5, .ref ox10_6, .ref ox10_7, .ref ox10_8, .ref ox10_9, .ref ox10_10, .ref ox10_11, .ref ox10_12, .ref ox10_13, .ref ox10_14, .ref ox10_15])), (ox10_8, .inr (9, [.ref ax9_8_0, .int xx9_8_1, .int xx9_8_2, .int xx9_8_3])), (ax9_8_0, .inl (cx9_8_0, 4, .inl fx9_8_0))] := hD
    rcases hw with ⟨q_6, g_3, g_4, g_5⟩ | rfl
    · have hP9 := hP.sub (ws' := [(h0, .inr (10, [.ref ax10_0, .int xx10_1, .ref ox10_2, .ref ox10_3, .ref ox10_4, .ref ox10_5, .ref ox10_6, .ref ox10_7, .ref ox10_8, .ref ox10_9, .ref ox10_10, .ref ox10_11, .ref ox10_12, .ref ox10_13, .ref ox10_14, .ref ox10_15])), (ox10_8, .inr (9, [.ref ax9_8_0, .int xx9_8_1, .int xx9_8_2, .int xx9_8_3])), (ax9_8_0, .inl (cx9_8_0, 4, .inl fx9_8_0))]) [0, 1, 2] rfl
      have hD9 := hD.sub (ws' := [(h0, .inr (10, [.ref ax10_0, .int xx10_1, .ref ox10_2, .ref ox10_3, .ref ox10_4, .ref ox10_5, .ref ox10_6, .ref ox10_7, .ref ox10_8, .ref ox10_9, .ref ox10_10, .ref ox10_11, .ref ox10_12, .ref ox10_13, .ref ox10_14, .ref ox10_15])), (ox10_8, .inr (9, [.ref ax9_8_0, .int xx9_8_1, .int xx9_8_2, .int xx9_8_3])), (ax9_8_0, .inl (cx9_8_0, 4, .inl fx9_8_0))]) [0, 1, 2] (by decide) rfl
      have hK9 := hK.sub (tys' := [(cx9_8_0, .int)]) [0] rfl
      refine W.widen (k := 0) (n := 0) (Nat.le_of_ble_eq_true rfl) (Nat.le_of_ble_eq_true rfl) ?_
      exact W.iret (v := r_2) hx hb hr (fun t ht hW => ⟨⟨r_2, (), rfl, Or.inl (⟨(by rw [q_6]), c_1⟩), by rw [ht]; exact hP9, va_K.moved hW.alike hK9, hD9⟩, hS.F ht⟩) hS.2.2 dX10_kept_23
    · have hP9 := hP.sub (ws' := [(h0, .inr (10, [.ref ax10_0, .int xx10_1, .ref ox10_2, .ref ox10_3, .ref ox10_4, .ref ox10_5, .ref ox10_6, .ref ox10_7, .ref ox10_8, .ref ox10_9, .ref ox10_10, .ref ox10_11, .ref ox10_12, .ref ox10_13, .ref ox10_14, .ref ox10_15])), (ox10_8, .inr (9, [.ref ax9_8_0, .int xx9_8_1, .int xx9_8_2, .int xx9_8_3])), (ax9_8_0, .inl (cx9_8_0, 4, .inl fx9_8_0))]) [0, 1, 2] rfl
      have hD9 := hD.sub (ws' := [(h0, .inr (10, [.ref ax10_0, .int xx10_1, .ref ox10_2, .ref ox10_3, .ref ox10_4, .ref ox10_5, .ref ox10_6, .ref ox10_7, .ref ox10_8, .ref ox10_9, .ref ox10_10, .ref ox10_11, .ref ox10_12, .ref ox10_13, .ref ox10_14, .ref ox10_15])), (ox10_8, .inr (9, [.ref ax9_8_0, .int xx9_8_1, .int xx9_8_2, .int xx9_8_3])), (ax9_8_0, .inl (cx9_8_0, 4, .inl fx9_8_0))]) [0, 1, 2] (by decide) rfl
      have hK9 := hK.sub (tys' := [(cx9_8_0, .int)]) [0] rfl
      refine W.widen (k := 0) (n := 0) (Nat.le_of_ble_eq_true rfl) (Nat.le_of_ble_eq_true rfl) ?_
      exact W.iret (v := (-1)) hx hb hr (fun t ht hW => ⟨⟨(-1), (), rfl, Or.inr (Or.inr (⟨rfl, c_1⟩)), by rw [ht]; exact hP9, va_K.moved hW.alike hK9, hD9⟩, hS.F ht⟩) hS.2.2 dX10_kept_23
  · refine lv_aload_n hx hb dX10_kept_5 rfl (lv_at hl 0 rfl) ?_
    refine va_get (D := (dC, dI)) (ci := 10) (v := .ref ox10_8) (C := RX10) (T := TX10) (N := 16) hx hb hts inlX10 hown hK hP 0 rfl rfl 8 (by decide) (hts (.fieldLink RX10 64 "ShapeReader" "ways" "LShapeReader$Ways;") mw_21_10) (fun _ h9 => h9) rfl dX10_kept_6 ?_
    refine va_get (D := (dC, dI)) (ci := 9) (v := .int xx9_8_1) (C := RX9) (T := TX9) (N := 4) hx hb hts inlX9 hown hK hP 1 rfl rfl 1 (by decide) (hts (.fieldLink RX10 298 "ShapeReader$Ways" "size" "I") mw_25_29) (fun _ h9 => h9) rfl dX10_kept_9 ?_
    refine lv_goto (tgt := 23) hx hb dX10_kept_12 (by decide) ?_
    have hP9 := hP.sub (ws' := [(h0, .inr (10, [.ref ax10_0, .int xx10_1, .ref ox10_2, .ref ox10_3, .ref ox10_4, .ref ox10_5, .ref ox10_6, .ref ox10_7, .ref ox10_8, .ref ox10_9, .ref ox10_10, .ref ox10_11, .ref ox10_12, .ref ox10_13, .ref ox10_14, .ref ox10_15])), (ox10_8, .inr (9, [.ref ax9_8_0, .int xx9_8_1, .int xx9_8_2, .int xx9_8_3])), (ax9_8_0, .inl (cx9_8_0, 4, .inl fx9_8_0))]) [0, 1, 2] rfl
    have hD9 := hD.sub (ws' := [(h0, .inr (10, [.ref ax10_0, .int xx10_1, .ref ox10_2, .ref ox10_3, .ref ox10_4, .ref ox10_5, .ref ox10_6, .ref ox10_7, .ref ox10_8, .ref ox10_9, .ref ox10_10, .ref ox10_11, .ref ox10_12, .ref ox10_13, .ref ox10_14, .ref ox10_15])), (ox10_8, .inr (9, [.ref ax9_8_0, .int xx9_8_1, .int xx9_8_2, .int xx9_8_3])), (ax9_8_0, .inl (cx9_8_0, 4, .inl fx9_8_0))]) [0, 1, 2] (by decide) rfl
    have hK9 := hK.sub (tys' := [(cx9_8_0, .int)]) [0] rfl
    refine W.widen (k := 0) (n := 0) (Nat.le_of_ble_eq_true rfl) (Nat.le_of_ble_eq_true rfl) ?_
    exact W.iret (v := xx9_8_1) hx hb hr (fun t ht hW => ⟨⟨xx9_8_1, (), rfl, Or.inr (Or.inl (⟨rfl, c_1⟩)), by rw [ht]; exact hP9, va_K.moved hW.alike hK9, hD9⟩, hS.F ht⟩) hS.2.2 dX10_kept_23

set_option maxRecDepth 100000 in
set_option maxHeartbeats 4000000 in
theorem s_X10_count (l : Launch) (dC : Nat → ClassId) (dI : Nat → Nat → Nat) (h0 : Nat) (ax10_0 : Nat) (xx10_1 : Int32) (ox10_2 : Nat) (ox10_3 : Nat) (xx5_3_0 : Int32) (xx5_3_1 : Int32) (ax5_3_2 : Nat) (ax5_3_3 : Nat) (ax5_3_4 : Nat) (ax5_3_5 : Nat) (ax5_3_6 : Nat) (ax5_3_7 : Nat) (ax5_3_8 : Nat) (ax5_3_9 : Nat) (ax5_3_10 : Nat) (ax5_3_11 : Nat) (ax5_3_12 : Nat) (ax5_3_13 : Nat) (ax5_3_14 : Nat) (ax5_3_15 : Nat) (ax5_3_16 : Nat) (ox10_4 : Nat) (ox10_5 : Nat) (ox10_6 : Nat) (ax1_6_0 : Nat) (ax1_6_1 : Nat) (ax1_6_2 : Nat) (cx1_6_2 : ClassId) (fx1_6_2 : Nat → Int32) (ox10_7 : Nat) (ox10_8 : Nat) (ax9_8_0 : Nat) (xx9_8_1 : Int32) (xx9_8_2 : Int32) (xx9_8_3 : Int32) (ox10_9 : Nat) (nx7_9 : Nat) (xx7_9_1 : Int32) (ax7_9_2 : Nat) (ax7_9_3 : Nat) (ax7_9_4 : Nat) (ax7_9_5 : Nat) (ax7_9_6 : Nat) (ax7_9_7 : Nat) (ax7_9_8 : Nat) (ax7_9_9 : Nat) (ax7_9_10 : Nat) (ax7_9_11 : Nat) (ax7_9_12 : Nat) (ox10_10 : Nat) (ox10_11 : Nat) (ox10_12 : Nat) (ox10_13 : Nat) (ox10_14 : Nat) (ox10_15 : Nat) (p0 : Int32) (hi_xx5_3_0 : (0 : Int) ≤ xx5_3_0.toInt ∧ xx5_3_0.toInt ≤ (6 : Int)) (hi_xx5_3_1 : (0 : Int) ≤ xx5_3_1.toInt ∧ xx5_3_1.toInt ≤ (262 : Int)) (hi_xx9_8_1 : (0 : Int) ≤ xx9_8_1.toInt ∧ xx9_8_1.toInt ≤ (4 : Int)) (hn_nx7_9 : nx7_9 < 2 ^ 31) (sz : Nat) : Met l yX10_count (.code yX10_count cX10_count 2 (some .int) :: pw) ({ frames := 3, cells := 0, slots := 0, locals := 64 }) (va_Pc [.ref h0, .int p0] (vPre dC dI [(h0, .inr (10, [.ref ax10_0, .int xx10_1, .ref ox10_2, .ref ox10_3, .ref ox10_4, .ref ox10_5, .ref ox10_6, .ref ox10_7, .ref ox10_8, .ref ox10_9, .ref ox10_10, .ref ox10_11, .ref ox10_12, .ref ox10_13, .ref ox10_14, .ref ox10_15])), (ox10_3, .inr (5, [.int xx5_3_0, .int xx5_3_1, .ref ax5_3_2, .ref ax5_3_3, .ref ax5_3_4, .ref ax5_3_5, .ref ax5_3_6, .ref ax5_3_7, .ref ax5_3_8, .ref ax5_3_9, .ref ax5_3_10, .ref ax5_3_11, .ref ax5_3_12, .ref ax5_3_13, .ref ax5_3_14, .ref ax5_3_15, .ref ax5_3_16])), (ox10_6, .inr (1, [.ref ax1_6_0, .ref ax1_6_1, .ref ax1_6_2])), (ax1_6_2, .inl (cx1_6_2, 4, .inl fx1_6_2)), (ox10_8, .inr (9, [.ref ax9_8_0, .int xx9_8_1, .int xx9_8_2, .int xx9_8_3])), (ox10_9, .inr (7, [.int (nI nx7_9), .int xx7_9_1, .ref ax7_9_2, .ref ax7_9_3, .ref ax7_9_4, .ref ax7_9_5, .ref ax7_9_6, .ref ax7_9_7, .ref ax7_9_8, .ref ax7_9_9, .ref ax7_9_10, .ref ax7_9_11, .ref ax7_9_12]))] [(cx1_6_2, .int)] sz)) (va_Qi (fun (r : Int32) (_ : Unit) => True) (fun (_ : Unit) t => vPst dC dI (va_A [(h0, .inr (10, [.ref ax10_0, .int xx10_1, .ref ox10_2, .ref ox10_3, .ref ox10_4, .ref ox10_5, .ref ox10_6, .ref ox10_7, .ref ox10_8, .ref ox10_9, .ref ox10_10, .ref ox10_11, .ref ox10_12, .ref ox10_13, .ref ox10_14, .ref ox10_15])), (ox10_3, .inr (5, [.int xx5_3_0, .int xx5_3_1, .ref ax5_3_2, .ref ax5_3_3, .ref ax5_3_4, .ref ax5_3_5, .ref ax5_3_6, .ref ax5_3_7, .ref ax5_3_8, .ref ax5_3_9, .ref ax5_3_10, .ref ax5_3_11, .ref ax5_3_12, .ref ax5_3_13, .ref ax5_3_14, .ref ax5_3_15, .ref ax5_3_16])), (ox10_6, .inr (1, [.ref ax1_6_0, .ref ax1_6_1, .ref ax1_6_2])), (ax1_6_2, .inl (cx1_6_2, 4, .inl fx1_6_2)), (ox10_8, .inr (9, [.ref ax9_8_0, .int xx9_8_1, .int xx9_8_2, .int xx9_8_3])), (ox10_9, .inr (7, [.int (nI nx7_9), .int xx7_9_1, .ref ax7_9_2, .ref ax7_9_3, .ref ax7_9_4, .ref ax7_9_5, .ref ax7_9_6, .ref ax7_9_7, .ref ax7_9_8, .ref ax7_9_9, .ref ax7_9_10, .ref ax7_9_11, .ref ax7_9_12]))] sz) [(h0, .inr (10, [.ref ax10_0, .int xx10_1, .ref ox10_2, .ref ox10_3, .ref ox10_4, .ref ox10_5, .ref ox10_6, .ref ox10_7, .ref ox10_8, .ref ox10_9, .ref ox10_10, .ref ox10_11, .ref ox10_12, .ref ox10_13, .ref ox10_14, .ref ox10_15])), (ox10_3, .inr (5, [.int xx5_3_0, .int xx5_3_1, .ref ax5_3_2, .ref ax5_3_3, .ref ax5_3_4, .ref ax5_3_5, .ref ax5_3_6, .ref ax5_3_7, .ref ax5_3_8, .ref ax5_3_9, .ref ax5_3_10, .ref ax5_3_11, .ref ax5_3_12, .ref ax5_3_13, .ref ax5_3_14, .ref ax5_3_15, .ref ax5_3_16])), (ox10_6, .inr (1, [.ref ax1_6_0, .ref ax1_6_1, .ref ax1_6_2])), (ax1_6_2, .inl (cx1_6_2, 4, .inl fx1_6_2)), (ox10_8, .inr (9, [.ref ax9_8_0, .int xx9_8_1, .int xx9_8_2, .int xx9_8_3])), (ox10_9, .inr (7, [.int (nI nx7_9), .int xx7_9_1, .ref ax7_9_2, .ref ax7_9_3, .ref ax7_9_4, .ref ax7_9_5, .ref ax7_9_6, .ref ax7_9_7, .ref ax7_9_8, .ref ax7_9_9, .ref ax7_9_10, .ref ax7_9_11, .ref ax7_9_12]))] [(cx1_6_2, .int)] t) (va_A [(h0, .inr (10, [.ref ax10_0, .int xx10_1, .ref ox10_2, .ref ox10_3, .ref ox10_4, .ref ox10_5, .ref ox10_6, .ref ox10_7, .ref ox10_8, .ref ox10_9, .ref ox10_10, .ref ox10_11, .ref ox10_12, .ref ox10_13, .ref ox10_14, .ref ox10_15])), (ox10_3, .inr (5, [.int xx5_3_0, .int xx5_3_1, .ref ax5_3_2, .ref ax5_3_3, .ref ax5_3_4, .ref ax5_3_5, .ref ax5_3_6, .ref ax5_3_7, .ref ax5_3_8, .ref ax5_3_9, .ref ax5_3_10, .ref ax5_3_11, .ref ax5_3_12, .ref ax5_3_13, .ref ax5_3_14, .ref ax5_3_15, .ref ax5_3_16])), (ox10_6, .inr (1, [.ref ax1_6_0, .ref ax1_6_1, .ref ax1_6_2])), (ax1_6_2, .inl (cx1_6_2, 4, .inl fx1_6_2)), (ox10_8, .inr (9, [.ref ax9_8_0, .int xx9_8_1, .int xx9_8_2, .int xx9_8_3])), (ox10_9, .inr (7, [.int (nI nx7_9), .int xx7_9_1, .ref ax7_9_2, .ref ax7_9_3, .ref ax7_9_4, .ref ax7_9_5, .ref ax7_9_6, .ref ax7_9_7, .ref ax7_9_8, .ref ax7_9_9, .ref ax7_9_10, .ref ax7_9_11, .ref ax7_9_12]))] sz)) 0 0 (va_A [(h0, .inr (10, [.ref ax10_0, .int xx10_1, .ref ox10_2, .ref ox10_3, .ref ox10_4, .ref ox10_5, .ref ox10_6, .ref ox10_7, .ref ox10_8, .ref ox10_9, .ref ox10_10, .ref ox10_11, .ref ox10_12, .ref ox10_13, .ref ox10_14, .ref ox10_15])), (ox10_3, .inr (5, [.int xx5_3_0, .int xx5_3_1, .ref ax5_3_2, .ref ax5_3_3, .ref ax5_3_4, .ref ax5_3_5, .ref ax5_3_6, .ref ax5_3_7, .ref ax5_3_8, .ref ax5_3_9, .ref ax5_3_10, .ref ax5_3_11, .ref ax5_3_12, .ref ax5_3_13, .ref ax5_3_14, .ref ax5_3_15, .ref ax5_3_16])), (ox10_6, .inr (1, [.ref ax1_6_0, .ref ax1_6_1, .ref ax1_6_2])), (ax1_6_2, .inl (cx1_6_2, 4, .inl fx1_6_2)), (ox10_8, .inr (9, [.ref ax9_8_0, .int xx9_8_1, .int xx9_8_2, .int xx9_8_3])), (ox10_9, .inr (7, [.int (nI nx7_9), .int xx7_9_1, .ref ax7_9_2, .ref ax7_9_3, .ref ax7_9_4, .ref ax7_9_5, .ref ax7_9_6, .ref ax7_9_7, .ref ax7_9_8, .ref ax7_9_9, .ref ax7_9_10, .ref ax7_9_11, .ref ax7_9_12]))] sz) := by
  refine Met.ofW (cc := cX10_count) (maxL := 2) (ret := (some .int)) (by decide) rfl ?_
  intro p e s m args below meth c s₁ B hml hv
  obtain ⟨rfl, hsz, hP, hK, hD0, hN⟩ := hv
  have hx := B.exec
  have hb := B.bytes
  have hr := B.returns
  have hts := atoms_spec (ws := .code yX10_count cX10_count 2 (some .int) :: pw) B.pre
  have hts : ∀ w ∈ pw, w.before _ s = true := fun w h => hts w (List.mem_cons_of_mem _ h)
  have hown : s.vm.findClass RX10 = some m.cls := findClass_of_methodNamed B.named
  have hlocks := B.notSynchronized
  subst hsz
  have hD := hD0.self (sz := s.heap.size)
  generalize hAe : va_A [(h0, .inr (10, [.ref ax10_0, .int xx10_1, .ref ox10_2, .ref ox10_3, .ref ox10_4, .ref ox10_5, .ref ox10_6, .ref ox10_7, .ref ox10_8, .ref ox10_9, .ref ox10_10, .ref ox10_11, .ref ox10_12, .ref ox10_13, .ref ox10_14, .ref ox10_15])), (ox10_3, .inr (5, [.int xx5_3_0, .int xx5_3_1, .ref ax5_3_2, .ref ax5_3_3, .ref ax5_3_4, .ref ax5_3_5, .ref ax5_3_6, .ref ax5_3_7, .ref ax5_3_8, .ref ax5_3_9, .ref ax5_3_10, .ref ax5_3_11, .ref ax5_3_12, .ref ax5_3_13, .ref ax5_3_14, .ref ax5_3_15, .ref ax5_3_16])), (ox10_6, .inr (1, [.ref ax1_6_0, .ref ax1_6_1, .ref ax1_6_2])), (ax1_6_2, .inl (cx1_6_2, 4, .inl fx1_6_2)), (ox10_8, .inr (9, [.ref ax9_8_0, .int xx9_8_1, .int xx9_8_2, .int xx9_8_3])), (ox10_9, .inr (7, [.int (nI nx7_9), .int xx7_9_1, .ref ax7_9_2, .ref ax7_9_3, .ref ax7_9_4, .ref ax7_9_5, .ref ax7_9_6, .ref ax7_9_7, .ref ax7_9_8, .ref ax7_9_9, .ref ax7_9_10, .ref ax7_9_11, .ref ax7_9_12]))] s.heap.size = A at hD ⊢
  have hA : ∀ q : Nat, s.heap.size ≤ q → A q := fun q h => by rw [← hAe]; exact Or.inr h
  have hS : va_S A s.heap s.heap [] := va_S.rf
  have hP : va_P (dC, dI) vwCl [(h0, .inr (10, [.ref ax10_0, .int xx10_1, .ref ox10_2, .ref ox10_3, .ref ox10_4, .ref ox10_5, .ref ox10_6, .ref ox10_7, .ref ox10_8, .ref ox10_9, .ref ox10_10, .ref ox10_11, .ref ox10_12, .ref ox10_13, .ref ox10_14, .ref ox10_15])), (ox10_3, .inr (5, [.int xx5_3_0, .int xx5_3_1, .ref ax5_3_2, .ref ax5_3_3, .ref ax5_3_4, .ref ax5_3_5, .ref ax5_3_6, .ref ax5_3_7, .ref ax5_3_8, .ref ax5_3_9, .ref ax5_3_10, .ref ax5_3_11, .ref ax5_3_12, .ref ax5_3_13, .ref ax5_3_14, .ref ax5_3_15, .ref ax5_3_16])), (ox10_6, .inr (1, [.ref ax1_6_0, .ref ax1_6_1, .ref ax1_6_2])), (ax1_6_2, .inl (cx1_6_2, 4, .inl fx1_6_2)), (ox10_8, .inr (9, [.ref ax9_8_0, .int xx9_8_1, .int xx9_8_2, .int xx9_8_3])), (ox10_9, .inr (7, [.int (nI nx7_9), .int xx7_9_1, .ref ax7_9_2, .ref ax7_9_3, .ref ax7_9_4, .ref ax7_9_5, .ref ax7_9_6, .ref ax7_9_7, .ref ax7_9_8, .ref ax7_9_9, .ref ax7_9_10, .ref ax7_9_11, .ref ax7_9_12]))] s.heap := hP
  have hl := lv_entry ([.ref h0, .int p0]) (n := 2) (Nat.le_of_ble_eq_true rfl)
  rw [lg_entry_eq]
  generalize (lg_sl ([.ref h0, .int p0]) ++ List.replicate (2 - (lg_sl ([.ref h0, .int p0])).length) Slot.unset).toArray = ls at hl ⊢
  have hl : lv_has ls 2 [(0, .ref h0), (1, .int p0)] := hl
  refine lv_iload_n hx hb dX10_count_0 rfl (lv_at hl 1 rfl) ?_
  rcases (il_sw6 p0 (0) (1) (2) (3) (4) (5)) with s_1 | s_2 | s_3 | s_4 | s_5 | s_6 | ⟨s_1, s_2, s_3, s_4, s_5, s_6⟩
  · refine lv_tableIn (off := 39) (tgt := 40) hx hb dX10_count_1 (by rw [s_1]; decide) (by rw [s_1]; decide) (by rw [s_1]; rfl) (by decide) ?_
    refine lv_aload_n hx hb dX10_count_40 rfl (lv_at hl 0 rfl) ?_
    refine va_get (D := (dC, dI)) (ci := 10) (v := .ref ox10_3) (C := RX10) (T := TX10) (N := 16) hx hb hts inlX10 hown hK hP 0 rfl rfl 3 (by decide) (hts (.fieldLink RX10 29 "ShapeReader" "shapes" "LShapeReader$Shapes;") mw_20_20) (fun _ h9 => h9) rfl dX10_count_41 ?_
    refine va_get (D := (dC, dI)) (ci := 5) (v := .int xx5_3_0) (C := RX5) (T := TX5) (N := 17) hx hb hts inlX5 hown hK hP 1 rfl rfl 0 (by decide) (hts (.fieldLink RX10 137 "ShapeReader$Shapes" "planCount" "I") mw_23_2) (fun _ h9 => h9) rfl dX10_count_44 ?_
    have hP9 := hP.sub (ws' := [(h0, .inr (10, [.ref ax10_0, .int xx10_1, .ref ox10_2, .ref ox10_3, .ref ox10_4, .ref ox10_5, .ref ox10_6, .ref ox10_7, .ref ox10_8, .ref ox10_9, .ref ox10_10, .ref ox10_11, .ref ox10_12, .ref ox10_13, .ref ox10_14, .ref ox10_15])), (ox10_3, .inr (5, [.int xx5_3_0, .int xx5_3_1, .ref ax5_3_2, .ref ax5_3_3, .ref ax5_3_4, .ref ax5_3_5, .ref ax5_3_6, .ref ax5_3_7, .ref ax5_3_8, .ref ax5_3_9, .ref ax5_3_10, .ref ax5_3_11, .ref ax5_3_12, .ref ax5_3_13, .ref ax5_3_14, .ref ax5_3_15, .ref ax5_3_16])), (ox10_6, .inr (1, [.ref ax1_6_0, .ref ax1_6_1, .ref ax1_6_2])), (ax1_6_2, .inl (cx1_6_2, 4, .inl fx1_6_2)), (ox10_8, .inr (9, [.ref ax9_8_0, .int xx9_8_1, .int xx9_8_2, .int xx9_8_3])), (ox10_9, .inr (7, [.int (nI nx7_9), .int xx7_9_1, .ref ax7_9_2, .ref ax7_9_3, .ref ax7_9_4, .ref ax7_9_5, .ref ax7_9_6, .ref ax7_9_7, .ref ax7_9_8, .ref ax7_9_9, .ref ax7_9_10, .ref ax7_9_11, .ref ax7_9_12]))]) [0, 1, 2, 3, 4, 5] rfl
    have hD9 := hD.sub (ws' := [(h0, .inr (10, [.ref ax10_0, .int xx10_1, .ref ox10_2, .ref ox10_3, .ref ox10_4, .ref ox10_5, .ref ox10_6, .ref ox10_7, .ref ox10_8, .ref ox10_9, .ref ox10_10, .ref ox10_11, .ref ox10_12, .ref ox10_13, .ref ox10_14, .ref ox10_15])), (ox10_3, .inr (5, [.int xx5_3_0, .int xx5_3_1, .ref ax5_3_2, .ref ax5_3_3, .ref ax5_3_4, .ref ax5_3_5, .ref ax5_3_6, .ref ax5_3_7, .ref ax5_3_8, .ref ax5_3_9, .ref ax5_3_10, .ref ax5_3_11, .ref ax5_3_12, .ref ax5_3_13, .ref ax5_3_14, .ref ax5_3_15, .ref ax5_3_16])), (ox10_6, .inr (1, [.ref ax1_6_0, .ref ax1_6_1, .ref ax1_6_2])), (ax1_6_2, .inl (cx1_6_2, 4, .inl fx1_6_2)), (ox10_8, .inr (9, [.ref ax9_8_0, .int xx9_8_1, .int xx9_8_2, .int xx9_8_3])), (ox10_9, .inr (7, [.int (nI nx7_9), .int xx7_9_1, .ref ax7_9_2, .ref ax7_9_3, .ref ax7_9_4, .ref ax7_9_5, .ref ax7_9_6, .ref ax7_9_7, .ref ax7_9_8, .ref ax7_9_9, .ref ax7_9_10, .ref ax7_9_11, .ref ax7_9_12]))]) [0, 1, 2, 3, 4, 5] (by decide) rfl
    have hK9 := hK.sub (tys' := [(cx1_6_2, .int)]) [0] rfl
    refine W.widen (k := 0) (n := 0) (Nat.le_of_ble_eq_true rfl) (Nat.le_of_ble_eq_true rfl) ?_
    exact W.iret (v := xx5_3_0) hx hb hr (fun t ht hW => ⟨⟨xx5_3_0, (), rfl, trivial, by rw [ht]; exact hP9, va_K.moved hW.alike hK9, hD9⟩, hS.F ht⟩) hS.2.2 dX10_count_47
  · refine lv_tableIn (off := 47) (tgt := 48) hx hb dX10_count_1 (by rw [s_2]; decide) (by rw [s_2]; decide) (by rw [s_2]; rfl) (by decide) ?_
    refine lv_aload_n hx hb dX10_count_48 rfl (lv_at hl 0 rfl) ?_
    refine va_get (D := (dC, dI)) (ci := 10) (v := .ref ox10_6) (C := RX10) (T := TX10) (N := 16) hx hb hts inlX10 hown hK hP 0 rfl rfl 6 (by decide) (hts (.fieldLink RX10 48 "ShapeReader" "messages" "LShapeReader$Messages;") mw_21_1) (fun _ h9 => h9) rfl dX10_count_49 ?_
    have hPc := hP.sub (ws' := [(ox10_6, .inr (1, [.ref ax1_6_0, .ref ax1_6_1, .ref ax1_6_2])), (ax1_6_2, .inl (cx1_6_2, 4, .inl fx1_6_2))]) [2, 3] rfl
    have hDc := hD.sub (ws' := [(ox10_6, .inr (1, [.ref ax1_6_0, .ref ax1_6_1, .ref ax1_6_2])), (ax1_6_2, .inl (cx1_6_2, 4, .inl fx1_6_2))]) [2, 3] (by decide) rfl
    have hKc := hK.sub (tys' := [(cx1_6_2, .int)]) [0] rfl
    have hFc := va_free (wc := [(ox10_6, .inr (1, [.ref ax1_6_0, .ref ax1_6_1, .ref ax1_6_2])), (ax1_6_2, .inl (cx1_6_2, 4, .inl fx1_6_2))]) hD hS hA [2, 3] rfl
    refine va_calli (va_runV (As := []) (rest := []) ⟨hx, hb, hml, hown, hts⟩ (s_X1_writtenBits l dC dI ox10_6 ax1_6_0 ax1_6_1 ax1_6_2 cx1_6_2 fx1_6_2 s.heap.size) (cwV 0 hts (gV mw_26_1 mw_26_2 mw_26_3 mw_0_5 mw_47_8) rfl rfl rfl (by decide +kernel) ⟨(Nat.le_of_ble_eq_true rfl), (Nat.le_of_ble_eq_true rfl)⟩) (vV (ci := 1) (q0 := 0) hKc hPc hDc hN rfl rfl) rfl rfl hl.1 rfl (lv_room (Nat.le_of_ble_eq_true rfl)) dX10_count_52 ⟨(Nat.le_of_ble_eq_true rfl), (Nat.le_of_ble_eq_true rfl)⟩) hS (fun q _ h => hFc q h) hFc (fun r_7 u t H1 locs ht hvm hw hB hz1 hk1 hS => ?_)
    obtain ⟨hP1, hK1, hD1⟩ := hB
    rw [ht] at hP1
    have hK1 := va_K.moved hvm.symm hK1
    obtain ⟨hP, hD⟩ := va_join (wr := [(h0, .inr (10, [.ref ax10_0, .int xx10_1, .ref ox10_2, .ref ox10_3, .ref ox10_4, .ref ox10_5, .ref ox10_6, .ref ox10_7, .ref ox10_8, .ref ox10_9, .ref ox10_10, .ref ox10_11, .ref ox10_12, .ref ox10_13, .ref ox10_14, .ref ox10_15])), (ox10_3, .inr (5, [.int xx5_3_0, .int xx5_3_1, .ref ax5_3_2, .ref ax5_3_3, .ref ax5_3_4, .ref ax5_3_5, .ref ax5_3_6, .ref ax5_3_7, .ref ax5_3_8, .ref ax5_3_9, .ref ax5_3_10, .ref ax5_3_11, .ref ax5_3_12, .ref ax5_3_13, .ref ax5_3_14, .ref ax5_3_15, .ref ax5_3_16])), (ox10_8, .inr (9, [.ref ax9_8_0, .int xx9_8_1, .int xx9_8_2, .int xx9_8_3])), (ox10_9, .inr (7, [.int (nI nx7_9), .int xx7_9_1, .ref ax7_9_2, .ref ax7_9_3, .ref ax7_9_4, .ref ax7_9_5, .ref ax7_9_6, .ref ax7_9_7, .ref ax7_9_8, .ref ax7_9_9, .ref ax7_9_10, .ref ax7_9_11, .ref ax7_9_12]))]) (w1 := [(ox10_6, .inr (1, [.ref ax1_6_0, .ref ax1_6_1, .ref ax1_6_2])), (ax1_6_2, .inl (cx1_6_2, 4, .inl fx1_6_2))]) hP hD [2, 3] [0, 1, 4, 5] rfl rfl (by decide) (by decide) hk1 hFc hP1 hD1
    clear hPc hDc hKc hP1 hK1 hD1 hFc hk1 hz1
    generalize H1 = H at hP hS ⊢
    have hP : va_P (dC, dI) vwCl [(h0, .inr (10, [.ref ax10_0, .int xx10_1, .ref ox10_2, .ref ox10_3, .ref ox10_4, .ref ox10_5, .ref ox10_6, .ref ox10_7, .ref ox10_8, .ref ox10_9, .ref ox10_10, .ref ox10_11, .ref ox10_12, .ref ox10_13, .ref ox10_14, .ref ox10_15])), (ox10_3, .inr (5, [.int xx5_3_0, .int xx5_3_1, .ref ax5_3_2, .ref ax5_3_3, .ref ax5_3_4, .ref ax5_3_5, .ref ax5_3_6, .ref ax5_3_7, .ref ax5_3_8, .ref ax5_3_9, .ref ax5_3_10, .ref ax5_3_11, .ref ax5_3_12, .ref ax5_3_13, .ref ax5_3_14, .ref ax5_3_15, .ref ax5_3_16])), (ox10_8, .inr (9, [.ref ax9_8_0, .int xx9_8_1, .int xx9_8_2, .int xx9_8_3])), (ox10_9, .inr (7, [.int (nI nx7_9), .int xx7_9_1, .ref ax7_9_2, .ref ax7_9_3, .ref ax7_9_4, .ref ax7_9_5, .ref ax7_9_6, .ref ax7_9_7, .ref ax7_9_8, .ref ax7_9_9, .ref ax7_9_10, .ref ax7_9_11, .ref ax7_9_12])), (ox10_6, .inr (1, [.ref ax1_6_0, .ref ax1_6_1, .ref ax1_6_2])), (ax1_6_2, .inl (cx1_6_2, 4, .inl fx1_6_2))] H := hP
    have hD : va_D A [(h0, .inr (10, [.ref ax10_0, .int xx10_1, .ref ox10_2, .ref ox10_3, .ref ox10_4, .ref ox10_5, .ref ox10_6, .ref ox10_7, .ref ox10_8, .ref ox10_9, .ref ox10_10, .ref ox10_11, .ref ox10_12, .ref ox10_13, .ref ox10_14, .ref ox10_15])), (ox10_3, .inr (5, [.int xx5_3_0, .int xx5_3_1, .ref ax5_3_2, .ref ax5_3_3, .ref ax5_3_4, .ref ax5_3_5, .ref ax5_3_6, .ref ax5_3_7, .ref ax5_3_8, .ref ax5_3_9, .ref ax5_3_10, .ref ax5_3_11, .ref ax5_3_12, .ref ax5_3_13, .ref ax5_3_14, .ref ax5_3_15, .ref ax5_3_16])), (ox10_8, .inr (9, [.ref ax9_8_0, .int xx9_8_1, .int xx9_8_2, .int xx9_8_3])), (ox10_9, .inr (7, [.int (nI nx7_9), .int xx7_9_1, .ref ax7_9_2, .ref ax7_9_3, .ref ax7_9_4, .ref ax7_9_5, .ref ax7_9_6, .ref ax7_9_7, .ref ax7_9_8, .ref ax7_9_9, .ref ax7_9_10, .ref ax7_9_11, .ref ax7_9_12])), (ox10_6, .inr (1, [.ref ax1_6_0, .ref ax1_6_1, .ref ax1_6_2])), (ax1_6_2, .inl (cx1_6_2, 4, .inl fx1_6_2))] := hD
    have hr_7 := hw
    have hP9 := hP.sub (ws' := [(h0, .inr (10, [.ref ax10_0, .int xx10_1, .ref ox10_2, .ref ox10_3, .ref ox10_4, .ref ox10_5, .ref ox10_6, .ref ox10_7, .ref ox10_8, .ref ox10_9, .ref ox10_10, .ref ox10_11, .ref ox10_12, .ref ox10_13, .ref ox10_14, .ref ox10_15])), (ox10_3, .inr (5, [.int xx5_3_0, .int xx5_3_1, .ref ax5_3_2, .ref ax5_3_3, .ref ax5_3_4, .ref ax5_3_5, .ref ax5_3_6, .ref ax5_3_7, .ref ax5_3_8, .ref ax5_3_9, .ref ax5_3_10, .ref ax5_3_11, .ref ax5_3_12, .ref ax5_3_13, .ref ax5_3_14, .ref ax5_3_15, .ref ax5_3_16])), (ox10_6, .inr (1, [.ref ax1_6_0, .ref ax1_6_1, .ref ax1_6_2])), (ax1_6_2, .inl (cx1_6_2, 4, .inl fx1_6_2)), (ox10_8, .inr (9, [.ref ax9_8_0, .int xx9_8_1, .int xx9_8_2, .int xx9_8_3])), (ox10_9, .inr (7, [.int (nI nx7_9), .int xx7_9_1, .ref ax7_9_2, .ref ax7_9_3, .ref ax7_9_4, .ref ax7_9_5, .ref ax7_9_6, .ref ax7_9_7, .ref ax7_9_8, .ref ax7_9_9, .ref ax7_9_10, .ref ax7_9_11, .ref ax7_9_12]))]) [0, 1, 4, 5, 2, 3] rfl
    have hD9 := hD.sub (ws' := [(h0, .inr (10, [.ref ax10_0, .int xx10_1, .ref ox10_2, .ref ox10_3, .ref ox10_4, .ref ox10_5, .ref ox10_6, .ref ox10_7, .ref ox10_8, .ref ox10_9, .ref ox10_10, .ref ox10_11, .ref ox10_12, .ref ox10_13, .ref ox10_14, .ref ox10_15])), (ox10_3, .inr (5, [.int xx5_3_0, .int xx5_3_1, .ref ax5_3_2, .ref ax5_3_3, .ref ax5_3_4, .ref ax5_3_5, .ref ax5_3_6, .ref ax5_3_7, .ref ax5_3_8, .ref ax5_3_9, .ref ax5_3_10, .ref ax5_3_11, .ref ax5_3_12, .ref ax5_3_13, .ref ax5_3_14, .ref ax5_3_15, .ref ax5_3_16])), (ox10_6, .inr (1, [.ref ax1_6_0, .ref ax1_6_1, .ref ax1_6_2])), (ax1_6_2, .inl (cx1_6_2, 4, .inl fx1_6_2)), (ox10_8, .inr (9, [.ref ax9_8_0, .int xx9_8_1, .int xx9_8_2, .int xx9_8_3])), (ox10_9, .inr (7, [.int (nI nx7_9), .int xx7_9_1, .ref ax7_9_2, .ref ax7_9_3, .ref ax7_9_4, .ref ax7_9_5, .ref ax7_9_6, .ref ax7_9_7, .ref ax7_9_8, .ref ax7_9_9, .ref ax7_9_10, .ref ax7_9_11, .ref ax7_9_12]))]) [0, 1, 4, 5, 2, 3] (by decide) rfl
    have hK9 := hK.sub (tys' := [(cx1_6_2, .int)]) [0] rfl
    refine W.widen (k := 0) (n := 0) (Nat.le_of_ble_eq_true rfl) (Nat.le_of_ble_eq_true rfl) ?_
    exact W.iret (v := r_7) hx hb hr (fun t ht hW => ⟨⟨r_7, (), rfl, trivial, by rw [ht]; exact hP9, va_K.moved hW.alike hK9, hD9⟩, hS.F ht⟩) hS.2.2 dX10_count_55
  · refine lv_tableIn (off := 55) (tgt := 56) hx hb dX10_count_1 (by rw [s_3]; decide) (by rw [s_3]; decide) (by rw [s_3]; rfl) (by decide) ?_
    refine lv_aload_n hx hb dX10_count_56 rfl (lv_at hl 0 rfl) ?_
    refine va_get (D := (dC, dI)) (ci := 10) (v := .ref ox10_9) (C := RX10) (T := TX10) (N := 16) hx hb hts inlX10 hown hK hP 0 rfl rfl 9 (by decide) (hts (.fieldLink RX10 73 "ShapeReader" "shown" "LShapeReader$Tree;") mw_21_15) (fun _ h9 => h9) rfl dX10_count_57 ?_
    refine va_get (D := (dC, dI)) (ci := 7) (v := .int xx7_9_1) (C := RX7) (T := TX7) (N := 13) hx hb hts inlX7 hown hK hP 5 rfl rfl 1 (by decide) (hts (.fieldLink RX10 305 "ShapeReader$Tree" "size" "I") mw_26_4) (fun _ h9 => h9) rfl dX10_count_60 ?_
    have hP9 := hP.sub (ws' := [(h0, .inr (10, [.ref ax10_0, .int xx10_1, .ref ox10_2, .ref ox10_3, .ref ox10_4, .ref ox10_5, .ref ox10_6, .ref ox10_7, .ref ox10_8, .ref ox10_9, .ref ox10_10, .ref ox10_11, .ref ox10_12, .ref ox10_13, .ref ox10_14, .ref ox10_15])), (ox10_3, .inr (5, [.int xx5_3_0, .int xx5_3_1, .ref ax5_3_2, .ref ax5_3_3, .ref ax5_3_4, .ref ax5_3_5, .ref ax5_3_6, .ref ax5_3_7, .ref ax5_3_8, .ref ax5_3_9, .ref ax5_3_10, .ref ax5_3_11, .ref ax5_3_12, .ref ax5_3_13, .ref ax5_3_14, .ref ax5_3_15, .ref ax5_3_16])), (ox10_6, .inr (1, [.ref ax1_6_0, .ref ax1_6_1, .ref ax1_6_2])), (ax1_6_2, .inl (cx1_6_2, 4, .inl fx1_6_2)), (ox10_8, .inr (9, [.ref ax9_8_0, .int xx9_8_1, .int xx9_8_2, .int xx9_8_3])), (ox10_9, .inr (7, [.int (nI nx7_9), .int xx7_9_1, .ref ax7_9_2, .ref ax7_9_3, .ref ax7_9_4, .ref ax7_9_5, .ref ax7_9_6, .ref ax7_9_7, .ref ax7_9_8, .ref ax7_9_9, .ref ax7_9_10, .ref ax7_9_11, .ref ax7_9_12]))]) [0, 1, 2, 3, 4, 5] rfl
    have hD9 := hD.sub (ws' := [(h0, .inr (10, [.ref ax10_0, .int xx10_1, .ref ox10_2, .ref ox10_3, .ref ox10_4, .ref ox10_5, .ref ox10_6, .ref ox10_7, .ref ox10_8, .ref ox10_9, .ref ox10_10, .ref ox10_11, .ref ox10_12, .ref ox10_13, .ref ox10_14, .ref ox10_15])), (ox10_3, .inr (5, [.int xx5_3_0, .int xx5_3_1, .ref ax5_3_2, .ref ax5_3_3, .ref ax5_3_4, .ref ax5_3_5, .ref ax5_3_6, .ref ax5_3_7, .ref ax5_3_8, .ref ax5_3_9, .ref ax5_3_10, .ref ax5_3_11, .ref ax5_3_12, .ref ax5_3_13, .ref ax5_3_14, .ref ax5_3_15, .ref ax5_3_16])), (ox10_6, .inr (1, [.ref ax1_6_0, .ref ax1_6_1, .ref ax1_6_2])), (ax1_6_2, .inl (cx1_6_2, 4, .inl fx1_6_2)), (ox10_8, .inr (9, [.ref ax9_8_0, .int xx9_8_1, .int xx9_8_2, .int xx9_8_3])), (ox10_9, .inr (7, [.int (nI nx7_9), .int xx7_9_1, .ref ax7_9_2, .ref ax7_9_3, .ref ax7_9_4, .ref ax7_9_5, .ref ax7_9_6, .ref ax7_9_7, .ref ax7_9_8, .ref ax7_9_9, .ref ax7_9_10, .ref ax7_9_11, .ref ax7_9_12]))]) [0, 1, 2, 3, 4, 5] (by decide) rfl
    have hK9 := hK.sub (tys' := [(cx1_6_2, .int)]) [0] rfl
    refine W.widen (k := 0) (n := 0) (Nat.le_of_ble_eq_true rfl) (Nat.le_of_ble_eq_true rfl) ?_
    exact W.iret (v := xx7_9_1) hx hb hr (fun t ht hW => ⟨⟨xx7_9_1, (), rfl, trivial, by rw [ht]; exact hP9, va_K.moved hW.alike hK9, hD9⟩, hS.F ht⟩) hS.2.2 dX10_count_63
  · refine lv_tableIn (off := 63) (tgt := 64) hx hb dX10_count_1 (by rw [s_4]; decide) (by rw [s_4]; decide) (by rw [s_4]; rfl) (by decide) ?_
    refine lv_aload_n hx hb dX10_count_64 rfl (lv_at hl 0 rfl) ?_
    refine va_get (D := (dC, dI)) (ci := 10) (v := .ref ox10_8) (C := RX10) (T := TX10) (N := 16) hx hb hts inlX10 hown hK hP 0 rfl rfl 8 (by decide) (hts (.fieldLink RX10 64 "ShapeReader" "ways" "LShapeReader$Ways;") mw_21_10) (fun _ h9 => h9) rfl dX10_count_65 ?_
    refine va_get (D := (dC, dI)) (ci := 9) (v := .int xx9_8_2) (C := RX9) (T := TX9) (N := 4) hx hb hts inlX9 hown hK hP 4 rfl rfl 2 (by decide) (hts (.fieldLink RX10 306 "ShapeReader$Ways" "found" "I") mw_26_5) (fun _ h9 => h9) rfl dX10_count_68 ?_
    have hP9 := hP.sub (ws' := [(h0, .inr (10, [.ref ax10_0, .int xx10_1, .ref ox10_2, .ref ox10_3, .ref ox10_4, .ref ox10_5, .ref ox10_6, .ref ox10_7, .ref ox10_8, .ref ox10_9, .ref ox10_10, .ref ox10_11, .ref ox10_12, .ref ox10_13, .ref ox10_14, .ref ox10_15])), (ox10_3, .inr (5, [.int xx5_3_0, .int xx5_3_1, .ref ax5_3_2, .ref ax5_3_3, .ref ax5_3_4, .ref ax5_3_5, .ref ax5_3_6, .ref ax5_3_7, .ref ax5_3_8, .ref ax5_3_9, .ref ax5_3_10, .ref ax5_3_11, .ref ax5_3_12, .ref ax5_3_13, .ref ax5_3_14, .ref ax5_3_15, .ref ax5_3_16])), (ox10_6, .inr (1, [.ref ax1_6_0, .ref ax1_6_1, .ref ax1_6_2])), (ax1_6_2, .inl (cx1_6_2, 4, .inl fx1_6_2)), (ox10_8, .inr (9, [.ref ax9_8_0, .int xx9_8_1, .int xx9_8_2, .int xx9_8_3])), (ox10_9, .inr (7, [.int (nI nx7_9), .int xx7_9_1, .ref ax7_9_2, .ref ax7_9_3, .ref ax7_9_4, .ref ax7_9_5, .ref ax7_9_6, .ref ax7_9_7, .ref ax7_9_8, .ref ax7_9_9, .ref ax7_9_10, .ref ax7_9_11, .ref ax7_9_12]))]) [0, 1, 2, 3, 4, 5] rfl
    have hD9 := hD.sub (ws' := [(h0, .inr (10, [.ref ax10_0, .int xx10_1, .ref ox10_2, .ref ox10_3, .ref ox10_4, .ref ox10_5, .ref ox10_6, .ref ox10_7, .ref ox10_8, .ref ox10_9, .ref ox10_10, .ref ox10_11, .ref ox10_12, .ref ox10_13, .ref ox10_14, .ref ox10_15])), (ox10_3, .inr (5, [.int xx5_3_0, .int xx5_3_1, .ref ax5_3_2, .ref ax5_3_3, .ref ax5_3_4, .ref ax5_3_5, .ref ax5_3_6, .ref ax5_3_7, .ref ax5_3_8, .ref ax5_3_9, .ref ax5_3_10, .ref ax5_3_11, .ref ax5_3_12, .ref ax5_3_13, .ref ax5_3_14, .ref ax5_3_15, .ref ax5_3_16])), (ox10_6, .inr (1, [.ref ax1_6_0, .ref ax1_6_1, .ref ax1_6_2])), (ax1_6_2, .inl (cx1_6_2, 4, .inl fx1_6_2)), (ox10_8, .inr (9, [.ref ax9_8_0, .int xx9_8_1, .int xx9_8_2, .int xx9_8_3])), (ox10_9, .inr (7, [.int (nI nx7_9), .int xx7_9_1, .ref ax7_9_2, .ref ax7_9_3, .ref ax7_9_4, .ref ax7_9_5, .ref ax7_9_6, .ref ax7_9_7, .ref ax7_9_8, .ref ax7_9_9, .ref ax7_9_10, .ref ax7_9_11, .ref ax7_9_12]))]) [0, 1, 2, 3, 4, 5] (by decide) rfl
    have hK9 := hK.sub (tys' := [(cx1_6_2, .int)]) [0] rfl
    refine W.widen (k := 0) (n := 0) (Nat.le_of_ble_eq_true rfl) (Nat.le_of_ble_eq_true rfl) ?_
    exact W.iret (v := xx9_8_2) hx hb hr (fun t ht hW => ⟨⟨xx9_8_2, (), rfl, trivial, by rw [ht]; exact hP9, va_K.moved hW.alike hK9, hD9⟩, hS.F ht⟩) hS.2.2 dX10_count_71
  · refine lv_tableIn (off := 71) (tgt := 72) hx hb dX10_count_1 (by rw [s_5]; decide) (by rw [s_5]; decide) (by rw [s_5]; rfl) (by decide) ?_
    refine lv_aload_n hx hb dX10_count_72 rfl (lv_at hl 0 rfl) ?_
    refine va_get (D := (dC, dI)) (ci := 10) (v := .ref ox10_8) (C := RX10) (T := TX10) (N := 16) hx hb hts inlX10 hown hK hP 0 rfl rfl 8 (by decide) (hts (.fieldLink RX10 64 "ShapeReader" "ways" "LShapeReader$Ways;") mw_21_10) (fun _ h9 => h9) rfl dX10_count_73 ?_
    refine va_get (D := (dC, dI)) (ci := 9) (v := .int xx9_8_3) (C := RX9) (T := TX9) (N := 4) hx hb hts inlX9 hown hK hP 4 rfl rfl 3 (by decide) (hts (.fieldLink RX10 309 "ShapeReader$Ways" "notFound" "I") mw_26_6) (fun _ h9 => h9) rfl dX10_count_76 ?_
    have hP9 := hP.sub (ws' := [(h0, .inr (10, [.ref ax10_0, .int xx10_1, .ref ox10_2, .ref ox10_3, .ref ox10_4, .ref ox10_5, .ref ox10_6, .ref ox10_7, .ref ox10_8, .ref ox10_9, .ref ox10_10, .ref ox10_11, .ref ox10_12, .ref ox10_13, .ref ox10_14, .ref ox10_15])), (ox10_3, .inr (5, [.int xx5_3_0, .int xx5_3_1, .ref ax5_3_2, .ref ax5_3_3, .ref ax5_3_4, .ref ax5_3_5, .ref ax5_3_6, .ref ax5_3_7, .ref ax5_3_8, .ref ax5_3_9, .ref ax5_3_10, .ref ax5_3_11, .ref ax5_3_12, .ref ax5_3_13, .ref ax5_3_14, .ref ax5_3_15, .ref ax5_3_16])), (ox10_6, .inr (1, [.ref ax1_6_0, .ref ax1_6_1, .ref ax1_6_2])), (ax1_6_2, .inl (cx1_6_2, 4, .inl fx1_6_2)), (ox10_8, .inr (9, [.ref ax9_8_0, .int xx9_8_1, .int xx9_8_2, .int xx9_8_3])), (ox10_9, .inr (7, [.int (nI nx7_9), .int xx7_9_1, .ref ax7_9_2, .ref ax7_9_3, .ref ax7_9_4, .ref ax7_9_5, .ref ax7_9_6, .ref ax7_9_7, .ref ax7_9_8, .ref ax7_9_9, .ref ax7_9_10, .ref ax7_9_11, .ref ax7_9_12]))]) [0, 1, 2, 3, 4, 5] rfl
    have hD9 := hD.sub (ws' := [(h0, .inr (10, [.ref ax10_0, .int xx10_1, .ref ox10_2, .ref ox10_3, .ref ox10_4, .ref ox10_5, .ref ox10_6, .ref ox10_7, .ref ox10_8, .ref ox10_9, .ref ox10_10, .ref ox10_11, .ref ox10_12, .ref ox10_13, .ref ox10_14, .ref ox10_15])), (ox10_3, .inr (5, [.int xx5_3_0, .int xx5_3_1, .ref ax5_3_2, .ref ax5_3_3, .ref ax5_3_4, .ref ax5_3_5, .ref ax5_3_6, .ref ax5_3_7, .ref ax5_3_8, .ref ax5_3_9, .ref ax5_3_10, .ref ax5_3_11, .ref ax5_3_12, .ref ax5_3_13, .ref ax5_3_14, .ref ax5_3_15, .ref ax5_3_16])), (ox10_6, .inr (1, [.ref ax1_6_0, .ref ax1_6_1, .ref ax1_6_2])), (ax1_6_2, .inl (cx1_6_2, 4, .inl fx1_6_2)), (ox10_8, .inr (9, [.ref ax9_8_0, .int xx9_8_1, .int xx9_8_2, .int xx9_8_3])), (ox10_9, .inr (7, [.int (nI nx7_9), .int xx7_9_1, .ref ax7_9_2, .ref ax7_9_3, .ref ax7_9_4, .ref ax7_9_5, .ref ax7_9_6, .ref ax7_9_7, .ref ax7_9_8, .ref ax7_9_9, .ref ax7_9_10, .ref ax7_9_11, .ref ax7_9_12]))]) [0, 1, 2, 3, 4, 5] (by decide) rfl
    have hK9 := hK.sub (tys' := [(cx1_6_2, .int)]) [0] rfl
    refine W.widen (k := 0) (n := 0) (Nat.le_of_ble_eq_true rfl) (Nat.le_of_ble_eq_true rfl) ?_
    exact W.iret (v := xx9_8_3) hx hb hr (fun t ht hW => ⟨⟨xx9_8_3, (), rfl, trivial, by rw [ht]; exact hP9, va_K.moved hW.alike hK9, hD9⟩, hS.F ht⟩) hS.2.2 dX10_count_79
  · refine lv_tableIn (off := 79) (tgt := 80) hx hb dX10_count_1 (by rw [s_6]; decide) (by rw [s_6]; decide) (by rw [s_6]; rfl) (by decide) ?_
    refine lv_aload_n hx hb dX10_count_80 rfl (lv_at hl 0 rfl) ?_
    refine va_get (D := (dC, dI)) (ci := 10) (v := .int xx10_1) (C := RX10) (T := TX10) (N := 16) hx hb hts inlX10 hown hK hP 0 rfl rfl 1 (by decide) (hts (.fieldLink RX10 13 "ShapeReader" "tapeSize" "I") mw_20_11) (fun _ h9 => h9) rfl dX10_count_81 ?_
    have hP9 := hP.sub (ws' := [(h0, .inr (10, [.ref ax10_0, .int xx10_1, .ref ox10_2, .ref ox10_3, .ref ox10_4, .ref ox10_5, .ref ox10_6, .ref ox10_7, .ref ox10_8, .ref ox10_9, .ref ox10_10, .ref ox10_11, .ref ox10_12, .ref ox10_13, .ref ox10_14, .ref ox10_15])), (ox10_3, .inr (5, [.int xx5_3_0, .int xx5_3_1, .ref ax5_3_2, .ref ax5_3_3, .ref ax5_3_4, .ref ax5_3_5, .ref ax5_3_6, .ref ax5_3_7, .ref ax5_3_8, .ref ax5_3_9, .ref ax5_3_10, .ref ax5_3_11, .ref ax5_3_12, .ref ax5_3_13, .ref ax5_3_14, .ref ax5_3_15, .ref ax5_3_16])), (ox10_6, .inr (1, [.ref ax1_6_0, .ref ax1_6_1, .ref ax1_6_2])), (ax1_6_2, .inl (cx1_6_2, 4, .inl fx1_6_2)), (ox10_8, .inr (9, [.ref ax9_8_0, .int xx9_8_1, .int xx9_8_2, .int xx9_8_3])), (ox10_9, .inr (7, [.int (nI nx7_9), .int xx7_9_1, .ref ax7_9_2, .ref ax7_9_3, .ref ax7_9_4, .ref ax7_9_5, .ref ax7_9_6, .ref ax7_9_7, .ref ax7_9_8, .ref ax7_9_9, .ref ax7_9_10, .ref ax7_9_11, .ref ax7_9_12]))]) [0, 1, 2, 3, 4, 5] rfl
    have hD9 := hD.sub (ws' := [(h0, .inr (10, [.ref ax10_0, .int xx10_1, .ref ox10_2, .ref ox10_3, .ref ox10_4, .ref ox10_5, .ref ox10_6, .ref ox10_7, .ref ox10_8, .ref ox10_9, .ref ox10_10, .ref ox10_11, .ref ox10_12, .ref ox10_13, .ref ox10_14, .ref ox10_15])), (ox10_3, .inr (5, [.int xx5_3_0, .int xx5_3_1, .ref ax5_3_2, .ref ax5_3_3, .ref ax5_3_4, .ref ax5_3_5, .ref ax5_3_6, .ref ax5_3_7, .ref ax5_3_8, .ref ax5_3_9, .ref ax5_3_10, .ref ax5_3_11, .ref ax5_3_12, .ref ax5_3_13, .ref ax5_3_14, .ref ax5_3_15, .ref ax5_3_16])), (ox10_6, .inr (1, [.ref ax1_6_0, .ref ax1_6_1, .ref ax1_6_2])), (ax1_6_2, .inl (cx1_6_2, 4, .inl fx1_6_2)), (ox10_8, .inr (9, [.ref ax9_8_0, .int xx9_8_1, .int xx9_8_2, .int xx9_8_3])), (ox10_9, .inr (7, [.int (nI nx7_9), .int xx7_9_1, .ref ax7_9_2, .ref ax7_9_3, .ref ax7_9_4, .ref ax7_9_5, .ref ax7_9_6, .ref ax7_9_7, .ref ax7_9_8, .ref ax7_9_9, .ref ax7_9_10, .ref ax7_9_11, .ref ax7_9_12]))]) [0, 1, 2, 3, 4, 5] (by decide) rfl
    have hK9 := hK.sub (tys' := [(cx1_6_2, .int)]) [0] rfl
    refine W.widen (k := 0) (n := 0) (Nat.le_of_ble_eq_true rfl) (Nat.le_of_ble_eq_true rfl) ?_
    exact W.iret (v := xx10_1) hx hb hr (fun t ht hW => ⟨⟨xx10_1, (), rfl, trivial, by rw [ht]; exact hP9, va_K.moved hW.alike hK9, hD9⟩, hS.F ht⟩) hS.2.2 dX10_count_84
  · refine lv_tableOut (tgt := 85) hx hb dX10_count_1 (by have a0 := il_ne s_1; have e0 : (0 : Int32).toInt = 0 := (by decide); have a1 := il_ne s_2; have e1 : (1 : Int32).toInt = 1 := (by decide); have a2 := il_ne s_3; have e2 : (2 : Int32).toInt = 2 := (by decide); have a3 := il_ne s_4; have e3 : (3 : Int32).toInt = 3 := (by decide); have a4 := il_ne s_5; have e4 : (4 : Int32).toInt = 4 := (by decide); have a5 := il_ne s_6; have e5 : (5 : Int32).toInt = 5 := (by decide); omega) (by decide) ?_
    refine lv_iconst (v := (-1)) hx hb dX10_count_85 (by decide) ?_
    have hP9 := hP.sub (ws' := [(h0, .inr (10, [.ref ax10_0, .int xx10_1, .ref ox10_2, .ref ox10_3, .ref ox10_4, .ref ox10_5, .ref ox10_6, .ref ox10_7, .ref ox10_8, .ref ox10_9, .ref ox10_10, .ref ox10_11, .ref ox10_12, .ref ox10_13, .ref ox10_14, .ref ox10_15])), (ox10_3, .inr (5, [.int xx5_3_0, .int xx5_3_1, .ref ax5_3_2, .ref ax5_3_3, .ref ax5_3_4, .ref ax5_3_5, .ref ax5_3_6, .ref ax5_3_7, .ref ax5_3_8, .ref ax5_3_9, .ref ax5_3_10, .ref ax5_3_11, .ref ax5_3_12, .ref ax5_3_13, .ref ax5_3_14, .ref ax5_3_15, .ref ax5_3_16])), (ox10_6, .inr (1, [.ref ax1_6_0, .ref ax1_6_1, .ref ax1_6_2])), (ax1_6_2, .inl (cx1_6_2, 4, .inl fx1_6_2)), (ox10_8, .inr (9, [.ref ax9_8_0, .int xx9_8_1, .int xx9_8_2, .int xx9_8_3])), (ox10_9, .inr (7, [.int (nI nx7_9), .int xx7_9_1, .ref ax7_9_2, .ref ax7_9_3, .ref ax7_9_4, .ref ax7_9_5, .ref ax7_9_6, .ref ax7_9_7, .ref ax7_9_8, .ref ax7_9_9, .ref ax7_9_10, .ref ax7_9_11, .ref ax7_9_12]))]) [0, 1, 2, 3, 4, 5] rfl
    have hD9 := hD.sub (ws' := [(h0, .inr (10, [.ref ax10_0, .int xx10_1, .ref ox10_2, .ref ox10_3, .ref ox10_4, .ref ox10_5, .ref ox10_6, .ref ox10_7, .ref ox10_8, .ref ox10_9, .ref ox10_10, .ref ox10_11, .ref ox10_12, .ref ox10_13, .ref ox10_14, .ref ox10_15])), (ox10_3, .inr (5, [.int xx5_3_0, .int xx5_3_1, .ref ax5_3_2, .ref ax5_3_3, .ref ax5_3_4, .ref ax5_3_5, .ref ax5_3_6, .ref ax5_3_7, .ref ax5_3_8, .ref ax5_3_9, .ref ax5_3_10, .ref ax5_3_11, .ref ax5_3_12, .ref ax5_3_13, .ref ax5_3_14, .ref ax5_3_15, .ref ax5_3_16])), (ox10_6, .inr (1, [.ref ax1_6_0, .ref ax1_6_1, .ref ax1_6_2])), (ax1_6_2, .inl (cx1_6_2, 4, .inl fx1_6_2)), (ox10_8, .inr (9, [.ref ax9_8_0, .int xx9_8_1, .int xx9_8_2, .int xx9_8_3])), (ox10_9, .inr (7, [.int (nI nx7_9), .int xx7_9_1, .ref ax7_9_2, .ref ax7_9_3, .ref ax7_9_4, .ref ax7_9_5, .ref ax7_9_6, .ref ax7_9_7, .ref ax7_9_8, .ref ax7_9_9, .ref ax7_9_10, .ref ax7_9_11, .ref ax7_9_12]))]) [0, 1, 2, 3, 4, 5] (by decide) rfl
    have hK9 := hK.sub (tys' := [(cx1_6_2, .int)]) [0] rfl
    refine W.widen (k := 0) (n := 0) (Nat.le_of_ble_eq_true rfl) (Nat.le_of_ble_eq_true rfl) ?_
    exact W.iret (v := (-1)) hx hb hr (fun t ht hW => ⟨⟨(-1), (), rfl, trivial, by rw [ht]; exact hP9, va_K.moved hW.alike hK9, hD9⟩, hS.F ht⟩) hS.2.2 dX10_count_86

set_option maxRecDepth 100000 in
set_option maxHeartbeats 4000000 in
theorem s_X10_letterOf (l : Launch) (dC : Nat → ClassId) (dI : Nat → Nat → Nat) (p0 : Int64) (p1 : Int32) (sz : Nat) : Met l yX10_letterOf (.code yX10_letterOf cX10_letterOf 3 (some .int) :: pw) ({ frames := 0, cells := 0, slots := 0, locals := 0 }) (va_Pc [.long p0, .int p1] (vPre dC dI [] [] sz)) (va_Qi (fun (r : Int32) (_ : Unit) => True) (fun (_ : Unit) t => vPst dC dI (va_A [] sz) [] [] t) (va_A [] sz)) 0 0 (va_A [] sz) := by
  refine Met.ofW (cc := cX10_letterOf) (maxL := 3) (ret := (some .int)) (by decide) rfl ?_
  intro p e s m args below meth c s₁ B hml hv
  obtain ⟨rfl, hsz, hP, hK, hD0, hN⟩ := hv
  have hx := B.exec
  have hb := B.bytes
  have hr := B.returns
  have hts := atoms_spec (ws := .code yX10_letterOf cX10_letterOf 3 (some .int) :: pw) B.pre
  have hts : ∀ w ∈ pw, w.before _ s = true := fun w h => hts w (List.mem_cons_of_mem _ h)
  have hown : s.vm.findClass RX10 = some m.cls := findClass_of_methodNamed B.named
  have hlocks := B.notSynchronized
  subst hsz
  have hD := hD0.self (sz := s.heap.size)
  generalize hAe : va_A [] s.heap.size = A at hD ⊢
  have hA : ∀ q : Nat, s.heap.size ≤ q → A q := fun q h => by rw [← hAe]; exact Or.inr h
  have hS : va_S A s.heap s.heap [] := va_S.rf
  have hP : va_P (dC, dI) vwCl [] s.heap := hP
  have hl := lv_entry ([.long p0, .int p1]) (n := 3) (Nat.le_of_ble_eq_true rfl)
  rw [lg_entry_eq]
  generalize (lg_sl ([.long p0, .int p1]) ++ List.replicate (3 - (lg_sl ([.long p0, .int p1])).length) Slot.unset).toArray = ls at hl ⊢
  have hl : lv_has ls 3 [(0, .long p0), (2, .int p1)] := hl
  refine lv_iload_n hx hb dX10_letterOf_0 rfl (lv_at hl 1 rfl) ?_
  refine lv_if_lt (tgt := 10) hx hb dX10_letterOf_1 (by decide) (fun c_1 => ?_) (fun c_1 => ?_)
  · refine lv_iconst (v := 0) hx hb dX10_letterOf_10 (by decide) ?_
    refine lv_goto (tgt := 23) hx hb dX10_letterOf_11 (by decide) ?_
    have hP9 := hP.sub (ws' := []) [] rfl
    have hD9 := hD.sub (ws' := []) [] (by decide) rfl
    have hK9 := hK.sub (tys' := []) [] rfl
    refine W.widen (k := 0) (n := 0) (Nat.le_of_ble_eq_true rfl) (Nat.le_of_ble_eq_true rfl) ?_
    exact W.iret (v := 0) hx hb hr (fun t ht hW => ⟨⟨0, (), rfl, trivial, by rw [ht]; exact hP9, va_K.moved hW.alike hK9, hD9⟩, hS.F ht⟩) hS.2.2 dX10_letterOf_23
  · refine lv_iload_n hx hb dX10_letterOf_4 rfl (lv_at hl 1 rfl) ?_
    refine lv_bipush (v := 12) hx hb dX10_letterOf_5 (by decide) ?_
    refine lv_icmp_lt (tgt := 14) hx hb dX10_letterOf_7 (by decide) (fun c_2 => ?_) (fun c_2 => ?_)
    · refine lv_lload_n hx hb dX10_letterOf_14 rfl (lv_at hl 0 rfl) ?_
      refine lv_iconst (v := 5) hx hb dX10_letterOf_15 (by decide) ?_
      refine lv_iload_n hx hb dX10_letterOf_16 rfl (lv_at hl 1 rfl) ?_
      refine lv_imul hx hb dX10_letterOf_17 ?_
      refine lv_topi (fun x_3 ex_3 => ?_)
      have bx_3 : (0 : Int) ≤ x_3.toInt ∧ x_3.toInt ≤ (55 : Int) := by have r1 := il_rng p1; have a0 := il_nlt c_1; have a1 := il_lt c_2; have e0 : (0 : Int32).toInt = 0 := (by decide); have e1 : (5 : Int32).toInt = 5 := (by decide); have e2 : (12 : Int32).toInt = 12 := (by decide); rw [ex_3]; have m9 := il_mulE (x := 5) (y := p1) (by rw [e1]; omega) (by rw [e1]; omega); rw [m9, e1]; omega
      refine lv_lshr (v := _) hx hb dX10_letterOf_18 rfl ?_
      refine lv_topl (fun x_4 ex_4 => ?_)
      refine lv_l2i (v := _) hx hb dX10_letterOf_19 rfl ?_
      refine lv_topi (fun x_5 ex_5 => ?_)
      refine lv_bipush (v := 31) hx hb dX10_letterOf_20 (by decide) ?_
      refine lv_iand hx hb dX10_letterOf_22 ?_
      refine lv_topi (fun x_6 ex_6 => ?_)
      have hP9 := hP.sub (ws' := []) [] rfl
      have hD9 := hD.sub (ws' := []) [] (by decide) rfl
      have hK9 := hK.sub (tys' := []) [] rfl
      refine W.widen (k := 0) (n := 0) (Nat.le_of_ble_eq_true rfl) (Nat.le_of_ble_eq_true rfl) ?_
      exact W.iret (v := x_6) hx hb hr (fun t ht hW => ⟨⟨x_6, (), rfl, trivial, by rw [ht]; exact hP9, va_K.moved hW.alike hK9, hD9⟩, hS.F ht⟩) hS.2.2 dX10_letterOf_23
    · refine lv_iconst (v := 0) hx hb dX10_letterOf_10 (by decide) ?_
      refine lv_goto (tgt := 23) hx hb dX10_letterOf_11 (by decide) ?_
      have hP9 := hP.sub (ws' := []) [] rfl
      have hD9 := hD.sub (ws' := []) [] (by decide) rfl
      have hK9 := hK.sub (tys' := []) [] rfl
      refine W.widen (k := 0) (n := 0) (Nat.le_of_ble_eq_true rfl) (Nat.le_of_ble_eq_true rfl) ?_
      exact W.iret (v := 0) hx hb hr (fun t ht hW => ⟨⟨0, (), rfl, trivial, by rw [ht]; exact hP9, va_K.moved hW.alike hK9, hD9⟩, hS.F ht⟩) hS.2.2 dX10_letterOf_23

set_option maxRecDepth 100000 in
set_option maxHeartbeats 4000000 in
theorem s_X10_lettersIn_L {p : Program} {e : Env} {s : State} {m : MethodId} {below : List Frame} {meth : Method} {c : Code} (l : Launch) (dC : Nat → ClassId) (dI : Nat → Nat → Nat) (p0 : Int64) (A : Nat → Prop) (hx : p.tables.exec = Jvm.exec) (hb : c.code = cX10_lettersIn) (hr : meth.sig.returnType = (some .int)) (hml : c.maxLocals = 3) (hown : s.vm.findClass RX10 = some m.cls) (hts : ∀ w ∈ pw, w.before (([.long p0] : List Value).toArray) s = true) (hlocks : meth.locks = false) (hA : ∀ q : Nat, s.heap.size ≤ q → A q) (hN : nN s) (hK : va_K (dC, dI) vwCl [] s) : ∀ (n : Nat) (v2 : Int32) (H : Heap) (locs : List Loc) (ls : Array Slot), (12 - v2.toInt).toNat < n → 0 ≤ v2.toInt ∧ v2.toInt ≤ 12 → va_P (dC, dI) vwCl [] H → va_D A [] → va_S A s.heap H locs → lv_has ls 3 [(2, .int v2), (0, .long p0)] → W p l e ({ frames := 1, cells := 0, slots := 0, locals := 22 } : Room) s m (([.long p0] : List Value).toArray) below meth c H locs 0 0 (MQ below (va_Qi (fun (r : Int32) (_ : Unit) => True) (fun (_ : Unit) t => vPst dC dI A [] [] t) A) (([.long p0] : List Value).toArray) s 0 0 A) (F0 m 2 ls []) := by
  intro n
  induction n with
  | zero =>
    intro v2 H locs ls hn
    exact absurd hn (Nat.not_lt_zero _)
  | succ n ih =>
    intro v2 H locs ls hn hb_2 hP hD hS hl
    refine lv_iload_n hx hb dX10_lettersIn_2 rfl (lv_at hl 0 rfl) ?_
    refine lv_bipush (v := 12) hx hb dX10_lettersIn_3 (by decide) ?_
    refine lv_icmp_ge (tgt := 22) hx hb dX10_lettersIn_5 (by decide) (fun c_101 => ?_) (fun c_101 => ?_)
    · refine lv_iload_n hx hb dX10_lettersIn_22 rfl (lv_at hl 0 rfl) ?_
      have hP9 := hP.sub (ws' := []) [] rfl
      have hD9 := hD.sub (ws' := []) [] (by decide) rfl
      have hK9 := hK.sub (tys' := []) [] rfl
      refine W.widen (k := 0) (n := 0) (Nat.le_of_ble_eq_true rfl) (Nat.le_of_ble_eq_true rfl) ?_
      exact W.iret (v := v2) hx hb hr (fun t ht hW => ⟨⟨v2, (), rfl, trivial, by rw [ht]; exact hP9, va_K.moved hW.alike hK9, hD9⟩, hS.F ht⟩) hS.2.2 dX10_lettersIn_23
    · refine lv_lload_n hx hb dX10_lettersIn_8 rfl (lv_at hl 1 rfl) ?_
      refine lv_iload_n hx hb dX10_lettersIn_9 rfl (lv_at hl 0 rfl) ?_
      have hPc := hP.sub (ws' := []) [] rfl
      have hDc := hD.sub (ws' := []) [] (by decide) rfl
      have hKc := hK.sub (tys' := []) [] rfl
      have hFc := va_free (wc := []) hD hS hA [] rfl
      refine va_calli (va_runS (As := [.long p0, .int v2]) (rest := []) ⟨hx, hb, hml, hown, hts⟩ (s_X10_letterOf l dC dI p0 v2 H.size) (va_cwS 2 hts (gS mw_25_25 mw_6_22 mw_0_14 mw_52_18) rfl rfl rfl (by decide +kernel) ⟨(Nat.le_of_ble_eq_true rfl), (Nat.le_of_ble_eq_true rfl)⟩) (vS hKc hPc hDc hN) rfl rfl hl.1 rfl (lv_room (Nat.le_of_ble_eq_true rfl)) dX10_lettersIn_10 ⟨(Nat.le_of_ble_eq_true rfl), (Nat.le_of_ble_eq_true rfl)⟩) hS (fun q _ h => hFc q h) hFc (fun r_102 u t H1 locs ht hvm hw hB hz1 hk1 hS => ?_)
      obtain ⟨hP1, hK1, hD1⟩ := hB
      rw [ht] at hP1
      have hK1 := va_K.moved hvm.symm hK1
      obtain ⟨hP, hD⟩ := va_join (wr := []) (w1 := []) hP hD [] [] rfl rfl (by decide) (by decide) hk1 hFc hP1 hD1
      clear hPc hDc hKc hP1 hK1 hD1 hFc hk1 hz1
      generalize H1 = H at hP hS ⊢
      have hP : va_P (dC, dI) vwCl [] H := hP
      have hD : va_D A [] := hD
      have hr_102 := hw
      refine lv_if_eq (tgt := 22) hx hb dX10_lettersIn_13 (by decide) (fun c_103 => ?_) (fun c_103 => ?_)
      · refine lv_iload_n hx hb dX10_lettersIn_22 rfl (lv_at hl 0 rfl) ?_
        have hP9 := hP.sub (ws' := []) [] rfl
        have hD9 := hD.sub (ws' := []) [] (by decide) rfl
        have hK9 := hK.sub (tys' := []) [] rfl
        refine W.widen (k := 0) (n := 0) (Nat.le_of_ble_eq_true rfl) (Nat.le_of_ble_eq_true rfl) ?_
        exact W.iret (v := v2) hx hb hr (fun t ht hW => ⟨⟨v2, (), rfl, trivial, by rw [ht]; exact hP9, va_K.moved hW.alike hK9, hD9⟩, hS.F ht⟩) hS.2.2 dX10_lettersIn_23
      · obtain ⟨x_104, ex_104⟩ : ∃ y : Int32, y = v2 + Int32.ofInt 1 := ⟨_, rfl⟩
        have bx_104 : (1 : Int) ≤ x_104.toInt ∧ x_104.toInt ≤ (12 : Int) := by have r0 := il_rng v2; have a0 := hb_2.1; have a1 := hb_2.2; have a2 := il_nle c_101; have e0 : (12 : Int32).toInt = 12 := (by decide); have k9 : (Int32.ofInt 1).toInt = (1 : Int) := (by decide); rw [ex_104, il_addE (by rw [k9]; omega) (by rw [k9]; omega), k9]; omega
        refine lv_iinc (v := x_104) (lv' := [(2, .int x_104), (0, .long p0)]) hx hb dX10_lettersIn_16 hl (k := 0) rfl ex_104.symm (by decide) rfl (fun ls hl => ?_)
        refine lv_goto (tgt := 2) hx hb dX10_lettersIn_19 (by decide) ?_
        exact ih x_104 _ _ _ (by have a0 := bx_104.1; have a1 := bx_104.2; have a2 := hb_2.1; have a3 := hb_2.2; have a4 := il_nle c_101; have e0 : (12 : Int32).toInt = 12 := (by decide); have r8 := il_rng v2; have m9 : x_104.toInt = v2.toInt + (1) := (by rw [ex_104]; have k9 : (Int32.ofInt (1)).toInt = (1) := (by decide); rw [il_addE (by rw [k9]; omega) (by rw [k9]; omega), k9]); omega) (by have a0 := bx_104.1; have a1 := bx_104.2; omega) (hP.sub [] rfl) (hD.sub [] (by decide) rfl) hS (lv_sub hl [0, 1] rfl)
set_option maxRecDepth 100000 in
set_option maxHeartbeats 4000000 in
theorem s_X10_lettersIn (l : Launch) (dC : Nat → ClassId) (dI : Nat → Nat → Nat) (p0 : Int64) (sz : Nat) : Met l yX10_lettersIn (.code yX10_lettersIn cX10_lettersIn 3 (some .int) :: pw) ({ frames := 1, cells := 0, slots := 0, locals := 22 }) (va_Pc [.long p0] (vPre dC dI [] [] sz)) (va_Qi (fun (r : Int32) (_ : Unit) => True) (fun (_ : Unit) t => vPst dC dI (va_A [] sz) [] [] t) (va_A [] sz)) 0 0 (va_A [] sz) := by
  refine Met.ofW (cc := cX10_lettersIn) (maxL := 3) (ret := (some .int)) (by decide) rfl ?_
  intro p e s m args below meth c s₁ B hml hv
  obtain ⟨rfl, hsz, hP, hK, hD0, hN⟩ := hv
  have hx := B.exec
  have hb := B.bytes
  have hr := B.returns
  have hts := atoms_spec (ws := .code yX10_lettersIn cX10_lettersIn 3 (some .int) :: pw) B.pre
  have hts : ∀ w ∈ pw, w.before _ s = true := fun w h => hts w (List.mem_cons_of_mem _ h)
  have hown : s.vm.findClass RX10 = some m.cls := findClass_of_methodNamed B.named
  have hlocks := B.notSynchronized
  subst hsz
  have hD := hD0.self (sz := s.heap.size)
  generalize hAe : va_A [] s.heap.size = A at hD ⊢
  have hA : ∀ q : Nat, s.heap.size ≤ q → A q := fun q h => by rw [← hAe]; exact Or.inr h
  have hS : va_S A s.heap s.heap [] := va_S.rf
  have hP : va_P (dC, dI) vwCl [] s.heap := hP
  have hl := lv_entry ([.long p0]) (n := 3) (Nat.le_of_ble_eq_true rfl)
  rw [lg_entry_eq]
  generalize (lg_sl ([.long p0]) ++ List.replicate (3 - (lg_sl ([.long p0])).length) Slot.unset).toArray = ls at hl ⊢
  have hl : lv_has ls 3 [(0, .long p0)] := hl
  refine lv_iconst (v := 0) hx hb dX10_lettersIn_0 (by decide) ?_
  refine lv_istore_n (lv' := [(2, .int 0), (0, .long p0)]) hx hb dX10_lettersIn_1 rfl hl (by decide) rfl (fun ls hl => ?_)
  exact s_X10_lettersIn_L l dC dI p0 A hx hb hr hml hown hts hlocks hA hN (hK.sub [] rfl) _ (0 : Int32) _ _ _ (Nat.lt_succ_self _) ⟨by decide, by decide⟩ (hP.sub [] rfl) (hD.sub [] (by decide) rfl) hS (lv_sub hl [0, 1] rfl)

set_option maxRecDepth 100000 in
set_option maxHeartbeats 4000000 in
theorem s_X10_isInt (l : Launch) (dC : Nat → ClassId) (dI : Nat → Nat → Nat) (p0 : Int64) (sz : Nat) : Met l yX10_isInt (.code yX10_isInt cX10_isInt 2 (some .boolean) :: pw) ({ frames := 0, cells := 0, slots := 0, locals := 0 }) (va_Pc [.long p0] (vPre dC dI [] [] sz)) (va_Qi (fun (r : Int32) (_ : Unit) => (r = 0) ∨ (r = 1)) (fun (_ : Unit) t => vPst dC dI (va_A [] sz) [] [] t) (va_A [] sz)) 0 0 (va_A [] sz) := by
  refine Met.ofW (cc := cX10_isInt) (maxL := 2) (ret := (some .boolean)) (by decide) rfl ?_
  intro p e s m args below meth c s₁ B hml hv
  obtain ⟨rfl, hsz, hP, hK, hD0, hN⟩ := hv
  have hx := B.exec
  have hb := B.bytes
  have hr := B.returns
  have hts := atoms_spec (ws := .code yX10_isInt cX10_isInt 2 (some .boolean) :: pw) B.pre
  have hts : ∀ w ∈ pw, w.before _ s = true := fun w h => hts w (List.mem_cons_of_mem _ h)
  have hown : s.vm.findClass RX10 = some m.cls := findClass_of_methodNamed B.named
  have hlocks := B.notSynchronized
  subst hsz
  have hD := hD0.self (sz := s.heap.size)
  generalize hAe : va_A [] s.heap.size = A at hD ⊢
  have hA : ∀ q : Nat, s.heap.size ≤ q → A q := fun q h => by rw [← hAe]; exact Or.inr h
  have hS : va_S A s.heap s.heap [] := va_S.rf
  have hP : va_P (dC, dI) vwCl [] s.heap := hP
  have hl := lv_entry ([.long p0]) (n := 2) (Nat.le_of_ble_eq_true rfl)
  rw [lg_entry_eq]
  generalize (lg_sl ([.long p0]) ++ List.replicate (2 - (lg_sl ([.long p0])).length) Slot.unset).toArray = ls at hl ⊢
  have hl : lv_has ls 2 [(0, .long p0)] := hl
  refine lv_lload_n hx hb dX10_isInt_0 rfl (lv_at hl 0 rfl) ?_
  refine lv_ldc2 (v := (-2147483648)) hx hb hown (hts (.constantLong RX10 330 (-2147483648)) mw_26_10) dX10_isInt_1 ?_
  refine W.lcmp hx hb dX10_isInt_4 ?_
  refine lv_topi (fun x_1 ex_1 => ?_)
  refine lv_if_lt (tgt := 20) hx hb dX10_isInt_5 (by decide) (fun c_2 => ?_) (fun c_2 => ?_)
  · refine lv_iconst (v := 0) hx hb dX10_isInt_20 (by decide) ?_
    have hP9 := hP.sub (ws' := []) [] rfl
    have hD9 := hD.sub (ws' := []) [] (by decide) rfl
    have hK9 := hK.sub (tys' := []) [] rfl
    refine W.widen (k := 0) (n := 0) (Nat.le_of_ble_eq_true rfl) (Nat.le_of_ble_eq_true rfl) ?_
    exact W.zret (v := 0) hx hb hr rfl (fun t ht hW => ⟨⟨0, (), rfl, Or.inl (rfl), by rw [ht]; exact hP9, va_K.moved hW.alike hK9, hD9⟩, hS.F ht⟩) hS.2.2 dX10_isInt_21
  · refine lv_lload_n hx hb dX10_isInt_8 rfl (lv_at hl 0 rfl) ?_
    refine lv_ldc2 (v := 2147483647) hx hb hown (hts (.constantLong RX10 332 (2147483647)) mw_26_11) dX10_isInt_9 ?_
    refine W.lcmp hx hb dX10_isInt_12 ?_
    refine lv_topi (fun x_3 ex_3 => ?_)
    refine lv_if_gt (tgt := 20) hx hb dX10_isInt_13 (by decide) (fun c_4 => ?_) (fun c_4 => ?_)
    · refine lv_iconst (v := 0) hx hb dX10_isInt_20 (by decide) ?_
      have hP9 := hP.sub (ws' := []) [] rfl
      have hD9 := hD.sub (ws' := []) [] (by decide) rfl
      have hK9 := hK.sub (tys' := []) [] rfl
      refine W.widen (k := 0) (n := 0) (Nat.le_of_ble_eq_true rfl) (Nat.le_of_ble_eq_true rfl) ?_
      exact W.zret (v := 0) hx hb hr rfl (fun t ht hW => ⟨⟨0, (), rfl, Or.inl (rfl), by rw [ht]; exact hP9, va_K.moved hW.alike hK9, hD9⟩, hS.F ht⟩) hS.2.2 dX10_isInt_21
    · refine lv_iconst (v := 1) hx hb dX10_isInt_16 (by decide) ?_
      refine lv_goto (tgt := 21) hx hb dX10_isInt_17 (by decide) ?_
      have hP9 := hP.sub (ws' := []) [] rfl
      have hD9 := hD.sub (ws' := []) [] (by decide) rfl
      have hK9 := hK.sub (tys' := []) [] rfl
      refine W.widen (k := 0) (n := 0) (Nat.le_of_ble_eq_true rfl) (Nat.le_of_ble_eq_true rfl) ?_
      exact W.zret (v := 1) hx hb hr rfl (fun t ht hW => ⟨⟨1, (), rfl, Or.inr (rfl), by rw [ht]; exact hP9, va_K.moved hW.alike hK9, hD9⟩, hS.F ht⟩) hS.2.2 dX10_isInt_21

set_option maxRecDepth 100000 in
set_option maxHeartbeats 4000000 in
theorem s_X5_addPlan (l : Launch) (dC : Nat → ClassId) (dI : Nat → Nat → Nat) (h0 : Nat) (xx5_0 : Int32) (xx5_1 : Int32) (ax5_2 : Nat) (cx5_2 : ClassId) (fx5_2 : Nat → Int32) (ax5_3 : Nat) (cx5_3 : ClassId) (fx5_3 : Nat → Int32) (ax5_4 : Nat) (ax5_5 : Nat) (ax5_6 : Nat) (ax5_7 : Nat) (ax5_8 : Nat) (ax5_9 : Nat) (ax5_10 : Nat) (ax5_11 : Nat) (ax5_12 : Nat) (cx5_12 : ClassId) (fx5_12 : Nat → Int32) (ax5_13 : Nat) (cx5_13 : ClassId) (fx5_13 : Nat → Int32) (ax5_14 : Nat) (cx5_14 : ClassId) (fx5_14 : Nat → Int32) (ax5_15 : Nat) (cx5_15 : ClassId) (fx5_15 : Nat → Int64) (ax5_16 : Nat) (cx5_16 : ClassId) (fx5_16 : Nat → Int32) (p0 : Int32) (hi_xx5_0 : (0 : Int) ≤ xx5_0.toInt ∧ xx5_0.toInt ≤ (6 : Int)) (hi_xx5_1 : (0 : Int) ≤ xx5_1.toInt ∧ xx5_1.toInt ≤ (262 : Int)) (sz : Nat) : Met l yX5_addPlan (.code yX5_addPlan cX5_addPlan 2 none :: pw) ({ frames := 2, cells := 0, slots := 0, locals := 43 }) (va_Pc [.ref h0, .int p0] (vPre dC dI [(h0, .inr (5, [.int xx5_0, .int xx5_1, .ref ax5_2, .ref ax5_3, .ref ax5_4, .ref ax5_5, .ref ax5_6, .ref ax5_7, .ref ax5_8, .ref ax5_9, .ref ax5_10, .ref ax5_11, .ref ax5_12, .ref ax5_13, .ref ax5_14, .ref ax5_15, .ref ax5_16])), (ax5_2, .inl (cx5_2, 6, .inl fx5_2)), (ax5_3, .inl (cx5_3, 6, .inl fx5_3)), (ax5_12, .inl (cx5_12, 262, .inl fx5_12)), (ax5_13, .inl (cx5_13, 262, .inl fx5_13)), (ax5_14, .inl (cx5_14, 262, .inl fx5_14)), (ax5_15, .inl (cx5_15, 262, .inr (.inl fx5_15))), (ax5_16, .inl (cx5_16, 262, .inl fx5_16))] [(cx5_2, .int), (cx5_3, .int), (cx5_12, .int), (cx5_13, .int), (cx5_14, .int), (cx5_15, .long), (cx5_16, .int)] sz)) (va_Qv (fun (_ : Unit) => True) (fun (_ : Unit) t => ∃ (y0_0 : Int32), ((0 : Int) ≤ y0_0.toInt ∧ y0_0.toInt ≤ 6) ∧ ∃ (y0_1 : Int32), ((0 : Int) ≤ y0_1.toInt ∧ y0_1.toInt ≤ 262) ∧ ∃ (z1 : Nat → Int32), ∃ (z2 : Nat → Int32), ∃ (z3 : Nat → Int32), ∃ (z4 : Nat → Int32), ∃ (z5 : Nat → Int32), ∃ (z6 : Nat → Int64), ∃ (z7 : Nat → Int32), vPst dC dI (va_A [(h0, .inr (5, [.int xx5_0, .int xx5_1, .ref ax5_2, .ref ax5_3, .ref ax5_4, .ref ax5_5, .ref ax5_6, .ref ax5_7, .ref ax5_8, .ref ax5_9, .ref ax5_10, .ref ax5_11, .ref ax5_12, .ref ax5_13, .ref ax5_14, .ref ax5_15, .ref ax5_16])), (ax5_2, .inl (cx5_2, 6, .inl fx5_2)), (ax5_3, .inl (cx5_3, 6, .inl fx5_3)), (ax5_12, .inl (cx5_12, 262, .inl fx5_12)), (ax5_13, .inl (cx5_13, 262, .inl fx5_13)), (ax5_14, .inl (cx5_14, 262, .inl fx5_14)), (ax5_15, .inl (cx5_15, 262, .inr (.inl fx5_15))), (ax5_16, .inl (cx5_16, 262, .inl fx5_16))] sz) [(h0, .inr (5, [.int y0_0, .int y0_1, .ref ax5_2, .ref ax5_3, .ref ax5_4, .ref ax5_5, .ref ax5_6, .ref ax5_7, .ref ax5_8, .ref ax5_9, .ref ax5_10, .ref ax5_11, .ref ax5_12, .ref ax5_13, .ref ax5_14, .ref ax5_15, .ref ax5_16])), (ax5_2, .inl (cx5_2, 6, .inl z1)), (ax5_3, .inl (cx5_3, 6, .inl z2)), (ax5_12, .inl (cx5_12, 262, .inl z3)), (ax5_13, .inl (cx5_13, 262, .inl z4)), (ax5_14, .inl (cx5_14, 262, .inl z5)), (ax5_15, .inl (cx5_15, 262, .inr (.inl z6))), (ax5_16, .inl (cx5_16, 262, .inl z7))] [(cx5_2, .int), (cx5_3, .int), (cx5_12, .int), (cx5_13, .int), (cx5_14, .int), (cx5_15, .long), (cx5_16, .int)] t) (va_A [(h0, .inr (5, [.int xx5_0, .int xx5_1, .ref ax5_2, .ref ax5_3, .ref ax5_4, .ref ax5_5, .ref ax5_6, .ref ax5_7, .ref ax5_8, .ref ax5_9, .ref ax5_10, .ref ax5_11, .ref ax5_12, .ref ax5_13, .ref ax5_14, .ref ax5_15, .ref ax5_16])), (ax5_2, .inl (cx5_2, 6, .inl fx5_2)), (ax5_3, .inl (cx5_3, 6, .inl fx5_3)), (ax5_12, .inl (cx5_12, 262, .inl fx5_12)), (ax5_13, .inl (cx5_13, 262, .inl fx5_13)), (ax5_14, .inl (cx5_14, 262, .inl fx5_14)), (ax5_15, .inl (cx5_15, 262, .inr (.inl fx5_15))), (ax5_16, .inl (cx5_16, 262, .inl fx5_16))] sz)) 0 0 (va_A [(h0, .inr (5, [.int xx5_0, .int xx5_1, .ref ax5_2, .ref ax5_3, .ref ax5_4, .ref ax5_5, .ref ax5_6, .ref ax5_7, .ref ax5_8, .ref ax5_9, .ref ax5_10, .ref ax5_11, .ref ax5_12, .ref ax5_13, .ref ax5_14, .ref ax5_15, .ref ax5_16])), (ax5_2, .inl (cx5_2, 6, .inl fx5_2)), (ax5_3, .inl (cx5_3, 6, .inl fx5_3)), (ax5_12, .inl (cx5_12, 262, .inl fx5_12)), (ax5_13, .inl (cx5_13, 262, .inl fx5_13)), (ax5_14, .inl (cx5_14, 262, .inl fx5_14)), (ax5_15, .inl (cx5_15, 262, .inr (.inl fx5_15))), (ax5_16, .inl (cx5_16, 262, .inl fx5_16))] sz) := by
  refine Met.ofW (cc := cX5_addPlan) (maxL := 2) (ret := none) (by decide) rfl ?_
  intro p e s m args below meth c s₁ B hml hv
  obtain ⟨rfl, hsz, hP, hK, hD0, hN⟩ := hv
  have hx := B.exec
  have hb := B.bytes
  have hr := B.returns
  have hts := atoms_spec (ws := .code yX5_addPlan cX5_addPlan 2 none :: pw) B.pre
  have hts : ∀ w ∈ pw, w.before _ s = true := fun w h => hts w (List.mem_cons_of_mem _ h)
  have hown : s.vm.findClass RX5 = some m.cls := findClass_of_methodNamed B.named
  have hlocks := B.notSynchronized
  subst hsz
  have hD := hD0.self (sz := s.heap.size)
  generalize hAe : va_A [(h0, .inr (5, [.int xx5_0, .int xx5_1, .ref ax5_2, .ref ax5_3, .ref ax5_4, .ref ax5_5, .ref ax5_6, .ref ax5_7, .ref ax5_8, .ref ax5_9, .ref ax5_10, .ref ax5_11, .ref ax5_12, .ref ax5_13, .ref ax5_14, .ref ax5_15, .ref ax5_16])), (ax5_2, .inl (cx5_2, 6, .inl fx5_2)), (ax5_3, .inl (cx5_3, 6, .inl fx5_3)), (ax5_12, .inl (cx5_12, 262, .inl fx5_12)), (ax5_13, .inl (cx5_13, 262, .inl fx5_13)), (ax5_14, .inl (cx5_14, 262, .inl fx5_14)), (ax5_15, .inl (cx5_15, 262, .inr (.inl fx5_15))), (ax5_16, .inl (cx5_16, 262, .inl fx5_16))] s.heap.size = A at hD ⊢
  have hA : ∀ q : Nat, s.heap.size ≤ q → A q := fun q h => by rw [← hAe]; exact Or.inr h
  have hS : va_S A s.heap s.heap [] := va_S.rf
  have hP : va_P (dC, dI) vwCl [(h0, .inr (5, [.int xx5_0, .int xx5_1, .ref ax5_2, .ref ax5_3, .ref ax5_4, .ref ax5_5, .ref ax5_6, .ref ax5_7, .ref ax5_8, .ref ax5_9, .ref ax5_10, .ref ax5_11, .ref ax5_12, .ref ax5_13, .ref ax5_14, .ref ax5_15, .ref ax5_16])), (ax5_2, .inl (cx5_2, 6, .inl fx5_2)), (ax5_3, .inl (cx5_3, 6, .inl fx5_3)), (ax5_12, .inl (cx5_12, 262, .inl fx5_12)), (ax5_13, .inl (cx5_13, 262, .inl fx5_13)), (ax5_14, .inl (cx5_14, 262, .inl fx5_14)), (ax5_15, .inl (cx5_15, 262, .inr (.inl fx5_15))), (ax5_16, .inl (cx5_16, 262, .inl fx5_16))] s.heap := hP
  have hl := lv_entry ([.ref h0, .int p0]) (n := 2) (Nat.le_of_ble_eq_true rfl)
  rw [lg_entry_eq]
  generalize (lg_sl ([.ref h0, .int p0]) ++ List.replicate (2 - (lg_sl ([.ref h0, .int p0])).length) Slot.unset).toArray = ls at hl ⊢
  have hl : lv_has ls 2 [(0, .ref h0), (1, .int p0)] := hl
  refine lv_iload_n hx hb dX5_addPlan_0 rfl (lv_at hl 1 rfl) ?_
  refine lv_if_lt (tgt := 10) hx hb dX5_addPlan_1 (by decide) (fun c_1 => ?_) (fun c_1 => ?_)
  · have hP9 := hP.sub (ws' := [(h0, .inr (5, [.int xx5_0, .int xx5_1, .ref ax5_2, .ref ax5_3, .ref ax5_4, .ref ax5_5, .ref ax5_6, .ref ax5_7, .ref ax5_8, .ref ax5_9, .ref ax5_10, .ref ax5_11, .ref ax5_12, .ref ax5_13, .ref ax5_14, .ref ax5_15, .ref ax5_16])), (ax5_2, .inl (cx5_2, 6, .inl fx5_2)), (ax5_3, .inl (cx5_3, 6, .inl fx5_3)), (ax5_12, .inl (cx5_12, 262, .inl fx5_12)), (ax5_13, .inl (cx5_13, 262, .inl fx5_13)), (ax5_14, .inl (cx5_14, 262, .inl fx5_14)), (ax5_15, .inl (cx5_15, 262, .inr (.inl fx5_15))), (ax5_16, .inl (cx5_16, 262, .inl fx5_16))]) [0, 1, 2, 3, 4, 5, 6, 7] rfl
    have hD9 := hD.sub (ws' := [(h0, .inr (5, [.int xx5_0, .int xx5_1, .ref ax5_2, .ref ax5_3, .ref ax5_4, .ref ax5_5, .ref ax5_6, .ref ax5_7, .ref ax5_8, .ref ax5_9, .ref ax5_10, .ref ax5_11, .ref ax5_12, .ref ax5_13, .ref ax5_14, .ref ax5_15, .ref ax5_16])), (ax5_2, .inl (cx5_2, 6, .inl fx5_2)), (ax5_3, .inl (cx5_3, 6, .inl fx5_3)), (ax5_12, .inl (cx5_12, 262, .inl fx5_12)), (ax5_13, .inl (cx5_13, 262, .inl fx5_13)), (ax5_14, .inl (cx5_14, 262, .inl fx5_14)), (ax5_15, .inl (cx5_15, 262, .inr (.inl fx5_15))), (ax5_16, .inl (cx5_16, 262, .inl fx5_16))]) [0, 1, 2, 3, 4, 5, 6, 7] (by decide) rfl
    have hK9 := hK.sub (tys' := [(cx5_2, .int), (cx5_3, .int), (cx5_12, .int), (cx5_13, .int), (cx5_14, .int), (cx5_15, .long), (cx5_16, .int)]) [0, 1, 2, 3, 4, 5, 6] rfl
    refine W.widen (k := 0) (n := 0) (Nat.le_of_ble_eq_true rfl) (Nat.le_of_ble_eq_true rfl) ?_
    exact W.vret hx hb hr (fun t ht hW => ⟨⟨(), rfl, trivial, xx5_0, (by have a0 := hi_xx5_0.1; have a1 := hi_xx5_0.2; omega), xx5_1, (by have a0 := hi_xx5_1.1; have a1 := hi_xx5_1.2; omega), fx5_2, fx5_3, fx5_12, fx5_13, fx5_14, fx5_15, fx5_16, by rw [ht]; exact hP9, va_K.moved hW.alike hK9, hD9⟩, hS.F ht⟩) hS.2.2 dX5_addPlan_10
  · refine lv_iload_n hx hb dX5_addPlan_4 rfl (lv_at hl 1 rfl) ?_
    refine lv_bipush (v := 6) hx hb dX5_addPlan_5 (by decide) ?_
    refine lv_icmp_lt (tgt := 11) hx hb dX5_addPlan_7 (by decide) (fun c_2 => ?_) (fun c_2 => ?_)
    · refine lv_aload_n hx hb dX5_addPlan_11 rfl (lv_at hl 0 rfl) ?_
      refine va_get (D := (dC, dI)) (ci := 5) (v := .ref ax5_2) (C := RX5) (T := TX5) (N := 17) hx hb hts inlX5 hown hK hP 0 rfl rfl 2 (by decide) (hts (.fieldLink RX5 18 "ShapeReader$Shapes" "recordCounts" "[I") mw_14_14) (fun _ h9 => h9) rfl dX5_addPlan_12 ?_
      refine lv_iload_n hx hb dX5_addPlan_15 rfl (lv_at hl 1 rfl) ?_
      refine lv_iconst (v := 0) hx hb dX5_addPlan_16 (by decide) ?_
      refine va_iast hx hb hK hP hD hS 1 0 rfl rfl (vp_in_iff.mpr (by have a0 := il_nlt c_1; have a1 := il_lt c_2; have e0 : (0 : Int32).toInt = 0 := (by decide); have e1 : (6 : Int32).toInt = 6 := (by decide); omega)) dX5_addPlan_17 (fun H locs hP hD hS => ?_)
      obtain ⟨f_3, hP, hD⟩ : ∃ f_3 : Nat → Int32, va_P (dC, dI) vwCl [(h0, .inr (5, [.int xx5_0, .int xx5_1, .ref ax5_2, .ref ax5_3, .ref ax5_4, .ref ax5_5, .ref ax5_6, .ref ax5_7, .ref ax5_8, .ref ax5_9, .ref ax5_10, .ref ax5_11, .ref ax5_12, .ref ax5_13, .ref ax5_14, .ref ax5_15, .ref ax5_16])), (ax5_2, .inl (cx5_2, 6, .inl f_3)), (ax5_3, .inl (cx5_3, 6, .inl fx5_3)), (ax5_12, .inl (cx5_12, 262, .inl fx5_12)), (ax5_13, .inl (cx5_13, 262, .inl fx5_13)), (ax5_14, .inl (cx5_14, 262, .inl fx5_14)), (ax5_15, .inl (cx5_15, 262, .inr (.inl fx5_15))), (ax5_16, .inl (cx5_16, 262, .inl fx5_16))] H ∧ va_D A [(h0, .inr (5, [.int xx5_0, .int xx5_1, .ref ax5_2, .ref ax5_3, .ref ax5_4, .ref ax5_5, .ref ax5_6, .ref ax5_7, .ref ax5_8, .ref ax5_9, .ref ax5_10, .ref ax5_11, .ref ax5_12, .ref ax5_13, .ref ax5_14, .ref ax5_15, .ref ax5_16])), (ax5_2, .inl (cx5_2, 6, .inl f_3)), (ax5_3, .inl (cx5_3, 6, .inl fx5_3)), (ax5_12, .inl (cx5_12, 262, .inl fx5_12)), (ax5_13, .inl (cx5_13, 262, .inl fx5_13)), (ax5_14, .inl (cx5_14, 262, .inl fx5_14)), (ax5_15, .inl (cx5_15, 262, .inr (.inl fx5_15))), (ax5_16, .inl (cx5_16, 262, .inl fx5_16))] := ⟨_, hP, hD⟩
      refine lv_aload_n hx hb dX5_addPlan_18 rfl (lv_at hl 0 rfl) ?_
      refine va_get (D := (dC, dI)) (ci := 5) (v := .ref ax5_3) (C := RX5) (T := TX5) (N := 17) hx hb hts inlX5 hown hK hP 0 rfl rfl 3 (by decide) (hts (.fieldLink RX5 22 "ShapeReader$Shapes" "rootTypes" "[I") mw_14_15) (fun _ h9 => h9) rfl dX5_addPlan_19 ?_
      refine lv_iload_n hx hb dX5_addPlan_22 rfl (lv_at hl 1 rfl) ?_
      refine lv_aload_n hx hb dX5_addPlan_23 rfl (lv_at hl 0 rfl) ?_
      refine lv_bipush (v := 7) hx hb dX5_addPlan_24 (by decide) ?_
      have hPc := hP.sub (ws' := [(h0, .inr (5, [.int xx5_0, .int xx5_1, .ref ax5_2, .ref ax5_3, .ref ax5_4, .ref ax5_5, .ref ax5_6, .ref ax5_7, .ref ax5_8, .ref ax5_9, .ref ax5_10, .ref ax5_11, .ref ax5_12, .ref ax5_13, .ref ax5_14, .ref ax5_15, .ref ax5_16])), (ax5_12, .inl (cx5_12, 262, .inl fx5_12)), (ax5_13, .inl (cx5_13, 262, .inl fx5_13)), (ax5_14, .inl (cx5_14, 262, .inl fx5_14)), (ax5_15, .inl (cx5_15, 262, .inr (.inl fx5_15))), (ax5_16, .inl (cx5_16, 262, .inl fx5_16))]) [0, 3, 4, 5, 6, 7] rfl
      have hDc := hD.sub (ws' := [(h0, .inr (5, [.int xx5_0, .int xx5_1, .ref ax5_2, .ref ax5_3, .ref ax5_4, .ref ax5_5, .ref ax5_6, .ref ax5_7, .ref ax5_8, .ref ax5_9, .ref ax5_10, .ref ax5_11, .ref ax5_12, .ref ax5_13, .ref ax5_14, .ref ax5_15, .ref ax5_16])), (ax5_12, .inl (cx5_12, 262, .inl fx5_12)), (ax5_13, .inl (cx5_13, 262, .inl fx5_13)), (ax5_14, .inl (cx5_14, 262, .inl fx5_14)), (ax5_15, .inl (cx5_15, 262, .inr (.inl fx5_15))), (ax5_16, .inl (cx5_16, 262, .inl fx5_16))]) [0, 3, 4, 5, 6, 7] (by decide) rfl
      have hKc := hK.sub (tys' := [(cx5_12, .int), (cx5_13, .int), (cx5_14, .int), (cx5_15, .long), (cx5_16, .int)]) [2, 3, 4, 5, 6] rfl
      have hFc := va_free (wc := [(h0, .inr (5, [.int xx5_0, .int xx5_1, .ref ax5_2, .ref ax5_3, .ref ax5_4, .ref ax5_5, .ref ax5_6, .ref ax5_7, .ref ax5_8, .ref ax5_9, .ref ax5_10, .ref ax5_11, .ref ax5_12, .ref ax5_13, .ref ax5_14, .ref ax5_15, .ref ax5_16])), (ax5_12, .inl (cx5_12, 262, .inl fx5_12)), (ax5_13, .inl (cx5_13, 262, .inl fx5_13)), (ax5_14, .inl (cx5_14, 262, .inl fx5_14)), (ax5_15, .inl (cx5_15, 262, .inr (.inl fx5_15))), (ax5_16, .inl (cx5_16, 262, .inl fx5_16))]) hD hS hA [0, 3, 4, 5, 6, 7] rfl
      refine va_calli (va_runV (As := [.int 7]) (rest := [.int p0, .ref ax5_3]) ⟨hx, hb, hml, hown, hts⟩ (s_X5_addType l dC dI h0 xx5_0 xx5_1 ax5_2 ax5_3 ax5_4 ax5_5 ax5_6 ax5_7 ax5_8 ax5_9 ax5_10 ax5_11 ax5_12 cx5_12 fx5_12 ax5_13 cx5_13 fx5_13 ax5_14 cx5_14 fx5_14 ax5_15 cx5_15 fx5_15 ax5_16 cx5_16 fx5_16 7 (by have a0 := hi_xx5_0.1; have a1 := hi_xx5_0.2; omega) (by have a0 := hi_xx5_1.1; have a1 := hi_xx5_1.2; omega) H.size) (cwV 1 hts (gV mw_15_17 mw_9_8 mw_9_9 mw_0_9 mw_49_16) rfl rfl rfl (by decide +kernel) ⟨(Nat.le_of_ble_eq_true rfl), (Nat.le_of_ble_eq_true rfl)⟩) (vV (ci := 5) (q0 := 0) hKc hPc hDc hN rfl rfl) rfl rfl hl.1 rfl (lv_room (Nat.le_of_ble_eq_true rfl)) dX5_addPlan_26 ⟨(Nat.le_of_ble_eq_true rfl), (Nat.le_of_ble_eq_true rfl)⟩) hS (fun q _ h => hFc q h) hFc (fun r_4 u t H1 locs ht hvm hw hB hz1 hk1 hS => ?_)
      obtain ⟨y0_1_5, hq_y0_1_5, z1_6, z2_7, z3_8, z4_9, z5_10, hP1, hK1, hD1⟩ := hB
      rw [ht] at hP1
      have hK1 := va_K.moved hvm.symm hK1
      obtain ⟨hP, hD⟩ := va_join (wr := [(ax5_2, .inl (cx5_2, 6, .inl f_3)), (ax5_3, .inl (cx5_3, 6, .inl fx5_3))]) (w1 := [(h0, .inr (5, [.int xx5_0, .int y0_1_5, .ref ax5_2, .ref ax5_3, .ref ax5_4, .ref ax5_5, .ref ax5_6, .ref ax5_7, .ref ax5_8, .ref ax5_9, .ref ax5_10, .ref ax5_11, .ref ax5_12, .ref ax5_13, .ref ax5_14, .ref ax5_15, .ref ax5_16])), (ax5_12, .inl (cx5_12, 262, .inl z1_6)), (ax5_13, .inl (cx5_13, 262, .inl z2_7)), (ax5_14, .inl (cx5_14, 262, .inl z3_8)), (ax5_15, .inl (cx5_15, 262, .inr (.inl z4_9))), (ax5_16, .inl (cx5_16, 262, .inl z5_10))]) hP hD [0, 3, 4, 5, 6, 7] [1, 2] rfl rfl (by decide) (by decide) hk1 hFc hP1 hD1
      clear hPc hDc hKc hP1 hK1 hD1 hFc hk1 hz1
      generalize H1 = H at hP hS ⊢
      have hP : va_P (dC, dI) vwCl [(ax5_2, .inl (cx5_2, 6, .inl f_3)), (ax5_3, .inl (cx5_3, 6, .inl fx5_3)), (h0, .inr (5, [.int xx5_0, .int y0_1_5, .ref ax5_2, .ref ax5_3, .ref ax5_4, .ref ax5_5, .ref ax5_6, .ref ax5_7, .ref ax5_8, .ref ax5_9, .ref ax5_10, .ref ax5_11, .ref ax5_12, .ref ax5_13, .ref ax5_14, .ref ax5_15, .ref ax5_16])), (ax5_12, .inl (cx5_12, 262, .inl z1_6)), (ax5_13, .inl (cx5_13, 262, .inl z2_7)), (ax5_14, .inl (cx5_14, 262, .inl z3_8)), (ax5_15, .inl (cx5_15, 262, .inr (.inl z4_9))), (ax5_16, .inl (cx5_16, 262, .inl z5_10))] H := hP
      have hD : va_D A [(ax5_2, .inl (cx5_2, 6, .inl f_3)), (ax5_3, .inl (cx5_3, 6, .inl fx5_3)), (h0, .inr (5, [.int xx5_0, .int y0_1_5, .ref ax5_2, .ref ax5_3, .ref ax5_4, .ref ax5_5, .ref ax5_6, .ref ax5_7, .ref ax5_8, .ref ax5_9, .ref ax5_10, .ref ax5_11, .ref ax5_12, .ref ax5_13, .ref ax5_14, .ref ax5_15, .ref ax5_16])), (ax5_12, .inl (cx5_12, 262, .inl z1_6)), (ax5_13, .inl (cx5_13, 262, .inl z2_7)), (ax5_14, .inl (cx5_14, 262, .inl z3_8)), (ax5_15, .inl (cx5_15, 262, .inr (.inl z4_9))), (ax5_16, .inl (cx5_16, 262, .inl z5_10))] := hD
      rcases hw with ⟨q_12, g_11⟩ | ⟨rfl, g_13⟩
      · refine va_iast hx hb hK hP hD hS 1 1 rfl rfl (vp_in_iff.mpr (by have a0 := il_nlt c_1; have a1 := il_lt c_2; have e0 : (0 : Int32).toInt = 0 := (by decide); have e1 : (6 : Int32).toInt = 6 := (by decide); omega)) dX5_addPlan_29 (fun H locs hP hD hS => ?_)
        obtain ⟨f_14, hP, hD⟩ : ∃ f_14 : Nat → Int32, va_P (dC, dI) vwCl [(ax5_2, .inl (cx5_2, 6, .inl f_3)), (ax5_3, .inl (cx5_3, 6, .inl f_14)), (h0, .inr (5, [.int xx5_0, .int y0_1_5, .ref ax5_2, .ref ax5_3, .ref ax5_4, .ref ax5_5, .ref ax5_6, .ref ax5_7, .ref ax5_8, .ref ax5_9, .ref ax5_10, .ref ax5_11, .ref ax5_12, .ref ax5_13, .ref ax5_14, .ref ax5_15, .ref ax5_16])), (ax5_12, .inl (cx5_12, 262, .inl z1_6)), (ax5_13, .inl (cx5_13, 262, .inl z2_7)), (ax5_14, .inl (cx5_14, 262, .inl z3_8)), (ax5_15, .inl (cx5_15, 262, .inr (.inl z4_9))), (ax5_16, .inl (cx5_16, 262, .inl z5_10))] H ∧ va_D A [(ax5_2, .inl (cx5_2, 6, .inl f_3)), (ax5_3, .inl (cx5_3, 6, .inl f_14)), (h0, .inr (5, [.int xx5_0, .int y0_1_5, .ref ax5_2, .ref ax5_3, .ref ax5_4, .ref ax5_5, .ref ax5_6, .ref ax5_7, .ref ax5_8, .ref ax5_9, .ref ax5_10, .ref ax5_11, .ref ax5_12, .ref ax5_13, .ref ax5_14, .ref ax5_15, .ref ax5_16])), (ax5_12, .inl (cx5_12, 262, .inl z1_6)), (ax5_13, .inl (cx5_13, 262, .inl z2_7)), (ax5_14, .inl (cx5_14, 262, .inl z3_8)), (ax5_15, .inl (cx5_15, 262, .inr (.inl z4_9))), (ax5_16, .inl (cx5_16, 262, .inl z5_10))] := ⟨_, hP, hD⟩
        refine lv_aload_n hx hb dX5_addPlan_30 rfl (lv_at hl 0 rfl) ?_
        refine lv_aload_n hx hb dX5_addPlan_31 rfl (lv_at hl 0 rfl) ?_
        refine va_get (D := (dC, dI)) (ci := 5) (v := .ref ax5_3) (C := RX5) (T := TX5) (N := 17) hx hb hts inlX5 hown hK hP 2 rfl rfl 3 (by decide) (hts (.fieldLink RX5 22 "ShapeReader$Shapes" "rootTypes" "[I") mw_14_15) (fun _ h9 => h9) rfl dX5_addPlan_32 ?_
        refine lv_iload_n hx hb dX5_addPlan_35 rfl (lv_at hl 1 rfl) ?_
        refine va_iald hx hb hK hP 1 1 rfl rfl (vp_in_iff.mpr (by have a0 := il_nlt c_1; have a1 := il_lt c_2; have e0 : (0 : Int32).toInt = 0 := (by decide); have e1 : (6 : Int32).toInt = 6 := (by decide); omega)) dX5_addPlan_36 ?_
        refine lv_topi (fun x_15 ex_15 => ?_)
        refine lv_iload_n hx hb dX5_addPlan_37 rfl (lv_at hl 1 rfl) ?_
        refine lv_bipush (v := 6) hx hb dX5_addPlan_38 (by decide) ?_
        refine lv_imul hx hb dX5_addPlan_40 ?_
        refine lv_topi (fun x_16 ex_16 => ?_)
        have bx_16 : (0 : Int) ≤ x_16.toInt ∧ x_16.toInt ≤ (30 : Int) := by have r0 := il_rng p0; have a0 := il_nlt c_1; have a1 := il_lt c_2; have e0 : (0 : Int32).toInt = 0 := (by decide); have e1 : (6 : Int32).toInt = 6 := (by decide); rw [ex_16]; have m9 := il_mulE (x := p0) (y := 6) (by rw [e1]; omega) (by rw [e1]; omega); rw [m9, e1]; omega
        have hPc := hP.sub (ws' := [(h0, .inr (5, [.int xx5_0, .int y0_1_5, .ref ax5_2, .ref ax5_3, .ref ax5_4, .ref ax5_5, .ref ax5_6, .ref ax5_7, .ref ax5_8, .ref ax5_9, .ref ax5_10, .ref ax5_11, .ref ax5_12, .ref ax5_13, .ref ax5_14, .ref ax5_15, .ref ax5_16])), (ax5_13, .inl (cx5_13, 262, .inl z2_7))]) [2, 4] rfl
        have hDc := hD.sub (ws' := [(h0, .inr (5, [.int xx5_0, .int y0_1_5, .ref ax5_2, .ref ax5_3, .ref ax5_4, .ref ax5_5, .ref ax5_6, .ref ax5_7, .ref ax5_8, .ref ax5_9, .ref ax5_10, .ref ax5_11, .ref ax5_12, .ref ax5_13, .ref ax5_14, .ref ax5_15, .ref ax5_16])), (ax5_13, .inl (cx5_13, 262, .inl z2_7))]) [2, 4] (by decide) rfl
        have hKc := hK.sub (tys' := [(cx5_13, .int)]) [3] rfl
        have hFc := va_free (wc := [(h0, .inr (5, [.int xx5_0, .int y0_1_5, .ref ax5_2, .ref ax5_3, .ref ax5_4, .ref ax5_5, .ref ax5_6, .ref ax5_7, .ref ax5_8, .ref ax5_9, .ref ax5_10, .ref ax5_11, .ref ax5_12, .ref ax5_13, .ref ax5_14, .ref ax5_15, .ref ax5_16])), (ax5_13, .inl (cx5_13, 262, .inl z2_7))]) hD hS hA [2, 4] rfl
        refine va_callv (va_runV (As := [.int x_15, .int x_16]) (rest := []) ⟨hx, hb, hml, hown, hts⟩ (s_X5_setInner l dC dI h0 xx5_0 y0_1_5 ax5_2 ax5_3 ax5_4 ax5_5 ax5_6 ax5_7 ax5_8 ax5_9 ax5_10 ax5_11 ax5_12 ax5_13 cx5_13 z2_7 ax5_14 ax5_15 ax5_16 x_15 x_16 (by have a0 := hi_xx5_0.1; have a1 := hi_xx5_0.2; omega) (by have a0 := hq_y0_1_5.1; have a1 := hq_y0_1_5.2; omega) H.size) (cwV 2 hts (gV mw_15_18 mw_9_18 mw_9_19 mw_0_9 mw_49_23) rfl rfl rfl (by decide +kernel) ⟨(Nat.le_of_ble_eq_true rfl), (Nat.le_of_ble_eq_true rfl)⟩) (vV (ci := 5) (q0 := 0) hKc hPc hDc hN rfl rfl) rfl rfl hl.1 rfl (lv_room (Nat.le_of_ble_eq_true rfl)) dX5_addPlan_41 ⟨(Nat.le_of_ble_eq_true rfl), (Nat.le_of_ble_eq_true rfl)⟩) hS (fun q _ h => hFc q h) hFc (fun u t H1 locs ht hvm hw hB hz1 hk1 hS => ?_)
        obtain ⟨z1_18, hP1, hK1, hD1⟩ := hB
        rw [ht] at hP1
        have hK1 := va_K.moved hvm.symm hK1
        obtain ⟨hP, hD⟩ := va_join (wr := [(ax5_2, .inl (cx5_2, 6, .inl f_3)), (ax5_3, .inl (cx5_3, 6, .inl f_14)), (ax5_12, .inl (cx5_12, 262, .inl z1_6)), (ax5_14, .inl (cx5_14, 262, .inl z3_8)), (ax5_15, .inl (cx5_15, 262, .inr (.inl z4_9))), (ax5_16, .inl (cx5_16, 262, .inl z5_10))]) (w1 := [(h0, .inr (5, [.int xx5_0, .int y0_1_5, .ref ax5_2, .ref ax5_3, .ref ax5_4, .ref ax5_5, .ref ax5_6, .ref ax5_7, .ref ax5_8, .ref ax5_9, .ref ax5_10, .ref ax5_11, .ref ax5_12, .ref ax5_13, .ref ax5_14, .ref ax5_15, .ref ax5_16])), (ax5_13, .inl (cx5_13, 262, .inl z1_18))]) hP hD [2, 4] [0, 1, 3, 5, 6, 7] rfl rfl (by decide) (by decide) hk1 hFc hP1 hD1
        clear hPc hDc hKc hP1 hK1 hD1 hFc hk1 hz1
        generalize H1 = H at hP hS ⊢
        have hP : va_P (dC, dI) vwCl [(ax5_2, .inl (cx5_2, 6, .inl f_3)), (ax5_3, .inl (cx5_3, 6, .inl f_14)), (ax5_12, .inl (cx5_12, 262, .inl z1_6)), (ax5_14, .inl (cx5_14, 262, .inl z3_8)), (ax5_15, .inl (cx5_15, 262, .inr (.inl z4_9))), (ax5_16, .inl (cx5_16, 262, .inl z5_10)), (h0, .inr (5, [.int xx5_0, .int y0_1_5, .ref ax5_2, .ref ax5_3, .ref ax5_4, .ref ax5_5, .ref ax5_6, .ref ax5_7, .ref ax5_8, .ref ax5_9, .ref ax5_10, .ref ax5_11, .ref ax5_12, .ref ax5_13, .ref ax5_14, .ref ax5_15, .ref ax5_16])), (ax5_13, .inl (cx5_13, 262, .inl z1_18))] H := hP
        have hD : va_D A [(ax5_2, .inl (cx5_2, 6, .inl f_3)), (ax5_3, .inl (cx5_3, 6, .inl f_14)), (ax5_12, .inl (cx5_12, 262, .inl z1_6)), (ax5_14, .inl (cx5_14, 262, .inl z3_8)), (ax5_15, .inl (cx5_15, 262, .inr (.inl z4_9))), (ax5_16, .inl (cx5_16, 262, .inl z5_10)), (h0, .inr (5, [.int xx5_0, .int y0_1_5, .ref ax5_2, .ref ax5_3, .ref ax5_4, .ref ax5_5, .ref ax5_6, .ref ax5_7, .ref ax5_8, .ref ax5_9, .ref ax5_10, .ref ax5_11, .ref ax5_12, .ref ax5_13, .ref ax5_14, .ref ax5_15, .ref ax5_16])), (ax5_13, .inl (cx5_13, 262, .inl z1_18))] := hD
        refine lv_aload_n hx hb dX5_addPlan_44 rfl (lv_at hl 0 rfl) ?_
        refine lv_iload_n hx hb dX5_addPlan_45 rfl (lv_at hl 1 rfl) ?_
        refine lv_iconst (v := 1) hx hb dX5_addPlan_46 (by decide) ?_
        refine lv_iadd hx hb dX5_addPlan_47 ?_
        refine lv_topi (fun x_19 ex_19 => ?_)
        have bx_19 : (1 : Int) ≤ x_19.toInt ∧ x_19.toInt ≤ (6 : Int) := by have r0 := il_rng p0; have a0 := il_nlt c_1; have a1 := il_lt c_2; have e0 : (0 : Int32).toInt = 0 := (by decide); have e1 : (1 : Int32).toInt = 1 := (by decide); have e2 : (6 : Int32).toInt = 6 := (by decide); rw [ex_19, il_addE (by omega) (by omega)]; omega
        refine va_put (D := (dC, dI)) (ci := 5) (v := .int x_19) (ty := .int) (C := RX5) (T := TX5) (N := 17) hx hb hts inlX5 tyX5 tyX5_ok nmX5 hown hK hP hD hS 6 rfl rfl 0 (by decide) (hts (.fieldLink RX5 9 "ShapeReader$Shapes" "planCount" "I") mw_14_12) (fun _ h9 => h9) rfl (by decide +kernel) rfl rfl (Nat.le_of_ble_eq_true rfl) dX5_addPlan_48 (fun H locs hP hD hS => ?_)
        have hP : va_P (dC, dI) vwCl [(ax5_2, .inl (cx5_2, 6, .inl f_3)), (ax5_3, .inl (cx5_3, 6, .inl f_14)), (ax5_12, .inl (cx5_12, 262, .inl z1_6)), (ax5_14, .inl (cx5_14, 262, .inl z3_8)), (ax5_15, .inl (cx5_15, 262, .inr (.inl z4_9))), (ax5_16, .inl (cx5_16, 262, .inl z5_10)), (h0, .inr (5, [.int x_19, .int y0_1_5, .ref ax5_2, .ref ax5_3, .ref ax5_4, .ref ax5_5, .ref ax5_6, .ref ax5_7, .ref ax5_8, .ref ax5_9, .ref ax5_10, .ref ax5_11, .ref ax5_12, .ref ax5_13, .ref ax5_14, .ref ax5_15, .ref ax5_16])), (ax5_13, .inl (cx5_13, 262, .inl z1_18))] H := hP
        have hD : va_D A [(ax5_2, .inl (cx5_2, 6, .inl f_3)), (ax5_3, .inl (cx5_3, 6, .inl f_14)), (ax5_12, .inl (cx5_12, 262, .inl z1_6)), (ax5_14, .inl (cx5_14, 262, .inl z3_8)), (ax5_15, .inl (cx5_15, 262, .inr (.inl z4_9))), (ax5_16, .inl (cx5_16, 262, .inl z5_10)), (h0, .inr (5, [.int x_19, .int y0_1_5, .ref ax5_2, .ref ax5_3, .ref ax5_4, .ref ax5_5, .ref ax5_6, .ref ax5_7, .ref ax5_8, .ref ax5_9, .ref ax5_10, .ref ax5_11, .ref ax5_12, .ref ax5_13, .ref ax5_14, .ref ax5_15, .ref ax5_16])), (ax5_13, .inl (cx5_13, 262, .inl z1_18))] := hD
        have hP9 := hP.sub (ws' := [(h0, .inr (5, [.int x_19, .int y0_1_5, .ref ax5_2, .ref ax5_3, .ref ax5_4, .ref ax5_5, .ref ax5_6, .ref ax5_7, .ref ax5_8, .ref ax5_9, .ref ax5_10, .ref ax5_11, .ref ax5_12, .ref ax5_13, .ref ax5_14, .ref ax5_15, .ref ax5_16])), (ax5_2, .inl (cx5_2, 6, .inl f_3)), (ax5_3, .inl (cx5_3, 6, .inl f_14)), (ax5_12, .inl (cx5_12, 262, .inl z1_6)), (ax5_13, .inl (cx5_13, 262, .inl z1_18)), (ax5_14, .inl (cx5_14, 262, .inl z3_8)), (ax5_15, .inl (cx5_15, 262, .inr (.inl z4_9))), (ax5_16, .inl (cx5_16, 262, .inl z5_10))]) [6, 0, 1, 2, 7, 3, 4, 5] rfl
        have hD9 := hD.sub (ws' := [(h0, .inr (5, [.int x_19, .int y0_1_5, .ref ax5_2, .ref ax5_3, .ref ax5_4, .ref ax5_5, .ref ax5_6, .ref ax5_7, .ref ax5_8, .ref ax5_9, .ref ax5_10, .ref ax5_11, .ref ax5_12, .ref ax5_13, .ref ax5_14, .ref ax5_15, .ref ax5_16])), (ax5_2, .inl (cx5_2, 6, .inl f_3)), (ax5_3, .inl (cx5_3, 6, .inl f_14)), (ax5_12, .inl (cx5_12, 262, .inl z1_6)), (ax5_13, .inl (cx5_13, 262, .inl z1_18)), (ax5_14, .inl (cx5_14, 262, .inl z3_8)), (ax5_15, .inl (cx5_15, 262, .inr (.inl z4_9))), (ax5_16, .inl (cx5_16, 262, .inl z5_10))]) [6, 0, 1, 2, 7, 3, 4, 5] (by decide) rfl
        have hK9 := hK.sub (tys' := [(cx5_2, .int), (cx5_3, .int), (cx5_12, .int), (cx5_13, .int), (cx5_14, .int), (cx5_15, .long), (cx5_16, .int)]) [0, 1, 2, 3, 4, 5, 6] rfl
        refine W.widen (k := 0) (n := 0) (Nat.le_of_ble_eq_true rfl) (Nat.le_of_ble_eq_true rfl) ?_
        exact W.vret hx hb hr (fun t ht hW => ⟨⟨(), rfl, trivial, x_19, (by have a0 := bx_19.1; have a1 := bx_19.2; omega), y0_1_5, (by have a0 := hq_y0_1_5.1; have a1 := hq_y0_1_5.2; omega), f_3, f_14, z1_6, z1_18, z3_8, z4_9, z5_10, by rw [ht]; exact hP9, va_K.moved hW.alike hK9, hD9⟩, hS.F ht⟩) hS.2.2 dX5_addPlan_51
      · refine va_iast hx hb hK hP hD hS 1 1 rfl rfl (vp_in_iff.mpr (by have a0 := il_nlt c_1; have a1 := il_lt c_2; have e0 : (0 : Int32).toInt = 0 := (by decide); have e1 : (6 : Int32).toInt = 6 := (by decide); omega)) dX5_addPlan_29 (fun H locs hP hD hS => ?_)
        obtain ⟨f_20, hP, hD⟩ : ∃ f_20 : Nat → Int32, va_P (dC, dI) vwCl [(ax5_2, .inl (cx5_2, 6, .inl f_3)), (ax5_3, .inl (cx5_3, 6, .inl f_20)), (h0, .inr (5, [.int xx5_0, .int y0_1_5, .ref ax5_2, .ref ax5_3, .ref ax5_4, .ref ax5_5, .ref ax5_6, .ref ax5_7, .ref ax5_8, .ref ax5_9, .ref ax5_10, .ref ax5_11, .ref ax5_12, .ref ax5_13, .ref ax5_14, .ref ax5_15, .ref ax5_16])), (ax5_12, .inl (cx5_12, 262, .inl z1_6)), (ax5_13, .inl (cx5_13, 262, .inl z2_7)), (ax5_14, .inl (cx5_14, 262, .inl z3_8)), (ax5_15, .inl (cx5_15, 262, .inr (.inl z4_9))), (ax5_16, .inl (cx5_16, 262, .inl z5_10))] H ∧ va_D A [(ax5_2, .inl (cx5_2, 6, .inl f_3)), (ax5_3, .inl (cx5_3, 6, .inl f_20)), (h0, .inr (5, [.int xx5_0, .int y0_1_5, .ref ax5_2, .ref ax5_3, .ref ax5_4, .ref ax5_5, .ref ax5_6, .ref ax5_7, .ref ax5_8, .ref ax5_9, .ref ax5_10, .ref ax5_11, .ref ax5_12, .ref ax5_13, .ref ax5_14, .ref ax5_15, .ref ax5_16])), (ax5_12, .inl (cx5_12, 262, .inl z1_6)), (ax5_13, .inl (cx5_13, 262, .inl z2_7)), (ax5_14, .inl (cx5_14, 262, .inl z3_8)), (ax5_15, .inl (cx5_15, 262, .inr (.inl z4_9))), (ax5_16, .inl (cx5_16, 262, .inl z5_10))] := ⟨_, hP, hD⟩
        refine lv_aload_n hx hb dX5_addPlan_30 rfl (lv_at hl 0 rfl) ?_
        refine lv_aload_n hx hb dX5_addPlan_31 rfl (lv_at hl 0 rfl) ?_
        refine va_get (D := (dC, dI)) (ci := 5) (v := .ref ax5_3) (C := RX5) (T := TX5) (N := 17) hx hb hts inlX5 hown hK hP 2 rfl rfl 3 (by decide) (hts (.fieldLink RX5 22 "ShapeReader$Shapes" "rootTypes" "[I") mw_14_15) (fun _ h9 => h9) rfl dX5_addPlan_32 ?_
        refine lv_iload_n hx hb dX5_addPlan_35 rfl (lv_at hl 1 rfl) ?_
        refine va_iald hx hb hK hP 1 1 rfl rfl (vp_in_iff.mpr (by have a0 := il_nlt c_1; have a1 := il_lt c_2; have e0 : (0 : Int32).toInt = 0 := (by decide); have e1 : (6 : Int32).toInt = 6 := (by decide); omega)) dX5_addPlan_36 ?_
        refine lv_topi (fun x_21 ex_21 => ?_)
        refine lv_iload_n hx hb dX5_addPlan_37 rfl (lv_at hl 1 rfl) ?_
        refine lv_bipush (v := 6) hx hb dX5_addPlan_38 (by decide) ?_
        refine lv_imul hx hb dX5_addPlan_40 ?_
        refine lv_topi (fun x_22 ex_22 => ?_)
        have bx_22 : (0 : Int) ≤ x_22.toInt ∧ x_22.toInt ≤ (30 : Int) := by have r0 := il_rng p0; have a0 := il_nlt c_1; have a1 := il_lt c_2; have e0 : (0 : Int32).toInt = 0 := (by decide); have e1 : (6 : Int32).toInt = 6 := (by decide); rw [ex_22]; have m9 := il_mulE (x := p0) (y := 6) (by rw [e1]; omega) (by rw [e1]; omega); rw [m9, e1]; omega
        have hPc := hP.sub (ws' := [(h0, .inr (5, [.int xx5_0, .int y0_1_5, .ref ax5_2, .ref ax5_3, .ref ax5_4, .ref ax5_5, .ref ax5_6, .ref ax5_7, .ref ax5_8, .ref ax5_9, .ref ax5_10, .ref ax5_11, .ref ax5_12, .ref ax5_13, .ref ax5_14, .ref ax5_15, .ref ax5_16])), (ax5_13, .inl (cx5_13, 262, .inl z2_7))]) [2, 4] rfl
        have hDc := hD.sub (ws' := [(h0, .inr (5, [.int xx5_0, .int y0_1_5, .ref ax5_2, .ref ax5_3, .ref ax5_4, .ref ax5_5, .ref ax5_6, .ref ax5_7, .ref ax5_8, .ref ax5_9, .ref ax5_10, .ref ax5_11, .ref ax5_12, .ref ax5_13, .ref ax5_14, .ref ax5_15, .ref ax5_16])), (ax5_13, .inl (cx5_13, 262, .inl z2_7))]) [2, 4] (by decide) rfl
        have hKc := hK.sub (tys' := [(cx5_13, .int)]) [3] rfl
        have hFc := va_free (wc := [(h0, .inr (5, [.int xx5_0, .int y0_1_5, .ref ax5_2, .ref ax5_3, .ref ax5_4, .ref ax5_5, .ref ax5_6, .ref ax5_7, .ref ax5_8, .ref ax5_9, .ref ax5_10, .ref ax5_11, .ref ax5_12, .ref ax5_13, .ref ax5_14, .ref ax5_15, .ref ax5_16])), (ax5_13, .inl (cx5_13, 262, .inl z2_7))]) hD hS hA [2, 4] rfl
        refine va_callv (va_runV (As := [.int x_21, .int x_22]) (rest := []) ⟨hx, hb, hml, hown, hts⟩ (s_X5_setInner l dC dI h0 xx5_0 y0_1_5 ax5_2 ax5_3 ax5_4 ax5_5 ax5_6 ax5_7 ax5_8 ax5_9 ax5_10 ax5_11 ax5_12 ax5_13 cx5_13 z2_7 ax5_14 ax5_15 ax5_16 x_21 x_22 (by have a0 := hi_xx5_0.1; have a1 := hi_xx5_0.2; omega) (by have a0 := hq_y0_1_5.1; have a1 := hq_y0_1_5.2; omega) H.size) (cwV 2 hts (gV mw_15_18 mw_9_18 mw_9_19 mw_0_9 mw_49_23) rfl rfl rfl (by decide +kernel) ⟨(Nat.le_of_ble_eq_true rfl), (Nat.le_of_ble_eq_true rfl)⟩) (vV (ci := 5) (q0 := 0) hKc hPc hDc hN rfl rfl) rfl rfl hl.1 rfl (lv_room (Nat.le_of_ble_eq_true rfl)) dX5_addPlan_41 ⟨(Nat.le_of_ble_eq_true rfl), (Nat.le_of_ble_eq_true rfl)⟩) hS (fun q _ h => hFc q h) hFc (fun u t H1 locs ht hvm hw hB hz1 hk1 hS => ?_)
        obtain ⟨z1_24, hP1, hK1, hD1⟩ := hB
        rw [ht] at hP1
        have hK1 := va_K.moved hvm.symm hK1
        obtain ⟨hP, hD⟩ := va_join (wr := [(ax5_2, .inl (cx5_2, 6, .inl f_3)), (ax5_3, .inl (cx5_3, 6, .inl f_20)), (ax5_12, .inl (cx5_12, 262, .inl z1_6)), (ax5_14, .inl (cx5_14, 262, .inl z3_8)), (ax5_15, .inl (cx5_15, 262, .inr (.inl z4_9))), (ax5_16, .inl (cx5_16, 262, .inl z5_10))]) (w1 := [(h0, .inr (5, [.int xx5_0, .int y0_1_5, .ref ax5_2, .ref ax5_3, .ref ax5_4, .ref ax5_5, .ref ax5_6, .ref ax5_7, .ref ax5_8, .ref ax5_9, .ref ax5_10, .ref ax5_11, .ref ax5_12, .ref ax5_13, .ref ax5_14, .ref ax5_15, .ref ax5_16])), (ax5_13, .inl (cx5_13, 262, .inl z1_24))]) hP hD [2, 4] [0, 1, 3, 5, 6, 7] rfl rfl (by decide) (by decide) hk1 hFc hP1 hD1
        clear hPc hDc hKc hP1 hK1 hD1 hFc hk1 hz1
        generalize H1 = H at hP hS ⊢
        have hP : va_P (dC, dI) vwCl [(ax5_2, .inl (cx5_2, 6, .inl f_3)), (ax5_3, .inl (cx5_3, 6, .inl f_20)), (ax5_12, .inl (cx5_12, 262, .inl z1_6)), (ax5_14, .inl (cx5_14, 262, .inl z3_8)), (ax5_15, .inl (cx5_15, 262, .inr (.inl z4_9))), (ax5_16, .inl (cx5_16, 262, .inl z5_10)), (h0, .inr (5, [.int xx5_0, .int y0_1_5, .ref ax5_2, .ref ax5_3, .ref ax5_4, .ref ax5_5, .ref ax5_6, .ref ax5_7, .ref ax5_8, .ref ax5_9, .ref ax5_10, .ref ax5_11, .ref ax5_12, .ref ax5_13, .ref ax5_14, .ref ax5_15, .ref ax5_16])), (ax5_13, .inl (cx5_13, 262, .inl z1_24))] H := hP
        have hD : va_D A [(ax5_2, .inl (cx5_2, 6, .inl f_3)), (ax5_3, .inl (cx5_3, 6, .inl f_20)), (ax5_12, .inl (cx5_12, 262, .inl z1_6)), (ax5_14, .inl (cx5_14, 262, .inl z3_8)), (ax5_15, .inl (cx5_15, 262, .inr (.inl z4_9))), (ax5_16, .inl (cx5_16, 262, .inl z5_10)), (h0, .inr (5, [.int xx5_0, .int y0_1_5, .ref ax5_2, .ref ax5_3, .ref ax5_4, .ref ax5_5, .ref ax5_6, .ref ax5_7, .ref ax5_8, .ref ax5_9, .ref ax5_10, .ref ax5_11, .ref ax5_12, .ref ax5_13, .ref ax5_14, .ref ax5_15, .ref ax5_16])), (ax5_13, .inl (cx5_13, 262, .inl z1_24))] := hD
        refine lv_aload_n hx hb dX5_addPlan_44 rfl (lv_at hl 0 rfl) ?_
        refine lv_iload_n hx hb dX5_addPlan_45 rfl (lv_at hl 1 rfl) ?_
        refine lv_iconst (v := 1) hx hb dX5_addPlan_46 (by decide) ?_
        refine lv_iadd hx hb dX5_addPlan_47 ?_
        refine lv_topi (fun x_25 ex_25 => ?_)
        have bx_25 : (1 : Int) ≤ x_25.toInt ∧ x_25.toInt ≤ (6 : Int) := by have r0 := il_rng p0; have a0 := il_nlt c_1; have a1 := il_lt c_2; have e0 : (0 : Int32).toInt = 0 := (by decide); have e1 : (1 : Int32).toInt = 1 := (by decide); have e2 : (6 : Int32).toInt = 6 := (by decide); rw [ex_25, il_addE (by omega) (by omega)]; omega
        refine va_put (D := (dC, dI)) (ci := 5) (v := .int x_25) (ty := .int) (C := RX5) (T := TX5) (N := 17) hx hb hts inlX5 tyX5 tyX5_ok nmX5 hown hK hP hD hS 6 rfl rfl 0 (by decide) (hts (.fieldLink RX5 9 "ShapeReader$Shapes" "planCount" "I") mw_14_12) (fun _ h9 => h9) rfl (by decide +kernel) rfl rfl (Nat.le_of_ble_eq_true rfl) dX5_addPlan_48 (fun H locs hP hD hS => ?_)
        have hP : va_P (dC, dI) vwCl [(ax5_2, .inl (cx5_2, 6, .inl f_3)), (ax5_3, .inl (cx5_3, 6, .inl f_20)), (ax5_12, .inl (cx5_12, 262, .inl z1_6)), (ax5_14, .inl (cx5_14, 262, .inl z3_8)), (ax5_15, .inl (cx5_15, 262, .inr (.inl z4_9))), (ax5_16, .inl (cx5_16, 262, .inl z5_10)), (h0, .inr (5, [.int x_25, .int y0_1_5, .ref ax5_2, .ref ax5_3, .ref ax5_4, .ref ax5_5, .ref ax5_6, .ref ax5_7, .ref ax5_8, .ref ax5_9, .ref ax5_10, .ref ax5_11, .ref ax5_12, .ref ax5_13, .ref ax5_14, .ref ax5_15, .ref ax5_16])), (ax5_13, .inl (cx5_13, 262, .inl z1_24))] H := hP
        have hD : va_D A [(ax5_2, .inl (cx5_2, 6, .inl f_3)), (ax5_3, .inl (cx5_3, 6, .inl f_20)), (ax5_12, .inl (cx5_12, 262, .inl z1_6)), (ax5_14, .inl (cx5_14, 262, .inl z3_8)), (ax5_15, .inl (cx5_15, 262, .inr (.inl z4_9))), (ax5_16, .inl (cx5_16, 262, .inl z5_10)), (h0, .inr (5, [.int x_25, .int y0_1_5, .ref ax5_2, .ref ax5_3, .ref ax5_4, .ref ax5_5, .ref ax5_6, .ref ax5_7, .ref ax5_8, .ref ax5_9, .ref ax5_10, .ref ax5_11, .ref ax5_12, .ref ax5_13, .ref ax5_14, .ref ax5_15, .ref ax5_16])), (ax5_13, .inl (cx5_13, 262, .inl z1_24))] := hD
        have hP9 := hP.sub (ws' := [(h0, .inr (5, [.int x_25, .int y0_1_5, .ref ax5_2, .ref ax5_3, .ref ax5_4, .ref ax5_5, .ref ax5_6, .ref ax5_7, .ref ax5_8, .ref ax5_9, .ref ax5_10, .ref ax5_11, .ref ax5_12, .ref ax5_13, .ref ax5_14, .ref ax5_15, .ref ax5_16])), (ax5_2, .inl (cx5_2, 6, .inl f_3)), (ax5_3, .inl (cx5_3, 6, .inl f_20)), (ax5_12, .inl (cx5_12, 262, .inl z1_6)), (ax5_13, .inl (cx5_13, 262, .inl z1_24)), (ax5_14, .inl (cx5_14, 262, .inl z3_8)), (ax5_15, .inl (cx5_15, 262, .inr (.inl z4_9))), (ax5_16, .inl (cx5_16, 262, .inl z5_10))]) [6, 0, 1, 2, 7, 3, 4, 5] rfl
        have hD9 := hD.sub (ws' := [(h0, .inr (5, [.int x_25, .int y0_1_5, .ref ax5_2, .ref ax5_3, .ref ax5_4, .ref ax5_5, .ref ax5_6, .ref ax5_7, .ref ax5_8, .ref ax5_9, .ref ax5_10, .ref ax5_11, .ref ax5_12, .ref ax5_13, .ref ax5_14, .ref ax5_15, .ref ax5_16])), (ax5_2, .inl (cx5_2, 6, .inl f_3)), (ax5_3, .inl (cx5_3, 6, .inl f_20)), (ax5_12, .inl (cx5_12, 262, .inl z1_6)), (ax5_13, .inl (cx5_13, 262, .inl z1_24)), (ax5_14, .inl (cx5_14, 262, .inl z3_8)), (ax5_15, .inl (cx5_15, 262, .inr (.inl z4_9))), (ax5_16, .inl (cx5_16, 262, .inl z5_10))]) [6, 0, 1, 2, 7, 3, 4, 5] (by decide) rfl
        have hK9 := hK.sub (tys' := [(cx5_2, .int), (cx5_3, .int), (cx5_12, .int), (cx5_13, .int), (cx5_14, .int), (cx5_15, .long), (cx5_16, .int)]) [0, 1, 2, 3, 4, 5, 6] rfl
        refine W.widen (k := 0) (n := 0) (Nat.le_of_ble_eq_true rfl) (Nat.le_of_ble_eq_true rfl) ?_
        exact W.vret hx hb hr (fun t ht hW => ⟨⟨(), rfl, trivial, x_25, (by have a0 := bx_25.1; have a1 := bx_25.2; omega), y0_1_5, (by have a0 := hq_y0_1_5.1; have a1 := hq_y0_1_5.2; omega), f_3, f_20, z1_6, z1_24, z3_8, z4_9, z5_10, by rw [ht]; exact hP9, va_K.moved hW.alike hK9, hD9⟩, hS.F ht⟩) hS.2.2 dX5_addPlan_51
    · have hP9 := hP.sub (ws' := [(h0, .inr (5, [.int xx5_0, .int xx5_1, .ref ax5_2, .ref ax5_3, .ref ax5_4, .ref ax5_5, .ref ax5_6, .ref ax5_7, .ref ax5_8, .ref ax5_9, .ref ax5_10, .ref ax5_11, .ref ax5_12, .ref ax5_13, .ref ax5_14, .ref ax5_15, .ref ax5_16])), (ax5_2, .inl (cx5_2, 6, .inl fx5_2)), (ax5_3, .inl (cx5_3, 6, .inl fx5_3)), (ax5_12, .inl (cx5_12, 262, .inl fx5_12)), (ax5_13, .inl (cx5_13, 262, .inl fx5_13)), (ax5_14, .inl (cx5_14, 262, .inl fx5_14)), (ax5_15, .inl (cx5_15, 262, .inr (.inl fx5_15))), (ax5_16, .inl (cx5_16, 262, .inl fx5_16))]) [0, 1, 2, 3, 4, 5, 6, 7] rfl
      have hD9 := hD.sub (ws' := [(h0, .inr (5, [.int xx5_0, .int xx5_1, .ref ax5_2, .ref ax5_3, .ref ax5_4, .ref ax5_5, .ref ax5_6, .ref ax5_7, .ref ax5_8, .ref ax5_9, .ref ax5_10, .ref ax5_11, .ref ax5_12, .ref ax5_13, .ref ax5_14, .ref ax5_15, .ref ax5_16])), (ax5_2, .inl (cx5_2, 6, .inl fx5_2)), (ax5_3, .inl (cx5_3, 6, .inl fx5_3)), (ax5_12, .inl (cx5_12, 262, .inl fx5_12)), (ax5_13, .inl (cx5_13, 262, .inl fx5_13)), (ax5_14, .inl (cx5_14, 262, .inl fx5_14)), (ax5_15, .inl (cx5_15, 262, .inr (.inl fx5_15))), (ax5_16, .inl (cx5_16, 262, .inl fx5_16))]) [0, 1, 2, 3, 4, 5, 6, 7] (by decide) rfl
      have hK9 := hK.sub (tys' := [(cx5_2, .int), (cx5_3, .int), (cx5_12, .int), (cx5_13, .int), (cx5_14, .int), (cx5_15, .long), (cx5_16, .int)]) [0, 1, 2, 3, 4, 5, 6] rfl
      refine W.widen (k := 0) (n := 0) (Nat.le_of_ble_eq_true rfl) (Nat.le_of_ble_eq_true rfl) ?_
      exact W.vret hx hb hr (fun t ht hW => ⟨⟨(), rfl, trivial, xx5_0, (by have a0 := hi_xx5_0.1; have a1 := hi_xx5_0.2; omega), xx5_1, (by have a0 := hi_xx5_1.1; have a1 := hi_xx5_1.2; omega), fx5_2, fx5_3, fx5_12, fx5_13, fx5_14, fx5_15, fx5_16, by rw [ht]; exact hP9, va_K.moved hW.alike hK9, hD9⟩, hS.F ht⟩) hS.2.2 dX5_addPlan_10
