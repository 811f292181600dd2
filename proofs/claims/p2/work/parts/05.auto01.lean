theorem dX0_isMiss_0 : decode cX0_isMiss 0 = .ok (.iload_n 1, 1) := by decide +kernel
theorem dX0_isMiss_1 : decode cX0_isMiss 1 = .ok (.ifCond .lt 21, 3) := by decide +kernel
theorem dX0_isMiss_4 : decode cX0_isMiss 4 = .ok (.iload_n 1, 1) := by decide +kernel
theorem dX0_isMiss_5 : decode cX0_isMiss 5 = .ok (.aload_n 0, 1) := by decide +kernel
theorem dX0_isMiss_6 : decode cX0_isMiss 6 = .ok (.getfield 30, 3) := by decide +kernel
theorem dX0_isMiss_9 : decode cX0_isMiss 9 = .ok (.if_icmp .ge 13, 3) := by decide +kernel
theorem dX0_isMiss_12 : decode cX0_isMiss 12 = .ok (.iload_n 1, 1) := by decide +kernel
theorem dX0_isMiss_13 : decode cX0_isMiss 13 = .ok (.bipush 20, 2) := by decide +kernel
theorem dX0_isMiss_15 : decode cX0_isMiss 15 = .ok (.if_icmp .ge 7, 3) := by decide +kernel
theorem dX0_isMiss_18 : decode cX0_isMiss 18 = .ok (.iconst 1, 1) := by decide +kernel
theorem dX0_isMiss_19 : decode cX0_isMiss 19 = .ok (.goto 4, 3) := by decide +kernel
theorem dX0_isMiss_22 : decode cX0_isMiss 22 = .ok (.iconst 0, 1) := by decide +kernel
theorem dX0_isMiss_23 : decode cX0_isMiss 23 = .ok (.ireturn, 1) := by decide +kernel
theorem dX0_missKind_0 : decode cX0_missKind 0 = .ok (.aload_n 0, 1) := by decide +kernel
theorem dX0_missKind_1 : decode cX0_missKind 1 = .ok (.iload_n 1, 1) := by decide +kernel
theorem dX0_missKind_2 : decode cX0_missKind 2 = .ok (.invokevirtual 171, 3) := by decide +kernel
theorem dX0_missKind_5 : decode cX0_missKind 5 = .ok (.ifCond .eq 12, 3) := by decide +kernel
theorem dX0_missKind_8 : decode cX0_missKind 8 = .ok (.aload_n 0, 1) := by decide +kernel
theorem dX0_missKind_9 : decode cX0_missKind 9 = .ok (.getfield 33, 3) := by decide +kernel
theorem dX0_missKind_12 : decode cX0_missKind 12 = .ok (.iload_n 1, 1) := by decide +kernel
theorem dX0_missKind_13 : decode cX0_missKind 13 = .ok (.iaload, 1) := by decide +kernel
theorem dX0_missKind_14 : decode cX0_missKind 14 = .ok (.goto 4, 3) := by decide +kernel
theorem dX0_missKind_17 : decode cX0_missKind 17 = .ok (.iconst (-1), 1) := by decide +kernel
theorem dX0_missKind_18 : decode cX0_missKind 18 = .ok (.ireturn, 1) := by decide +kernel
theorem dX0_missSteps_0 : decode cX0_missSteps 0 = .ok (.aload_n 0, 1) := by decide +kernel
theorem dX0_missSteps_1 : decode cX0_missSteps 1 = .ok (.iload_n 1, 1) := by decide +kernel
theorem dX0_missSteps_2 : decode cX0_missSteps 2 = .ok (.invokevirtual 171, 3) := by decide +kernel
theorem dX0_missSteps_5 : decode cX0_missSteps 5 = .ok (.ifCond .eq 12, 3) := by decide +kernel
theorem dX0_missSteps_8 : decode cX0_missSteps 8 = .ok (.aload_n 0, 1) := by decide +kernel
theorem dX0_missSteps_9 : decode cX0_missSteps 9 = .ok (.getfield 36, 3) := by decide +kernel
theorem dX0_missSteps_12 : decode cX0_missSteps 12 = .ok (.iload_n 1, 1) := by decide +kernel
theorem dX0_missSteps_13 : decode cX0_missSteps 13 = .ok (.iaload, 1) := by decide +kernel
theorem dX0_missSteps_14 : decode cX0_missSteps 14 = .ok (.goto 4, 3) := by decide +kernel
theorem dX0_missSteps_17 : decode cX0_missSteps 17 = .ok (.iconst (-1), 1) := by decide +kernel
theorem dX0_missSteps_18 : decode cX0_missSteps 18 = .ok (.ireturn, 1) := by decide +kernel
theorem dX0_pairOf_0 : decode cX0_pairOf 0 = .ok (.iload_n 0, 1) := by decide +kernel
theorem dX0_pairOf_1 : decode cX0_pairOf 1 = .ok (.ifCond .lt 28, 3) := by decide +kernel
theorem dX0_pairOf_4 : decode cX0_pairOf 4 = .ok (.iload_n 0, 1) := by decide +kernel
theorem dX0_pairOf_5 : decode cX0_pairOf 5 = .ok (.bipush 6, 2) := by decide +kernel
theorem dX0_pairOf_7 : decode cX0_pairOf 7 = .ok (.if_icmp .ge 22, 3) := by decide +kernel
theorem dX0_pairOf_10 : decode cX0_pairOf 10 = .ok (.iload_n 1, 1) := by decide +kernel
theorem dX0_pairOf_11 : decode cX0_pairOf 11 = .ok (.ifCond .lt 18, 3) := by decide +kernel
theorem dX0_pairOf_14 : decode cX0_pairOf 14 = .ok (.iload_n 1, 1) := by decide +kernel
theorem dX0_pairOf_15 : decode cX0_pairOf 15 = .ok (.bipush 6, 2) := by decide +kernel
theorem dX0_pairOf_17 : decode cX0_pairOf 17 = .ok (.if_icmp .ge 12, 3) := by decide +kernel
theorem dX0_pairOf_20 : decode cX0_pairOf 20 = .ok (.iload_n 0, 1) := by decide +kernel
theorem dX0_pairOf_21 : decode cX0_pairOf 21 = .ok (.bipush 6, 2) := by decide +kernel
theorem dX0_pairOf_23 : decode cX0_pairOf 23 = .ok (.imul, 1) := by decide +kernel
theorem dX0_pairOf_24 : decode cX0_pairOf 24 = .ok (.iload_n 1, 1) := by decide +kernel
theorem dX0_pairOf_25 : decode cX0_pairOf 25 = .ok (.iadd, 1) := by decide +kernel
theorem dX0_pairOf_26 : decode cX0_pairOf 26 = .ok (.goto 4, 3) := by decide +kernel
theorem dX0_pairOf_29 : decode cX0_pairOf 29 = .ok (.iconst 0, 1) := by decide +kernel
theorem dX0_pairOf_30 : decode cX0_pairOf 30 = .ok (.ireturn, 1) := by decide +kernel
theorem dX0_plainFits_0 : decode cX0_plainFits 0 = .ok (.iload_n 0, 1) := by decide +kernel
theorem dX0_plainFits_1 : decode cX0_plainFits 1 = .ok (.ifCond .lt 8, 3) := by decide +kernel
theorem dX0_plainFits_4 : decode cX0_plainFits 4 = .ok (.iload_n 0, 1) := by decide +kernel
theorem dX0_plainFits_5 : decode cX0_plainFits 5 = .ok (.iconst 5, 1) := by decide +kernel
theorem dX0_plainFits_6 : decode cX0_plainFits 6 = .ok (.if_icmp .le 5, 3) := by decide +kernel
theorem dX0_plainFits_9 : decode cX0_plainFits 9 = .ok (.iconst 0, 1) := by decide +kernel
theorem dX0_plainFits_10 : decode cX0_plainFits 10 = .ok (.ireturn, 1) := by decide +kernel
theorem dX0_plainFits_11 : decode cX0_plainFits 11 = .ok (.iload_n 0, 1) := by decide +kernel
theorem dX0_plainFits_12 : decode cX0_plainFits 12 = .ok (.iload_n 1, 1) := by decide +kernel
theorem dX0_plainFits_13 : decode cX0_plainFits 13 = .ok (.if_icmp .eq 28, 3) := by decide +kernel
theorem dX0_plainFits_16 : decode cX0_plainFits 16 = .ok (.iload_n 0, 1) := by decide +kernel
theorem dX0_plainFits_17 : decode cX0_plainFits 17 = .ok (.iconst 2, 1) := by decide +kernel
theorem dX0_plainFits_18 : decode cX0_plainFits 18 = .ok (.if_icmp .ne 13, 3) := by decide +kernel
theorem dX0_plainFits_21 : decode cX0_plainFits 21 = .ok (.iload_n 1, 1) := by decide +kernel
theorem dX0_plainFits_22 : decode cX0_plainFits 22 = .ok (.iconst 3, 1) := by decide +kernel
theorem dX0_plainFits_23 : decode cX0_plainFits 23 = .ok (.if_icmp .eq 18, 3) := by decide +kernel
theorem dX0_plainFits_26 : decode cX0_plainFits 26 = .ok (.iload_n 1, 1) := by decide +kernel
theorem dX0_plainFits_27 : decode cX0_plainFits 27 = .ok (.iconst 4, 1) := by decide +kernel
theorem dX0_plainFits_28 : decode cX0_plainFits 28 = .ok (.if_icmp .eq 13, 3) := by decide +kernel
theorem dX0_plainFits_31 : decode cX0_plainFits 31 = .ok (.iload_n 0, 1) := by decide +kernel
theorem dX0_plainFits_32 : decode cX0_plainFits 32 = .ok (.iconst 3, 1) := by decide +kernel
theorem dX0_plainFits_33 : decode cX0_plainFits 33 = .ok (.if_icmp .ne 12, 3) := by decide +kernel
theorem dX0_plainFits_36 : decode cX0_plainFits 36 = .ok (.iload_n 1, 1) := by decide +kernel
theorem dX0_plainFits_37 : decode cX0_plainFits 37 = .ok (.iconst 4, 1) := by decide +kernel
theorem dX0_plainFits_38 : decode cX0_plainFits 38 = .ok (.if_icmp .ne 7, 3) := by decide +kernel
theorem dX0_plainFits_41 : decode cX0_plainFits 41 = .ok (.iconst 1, 1) := by decide +kernel
theorem dX0_plainFits_42 : decode cX0_plainFits 42 = .ok (.goto 4, 3) := by decide +kernel
theorem dX0_plainFits_45 : decode cX0_plainFits 45 = .ok (.iconst 0, 1) := by decide +kernel
theorem dX0_plainFits_46 : decode cX0_plainFits 46 = .ok (.ireturn, 1) := by decide +kernel
theorem dX0_step_0 : decode cX0_step 0 = .ok (.aload_n 0, 1) := by decide +kernel
theorem dX0_step_1 : decode cX0_step 1 = .ok (.getfield 45, 3) := by decide +kernel
theorem dX0_step_4 : decode cX0_step 4 = .ok (.ifCond .lt 22, 3) := by decide +kernel
theorem dX0_step_7 : decode cX0_step 7 = .ok (.aload_n 0, 1) := by decide +kernel
theorem dX0_step_8 : decode cX0_step 8 = .ok (.getfield 45, 3) := by decide +kernel
theorem dX0_step_11 : decode cX0_step 11 = .ok (.bipush 32, 2) := by decide +kernel
theorem dX0_step_13 : decode cX0_step 13 = .ok (.if_icmp .ge 13, 3) := by decide +kernel
theorem dX0_step_16 : decode cX0_step 16 = .ok (.aload_n 0, 1) := by decide +kernel
theorem dX0_step_17 : decode cX0_step 17 = .ok (.getfield 42, 3) := by decide +kernel
theorem dX0_step_20 : decode cX0_step 20 = .ok (.aload_n 0, 1) := by decide +kernel
theorem dX0_step_21 : decode cX0_step 21 = .ok (.getfield 45, 3) := by decide +kernel
theorem dX0_step_24 : decode cX0_step 24 = .ok (.iload_n 1, 1) := by decide +kernel
theorem dX0_step_25 : decode cX0_step 25 = .ok (.iastore, 1) := by decide +kernel
theorem dX0_step_26 : decode cX0_step 26 = .ok (.aload_n 0, 1) := by decide +kernel
theorem dX0_step_27 : decode cX0_step 27 = .ok (.dup, 1) := by decide +kernel
theorem dX0_step_28 : decode cX0_step 28 = .ok (.getfield 45, 3) := by decide +kernel
theorem dX0_step_31 : decode cX0_step 31 = .ok (.iconst 1, 1) := by decide +kernel
theorem dX0_step_32 : decode cX0_step 32 = .ok (.iadd, 1) := by decide +kernel
theorem dX0_step_33 : decode cX0_step 33 = .ok (.putfield 45, 3) := by decide +kernel
theorem dX0_step_36 : decode cX0_step 36 = .ok (.return_, 1) := by decide +kernel
theorem dX0_stepOfMiss_0 : decode cX0_stepOfMiss 0 = .ok (.aload_n 0, 1) := by decide +kernel
theorem dX0_stepOfMiss_1 : decode cX0_stepOfMiss 1 = .ok (.iload_n 1, 1) := by decide +kernel
theorem dX0_stepOfMiss_2 : decode cX0_stepOfMiss 2 = .ok (.invokevirtual 171, 3) := by decide +kernel
theorem dX0_stepOfMiss_5 : decode cX0_stepOfMiss 5 = .ok (.ifCond .eq 37, 3) := by decide +kernel
theorem dX0_stepOfMiss_8 : decode cX0_stepOfMiss 8 = .ok (.iload_n 2, 1) := by decide +kernel
theorem dX0_stepOfMiss_9 : decode cX0_stepOfMiss 9 = .ok (.ifCond .lt 33, 3) := by decide +kernel
theorem dX0_stepOfMiss_12 : decode cX0_stepOfMiss 12 = .ok (.iload_n 2, 1) := by decide +kernel
theorem dX0_stepOfMiss_13 : decode cX0_stepOfMiss 13 = .ok (.aload_n 0, 1) := by decide +kernel
theorem dX0_stepOfMiss_14 : decode cX0_stepOfMiss 14 = .ok (.getfield 36, 3) := by decide +kernel
theorem dX0_stepOfMiss_17 : decode cX0_stepOfMiss 17 = .ok (.iload_n 1, 1) := by decide +kernel
theorem dX0_stepOfMiss_18 : decode cX0_stepOfMiss 18 = .ok (.iaload, 1) := by decide +kernel
theorem dX0_stepOfMiss_19 : decode cX0_stepOfMiss 19 = .ok (.if_icmp .ge 23, 3) := by decide +kernel
theorem dX0_stepOfMiss_22 : decode cX0_stepOfMiss 22 = .ok (.iload_n 2, 1) := by decide +kernel
theorem dX0_stepOfMiss_23 : decode cX0_stepOfMiss 23 = .ok (.bipush 32, 2) := by decide +kernel
theorem dX0_stepOfMiss_25 : decode cX0_stepOfMiss 25 = .ok (.if_icmp .ge 17, 3) := by decide +kernel
theorem dX0_stepOfMiss_28 : decode cX0_stepOfMiss 28 = .ok (.aload_n 0, 1) := by decide +kernel
theorem dX0_stepOfMiss_29 : decode cX0_stepOfMiss 29 = .ok (.getfield 39, 3) := by decide +kernel
theorem dX0_stepOfMiss_32 : decode cX0_stepOfMiss 32 = .ok (.iload_n 1, 1) := by decide +kernel
theorem dX0_stepOfMiss_33 : decode cX0_stepOfMiss 33 = .ok (.bipush 32, 2) := by decide +kernel
theorem dX0_stepOfMiss_35 : decode cX0_stepOfMiss 35 = .ok (.imul, 1) := by decide +kernel
theorem dX0_stepOfMiss_36 : decode cX0_stepOfMiss 36 = .ok (.iload_n 2, 1) := by decide +kernel
theorem dX0_stepOfMiss_37 : decode cX0_stepOfMiss 37 = .ok (.iadd, 1) := by decide +kernel
theorem dX0_stepOfMiss_38 : decode cX0_stepOfMiss 38 = .ok (.iaload, 1) := by decide +kernel
theorem dX0_stepOfMiss_39 : decode cX0_stepOfMiss 39 = .ok (.goto 4, 3) := by decide +kernel
theorem dX0_stepOfMiss_42 : decode cX0_stepOfMiss 42 = .ok (.iconst (-1), 1) := by decide +kernel
theorem dX0_stepOfMiss_43 : decode cX0_stepOfMiss 43 = .ok (.ireturn, 1) := by decide +kernel
theorem dX1_byteOf_0 : decode cX1_byteOf 0 = .ok (.iload_n 1, 1) := by decide +kernel
theorem dX1_byteOf_1 : decode cX1_byteOf 1 = .ok (.sipush 400, 3) := by decide +kernel
theorem dX1_byteOf_4 : decode cX1_byteOf 4 = .ok (.imul, 1) := by decide +kernel
theorem dX1_byteOf_5 : decode cX1_byteOf 5 = .ok (.iload_n 2, 1) := by decide +kernel
theorem dX1_byteOf_6 : decode cX1_byteOf 6 = .ok (.iadd, 1) := by decide +kernel
theorem dX1_byteOf_7 : decode cX1_byteOf 7 = .ok (.istore_n 3, 1) := by decide +kernel
theorem dX1_byteOf_8 : decode cX1_byteOf 8 = .ok (.iload_n 3, 1) := by decide +kernel
theorem dX1_byteOf_9 : decode cX1_byteOf 9 = .ok (.ifCond .lt 23, 3) := by decide +kernel
theorem dX1_byteOf_12 : decode cX1_byteOf 12 = .ok (.iload_n 3, 1) := by decide +kernel
theorem dX1_byteOf_13 : decode cX1_byteOf 13 = .ok (.sipush 1600, 3) := by decide +kernel
theorem dX1_byteOf_16 : decode cX1_byteOf 16 = .ok (.if_icmp .ge 16, 3) := by decide +kernel
theorem dX1_byteOf_19 : decode cX1_byteOf 19 = .ok (.aload_n 0, 1) := by decide +kernel
theorem dX1_byteOf_20 : decode cX1_byteOf 20 = .ok (.getfield 9, 3) := by decide +kernel
theorem dX1_byteOf_23 : decode cX1_byteOf 23 = .ok (.iload_n 3, 1) := by decide +kernel
theorem dX1_byteOf_24 : decode cX1_byteOf 24 = .ok (.baload, 1) := by decide +kernel
theorem dX1_byteOf_25 : decode cX1_byteOf 25 = .ok (.sipush 255, 3) := by decide +kernel
theorem dX1_byteOf_28 : decode cX1_byteOf 28 = .ok (.iand, 1) := by decide +kernel
theorem dX1_byteOf_29 : decode cX1_byteOf 29 = .ok (.goto 4, 3) := by decide +kernel
theorem dX1_byteOf_32 : decode cX1_byteOf 32 = .ok (.iconst 0, 1) := by decide +kernel
theorem dX1_byteOf_33 : decode cX1_byteOf 33 = .ok (.ireturn, 1) := by decide +kernel
theorem dX1_isNumber_0 : decode cX1_isNumber 0 = .ok (.iload_n 1, 1) := by decide +kernel
theorem dX1_isNumber_1 : decode cX1_isNumber 1 = .ok (.ifCond .lt 12, 3) := by decide +kernel
theorem dX1_isNumber_4 : decode cX1_isNumber 4 = .ok (.iload_n 1, 1) := by decide +kernel
theorem dX1_isNumber_5 : decode cX1_isNumber 5 = .ok (.iconst 4, 1) := by decide +kernel
theorem dX1_isNumber_6 : decode cX1_isNumber 6 = .ok (.if_icmp .ge 7, 3) := by decide +kernel
theorem dX1_isNumber_9 : decode cX1_isNumber 9 = .ok (.iconst 1, 1) := by decide +kernel
theorem dX1_isNumber_10 : decode cX1_isNumber 10 = .ok (.goto 4, 3) := by decide +kernel
theorem dX1_isNumber_13 : decode cX1_isNumber 13 = .ok (.iconst 0, 1) := by decide +kernel
theorem dX1_isNumber_14 : decode cX1_isNumber 14 = .ok (.ireturn, 1) := by decide +kernel
theorem dX1_isWritten_0 : decode cX1_isWritten 0 = .ok (.aload_n 0, 1) := by decide +kernel
theorem dX1_isWritten_1 : decode cX1_isWritten 1 = .ok (.iload_n 1, 1) := by decide +kernel
theorem dX1_isWritten_2 : decode cX1_isWritten 2 = .ok (.invokevirtual 28, 3) := by decide +kernel
theorem dX1_isWritten_5 : decode cX1_isWritten 5 = .ok (.ifCond .eq 17, 3) := by decide +kernel
theorem dX1_isWritten_8 : decode cX1_isWritten 8 = .ok (.aload_n 0, 1) := by decide +kernel
theorem dX1_isWritten_9 : decode cX1_isWritten 9 = .ok (.getfield 19, 3) := by decide +kernel
theorem dX1_isWritten_12 : decode cX1_isWritten 12 = .ok (.iload_n 1, 1) := by decide +kernel
theorem dX1_isWritten_13 : decode cX1_isWritten 13 = .ok (.iaload, 1) := by decide +kernel
theorem dX1_isWritten_14 : decode cX1_isWritten 14 = .ok (.iconst (-1), 1) := by decide +kernel
theorem dX1_isWritten_15 : decode cX1_isWritten 15 = .ok (.if_icmp .eq 7, 3) := by decide +kernel
theorem dX1_isWritten_18 : decode cX1_isWritten 18 = .ok (.iconst 1, 1) := by decide +kernel
theorem dX1_isWritten_19 : decode cX1_isWritten 19 = .ok (.goto 4, 3) := by decide +kernel
theorem dX1_isWritten_22 : decode cX1_isWritten 22 = .ok (.iconst 0, 1) := by decide +kernel
theorem dX1_isWritten_23 : decode cX1_isWritten 23 = .ok (.ireturn, 1) := by decide +kernel
theorem dX1_planOf_0 : decode cX1_planOf 0 = .ok (.aload_n 0, 1) := by decide +kernel
theorem dX1_planOf_1 : decode cX1_planOf 1 = .ok (.iload_n 1, 1) := by decide +kernel
theorem dX1_planOf_2 : decode cX1_planOf 2 = .ok (.invokevirtual 28, 3) := by decide +kernel
theorem dX1_planOf_5 : decode cX1_planOf 5 = .ok (.ifCond .eq 12, 3) := by decide +kernel
theorem dX1_planOf_8 : decode cX1_planOf 8 = .ok (.aload_n 0, 1) := by decide +kernel
theorem dX1_planOf_9 : decode cX1_planOf 9 = .ok (.getfield 19, 3) := by decide +kernel
theorem dX1_planOf_12 : decode cX1_planOf 12 = .ok (.iload_n 1, 1) := by decide +kernel
theorem dX1_planOf_13 : decode cX1_planOf 13 = .ok (.iaload, 1) := by decide +kernel
theorem dX1_planOf_14 : decode cX1_planOf 14 = .ok (.goto 4, 3) := by decide +kernel
theorem dX1_planOf_17 : decode cX1_planOf 17 = .ok (.iconst (-1), 1) := by decide +kernel
theorem dX1_planOf_18 : decode cX1_planOf 18 = .ok (.ireturn, 1) := by decide +kernel
theorem dX1_shorten_0 : decode cX1_shorten 0 = .ok (.aload_n 0, 1) := by decide +kernel
theorem dX1_shorten_1 : decode cX1_shorten 1 = .ok (.iload_n 1, 1) := by decide +kernel
theorem dX1_shorten_2 : decode cX1_shorten 2 = .ok (.invokevirtual 43, 3) := by decide +kernel
theorem dX1_shorten_5 : decode cX1_shorten 5 = .ok (.istore_n 3, 1) := by decide +kernel
theorem dX1_shorten_6 : decode cX1_shorten 6 = .ok (.aload_n 0, 1) := by decide +kernel
theorem dX1_shorten_7 : decode cX1_shorten 7 = .ok (.iload_n 1, 1) := by decide +kernel
theorem dX1_shorten_8 : decode cX1_shorten 8 = .ok (.invokevirtual 28, 3) := by decide +kernel
theorem dX1_shorten_11 : decode cX1_shorten 11 = .ok (.ifCond .eq 10, 3) := by decide +kernel
theorem dX1_shorten_14 : decode cX1_shorten 14 = .ok (.aload_n 0, 1) := by decide +kernel
theorem dX1_shorten_15 : decode cX1_shorten 15 = .ok (.getfield 15, 3) := by decide +kernel
theorem dX1_shorten_18 : decode cX1_shorten 18 = .ok (.iload_n 1, 1) := by decide +kernel
theorem dX1_shorten_19 : decode cX1_shorten 19 = .ok (.iload_n 2, 1) := by decide +kernel
theorem dX1_shorten_20 : decode cX1_shorten 20 = .ok (.iastore, 1) := by decide +kernel
theorem dX1_shorten_21 : decode cX1_shorten 21 = .ok (.iload_n 3, 1) := by decide +kernel
theorem dX1_shorten_22 : decode cX1_shorten 22 = .ok (.ireturn, 1) := by decide +kernel
theorem dX1_sizeOf_0 : decode cX1_sizeOf 0 = .ok (.aload_n 0, 1) := by decide +kernel
theorem dX1_sizeOf_1 : decode cX1_sizeOf 1 = .ok (.iload_n 1, 1) := by decide +kernel
theorem dX1_sizeOf_2 : decode cX1_sizeOf 2 = .ok (.invokevirtual 28, 3) := by decide +kernel
theorem dX1_sizeOf_5 : decode cX1_sizeOf 5 = .ok (.ifCond .eq 12, 3) := by decide +kernel
theorem dX1_sizeOf_8 : decode cX1_sizeOf 8 = .ok (.aload_n 0, 1) := by decide +kernel
theorem dX1_sizeOf_9 : decode cX1_sizeOf 9 = .ok (.getfield 15, 3) := by decide +kernel
theorem dX1_sizeOf_12 : decode cX1_sizeOf 12 = .ok (.iload_n 1, 1) := by decide +kernel
theorem dX1_sizeOf_13 : decode cX1_sizeOf 13 = .ok (.iaload, 1) := by decide +kernel
theorem dX1_sizeOf_14 : decode cX1_sizeOf 14 = .ok (.goto 4, 3) := by decide +kernel
theorem dX1_sizeOf_17 : decode cX1_sizeOf 17 = .ok (.iconst 0, 1) := by decide +kernel
theorem dX1_sizeOf_18 : decode cX1_sizeOf 18 = .ok (.ireturn, 1) := by decide +kernel
theorem dX1_writtenBits_0 : decode cX1_writtenBits 0 = .ok (.iconst 0, 1) := by decide +kernel
theorem dX1_writtenBits_1 : decode cX1_writtenBits 1 = .ok (.istore_n 1, 1) := by decide +kernel
theorem dX1_writtenBits_2 : decode cX1_writtenBits 2 = .ok (.iconst 0, 1) := by decide +kernel
theorem dX1_writtenBits_3 : decode cX1_writtenBits 3 = .ok (.istore_n 2, 1) := by decide +kernel
theorem dX1_writtenBits_4 : decode cX1_writtenBits 4 = .ok (.iload_n 2, 1) := by decide +kernel
theorem dX1_writtenBits_5 : decode cX1_writtenBits 5 = .ok (.iconst 4, 1) := by decide +kernel
theorem dX1_writtenBits_6 : decode cX1_writtenBits 6 = .ok (.if_icmp .ge 23, 3) := by decide +kernel
theorem dX1_writtenBits_9 : decode cX1_writtenBits 9 = .ok (.aload_n 0, 1) := by decide +kernel
theorem dX1_writtenBits_10 : decode cX1_writtenBits 10 = .ok (.iload_n 2, 1) := by decide +kernel
theorem dX1_writtenBits_11 : decode cX1_writtenBits 11 = .ok (.invokevirtual 32, 3) := by decide +kernel
theorem dX1_writtenBits_14 : decode cX1_writtenBits 14 = .ok (.ifCond .eq 9, 3) := by decide +kernel
theorem dX1_writtenBits_17 : decode cX1_writtenBits 17 = .ok (.iload_n 1, 1) := by decide +kernel
theorem dX1_writtenBits_18 : decode cX1_writtenBits 18 = .ok (.iconst 1, 1) := by decide +kernel
theorem dX1_writtenBits_19 : decode cX1_writtenBits 19 = .ok (.iload_n 2, 1) := by decide +kernel
theorem dX1_writtenBits_20 : decode cX1_writtenBits 20 = .ok (.ishl, 1) := by decide +kernel
theorem dX1_writtenBits_21 : decode cX1_writtenBits 21 = .ok (.ior, 1) := by decide +kernel
theorem dX1_writtenBits_22 : decode cX1_writtenBits 22 = .ok (.istore_n 1, 1) := by decide +kernel
theorem dX1_writtenBits_23 : decode cX1_writtenBits 23 = .ok (.iinc 2 1, 3) := by decide +kernel
theorem dX1_writtenBits_26 : decode cX1_writtenBits 26 = .ok (.goto (-22), 3) := by decide +kernel
theorem dX1_writtenBits_29 : decode cX1_writtenBits 29 = .ok (.iload_n 1, 1) := by decide +kernel
theorem dX1_writtenBits_30 : decode cX1_writtenBits 30 = .ok (.ireturn, 1) := by decide +kernel
theorem dX4_fail_0 : decode cX4_fail 0 = .ok (.aload_n 0, 1) := by decide +kernel
theorem dX4_fail_1 : decode cX4_fail 1 = .ok (.getfield 21, 3) := by decide +kernel
theorem dX4_fail_4 : decode cX4_fail 4 = .ok (.ifCond .ne 30, 3) := by decide +kernel
theorem dX4_fail_7 : decode cX4_fail 7 = .ok (.aload_n 0, 1) := by decide +kernel
theorem dX4_fail_8 : decode cX4_fail 8 = .ok (.iload_n 1, 1) := by decide +kernel
theorem dX4_fail_9 : decode cX4_fail 9 = .ok (.putfield 21, 3) := by decide +kernel
theorem dX4_fail_12 : decode cX4_fail 12 = .ok (.aload_n 0, 1) := by decide +kernel
theorem dX4_fail_13 : decode cX4_fail 13 = .ok (.iload_n 2, 1) := by decide +kernel
theorem dX4_fail_14 : decode cX4_fail 14 = .ok (.putfield 24, 3) := by decide +kernel
theorem dX4_fail_17 : decode cX4_fail 17 = .ok (.iload_n 1, 1) := by decide +kernel
theorem dX4_fail_18 : decode cX4_fail 18 = .ok (.bipush 14, 2) := by decide +kernel
theorem dX4_fail_20 : decode cX4_fail 20 = .ok (.if_icmp .eq 9, 3) := by decide +kernel
theorem dX4_fail_23 : decode cX4_fail 23 = .ok (.iload_n 1, 1) := by decide +kernel
theorem dX4_fail_24 : decode cX4_fail 24 = .ok (.bipush 15, 2) := by decide +kernel
theorem dX4_fail_26 : decode cX4_fail 26 = .ok (.if_icmp .ne 8, 3) := by decide +kernel
theorem dX4_fail_29 : decode cX4_fail 29 = .ok (.aload_n 0, 1) := by decide +kernel
theorem dX4_fail_30 : decode cX4_fail 30 = .ok (.iconst 0, 1) := by decide +kernel
theorem dX4_fail_31 : decode cX4_fail 31 = .ok (.putfield 31, 3) := by decide +kernel
theorem dX4_fail_34 : decode cX4_fail 34 = .ok (.return_, 1) := by decide +kernel
theorem dX4_sourceAt_0 : decode cX4_sourceAt 0 = .ok (.iload_n 1, 1) := by decide +kernel
theorem dX4_sourceAt_1 : decode cX4_sourceAt 1 = .ok (.ifCond .lt 33, 3) := by decide +kernel
theorem dX4_sourceAt_4 : decode cX4_sourceAt 4 = .ok (.iload_n 1, 1) := by decide +kernel
theorem dX4_sourceAt_5 : decode cX4_sourceAt 5 = .ok (.bipush 31, 2) := by decide +kernel
theorem dX4_sourceAt_7 : decode cX4_sourceAt 7 = .ok (.if_icmp .ge 27, 3) := by decide +kernel
theorem dX4_sourceAt_10 : decode cX4_sourceAt 10 = .ok (.iload_n 2, 1) := by decide +kernel
theorem dX4_sourceAt_11 : decode cX4_sourceAt 11 = .ok (.ifCond .lt 23, 3) := by decide +kernel
theorem dX4_sourceAt_14 : decode cX4_sourceAt 14 = .ok (.iload_n 2, 1) := by decide +kernel
theorem dX4_sourceAt_15 : decode cX4_sourceAt 15 = .ok (.bipush 8, 2) := by decide +kernel
theorem dX4_sourceAt_17 : decode cX4_sourceAt 17 = .ok (.if_icmp .ge 17, 3) := by decide +kernel
theorem dX4_sourceAt_20 : decode cX4_sourceAt 20 = .ok (.aload_n 0, 1) := by decide +kernel
theorem dX4_sourceAt_21 : decode cX4_sourceAt 21 = .ok (.getfield 34, 3) := by decide +kernel
theorem dX4_sourceAt_24 : decode cX4_sourceAt 24 = .ok (.iload_n 1, 1) := by decide +kernel
theorem dX4_sourceAt_25 : decode cX4_sourceAt 25 = .ok (.bipush 8, 2) := by decide +kernel
theorem dX4_sourceAt_27 : decode cX4_sourceAt 27 = .ok (.imul, 1) := by decide +kernel
theorem dX4_sourceAt_28 : decode cX4_sourceAt 28 = .ok (.iload_n 2, 1) := by decide +kernel
theorem dX4_sourceAt_29 : decode cX4_sourceAt 29 = .ok (.iadd, 1) := by decide +kernel
theorem dX4_sourceAt_30 : decode cX4_sourceAt 30 = .ok (.iaload, 1) := by decide +kernel
theorem dX4_sourceAt_31 : decode cX4_sourceAt 31 = .ok (.goto 4, 3) := by decide +kernel
theorem dX4_sourceAt_34 : decode cX4_sourceAt 34 = .ok (.iconst (-1), 1) := by decide +kernel
theorem dX4_sourceAt_35 : decode cX4_sourceAt 35 = .ok (.ireturn, 1) := by decide +kernel
theorem dX4_step_0 : decode cX4_step 0 = .ok (.aload_n 0, 1) := by decide +kernel
theorem dX4_step_1 : decode cX4_step 1 = .ok (.getfield 31, 3) := by decide +kernel
theorem dX4_step_4 : decode cX4_step 4 = .ok (.ifCond .lt 22, 3) := by decide +kernel
theorem dX4_step_7 : decode cX4_step 7 = .ok (.aload_n 0, 1) := by decide +kernel
theorem dX4_step_8 : decode cX4_step 8 = .ok (.getfield 31, 3) := by decide +kernel
theorem dX4_step_11 : decode cX4_step 11 = .ok (.bipush 64, 2) := by decide +kernel
theorem dX4_step_13 : decode cX4_step 13 = .ok (.if_icmp .ge 13, 3) := by decide +kernel
theorem dX4_step_16 : decode cX4_step 16 = .ok (.aload_n 0, 1) := by decide +kernel
theorem dX4_step_17 : decode cX4_step 17 = .ok (.getfield 27, 3) := by decide +kernel
theorem dX4_step_20 : decode cX4_step 20 = .ok (.aload_n 0, 1) := by decide +kernel
theorem dX4_step_21 : decode cX4_step 21 = .ok (.getfield 31, 3) := by decide +kernel
theorem dX4_step_24 : decode cX4_step 24 = .ok (.iload_n 1, 1) := by decide +kernel
theorem dX4_step_25 : decode cX4_step 25 = .ok (.iastore, 1) := by decide +kernel
theorem dX4_step_26 : decode cX4_step 26 = .ok (.aload_n 0, 1) := by decide +kernel
theorem dX4_step_27 : decode cX4_step 27 = .ok (.dup, 1) := by decide +kernel
theorem dX4_step_28 : decode cX4_step 28 = .ok (.getfield 31, 3) := by decide +kernel
theorem dX4_step_31 : decode cX4_step 31 = .ok (.iconst 1, 1) := by decide +kernel
theorem dX4_step_32 : decode cX4_step 32 = .ok (.iadd, 1) := by decide +kernel
theorem dX4_step_33 : decode cX4_step 33 = .ok (.putfield 31, 3) := by decide +kernel
theorem dX4_step_36 : decode cX4_step 36 = .ok (.return_, 1) := by decide +kernel
theorem dX4_stepAt_0 : decode cX4_stepAt 0 = .ok (.iload_n 1, 1) := by decide +kernel
theorem dX4_stepAt_1 : decode cX4_stepAt 1 = .ok (.ifCond .lt 26, 3) := by decide +kernel
theorem dX4_stepAt_4 : decode cX4_stepAt 4 = .ok (.iload_n 1, 1) := by decide +kernel
theorem dX4_stepAt_5 : decode cX4_stepAt 5 = .ok (.aload_n 0, 1) := by decide +kernel
theorem dX4_stepAt_6 : decode cX4_stepAt 6 = .ok (.getfield 31, 3) := by decide +kernel
theorem dX4_stepAt_9 : decode cX4_stepAt 9 = .ok (.if_icmp .ge 18, 3) := by decide +kernel
theorem dX4_stepAt_12 : decode cX4_stepAt 12 = .ok (.iload_n 1, 1) := by decide +kernel
theorem dX4_stepAt_13 : decode cX4_stepAt 13 = .ok (.bipush 64, 2) := by decide +kernel
theorem dX4_stepAt_15 : decode cX4_stepAt 15 = .ok (.if_icmp .ge 12, 3) := by decide +kernel
theorem dX4_stepAt_18 : decode cX4_stepAt 18 = .ok (.aload_n 0, 1) := by decide +kernel
theorem dX4_stepAt_19 : decode cX4_stepAt 19 = .ok (.getfield 27, 3) := by decide +kernel
theorem dX4_stepAt_22 : decode cX4_stepAt 22 = .ok (.iload_n 1, 1) := by decide +kernel
theorem dX4_stepAt_23 : decode cX4_stepAt 23 = .ok (.iaload, 1) := by decide +kernel
theorem dX4_stepAt_24 : decode cX4_stepAt 24 = .ok (.goto 4, 3) := by decide +kernel
theorem dX4_stepAt_27 : decode cX4_stepAt 27 = .ok (.iconst (-1), 1) := by decide +kernel
theorem dX4_stepAt_28 : decode cX4_stepAt 28 = .ok (.ireturn, 1) := by decide +kernel
theorem dX4_stepBack_0 : decode cX4_stepBack 0 = .ok (.aload_n 0, 1) := by decide +kernel
theorem dX4_stepBack_1 : decode cX4_stepBack 1 = .ok (.getfield 21, 3) := by decide +kernel
theorem dX4_stepBack_4 : decode cX4_stepBack 4 = .ok (.ifCond .ne 13, 3) := by decide +kernel
theorem dX4_stepBack_7 : decode cX4_stepBack 7 = .ok (.aload_n 0, 1) := by decide +kernel
theorem dX4_stepBack_8 : decode cX4_stepBack 8 = .ok (.dup, 1) := by decide +kernel
theorem dX4_stepBack_9 : decode cX4_stepBack 9 = .ok (.getfield 31, 3) := by decide +kernel
theorem dX4_stepBack_12 : decode cX4_stepBack 12 = .ok (.iconst 1, 1) := by decide +kernel
theorem dX4_stepBack_13 : decode cX4_stepBack 13 = .ok (.isub, 1) := by decide +kernel
theorem dX4_stepBack_14 : decode cX4_stepBack 14 = .ok (.putfield 31, 3) := by decide +kernel
theorem dX4_stepBack_17 : decode cX4_stepBack 17 = .ok (.return_, 1) := by decide +kernel
theorem dX4_takeByte_0 : decode cX4_takeByte 0 = .ok (.aload_n 0, 1) := by decide +kernel
theorem dX4_takeByte_1 : decode cX4_takeByte 1 = .ok (.getfield 21, 3) := by decide +kernel
theorem dX4_takeByte_4 : decode cX4_takeByte 4 = .ok (.ifCond .eq 5, 3) := by decide +kernel
theorem dX4_takeByte_7 : decode cX4_takeByte 7 = .ok (.iconst 0, 1) := by decide +kernel
theorem dX4_takeByte_8 : decode cX4_takeByte 8 = .ok (.ireturn, 1) := by decide +kernel
theorem dX4_takeByte_9 : decode cX4_takeByte 9 = .ok (.aload_n 0, 1) := by decide +kernel
theorem dX4_takeByte_10 : decode cX4_takeByte 10 = .ok (.getfield 15, 3) := by decide +kernel
theorem dX4_takeByte_13 : decode cX4_takeByte 13 = .ok (.aload_n 0, 1) := by decide +kernel
theorem dX4_takeByte_14 : decode cX4_takeByte 14 = .ok (.getfield 18, 3) := by decide +kernel
theorem dX4_takeByte_17 : decode cX4_takeByte 17 = .ok (.if_icmp .lt 15, 3) := by decide +kernel
theorem dX4_takeByte_20 : decode cX4_takeByte 20 = .ok (.aload_n 0, 1) := by decide +kernel
theorem dX4_takeByte_21 : decode cX4_takeByte 21 = .ok (.bipush 11, 2) := by decide +kernel
theorem dX4_takeByte_23 : decode cX4_takeByte 23 = .ok (.aload_n 0, 1) := by decide +kernel
theorem dX4_takeByte_24 : decode cX4_takeByte 24 = .ok (.getfield 18, 3) := by decide +kernel
theorem dX4_takeByte_27 : decode cX4_takeByte 27 = .ok (.invokevirtual 86, 3) := by decide +kernel
theorem dX4_takeByte_30 : decode cX4_takeByte 30 = .ok (.iconst 0, 1) := by decide +kernel
theorem dX4_takeByte_31 : decode cX4_takeByte 31 = .ok (.ireturn, 1) := by decide +kernel
theorem dX4_takeByte_32 : decode cX4_takeByte 32 = .ok (.aload_n 0, 1) := by decide +kernel
theorem dX4_takeByte_33 : decode cX4_takeByte 33 = .ok (.getfield 41, 3) := by decide +kernel
theorem dX4_takeByte_36 : decode cX4_takeByte 36 = .ok (.aload_n 0, 1) := by decide +kernel
theorem dX4_takeByte_37 : decode cX4_takeByte 37 = .ok (.getfield 9, 3) := by decide +kernel
theorem dX4_takeByte_40 : decode cX4_takeByte 40 = .ok (.aload_n 0, 1) := by decide +kernel
theorem dX4_takeByte_41 : decode cX4_takeByte 41 = .ok (.getfield 15, 3) := by decide +kernel
theorem dX4_takeByte_44 : decode cX4_takeByte 44 = .ok (.invokevirtual 215, 3) := by decide +kernel
theorem dX4_takeByte_47 : decode cX4_takeByte 47 = .ok (.istore_n 1, 1) := by decide +kernel
theorem dX4_takeByte_48 : decode cX4_takeByte 48 = .ok (.aload_n 0, 1) := by decide +kernel
theorem dX4_takeByte_49 : decode cX4_takeByte 49 = .ok (.dup, 1) := by decide +kernel
theorem dX4_takeByte_50 : decode cX4_takeByte 50 = .ok (.getfield 15, 3) := by decide +kernel
theorem dX4_takeByte_53 : decode cX4_takeByte 53 = .ok (.iconst 1, 1) := by decide +kernel
theorem dX4_takeByte_54 : decode cX4_takeByte 54 = .ok (.iadd, 1) := by decide +kernel
theorem dX4_takeByte_55 : decode cX4_takeByte 55 = .ok (.putfield 15, 3) := by decide +kernel
theorem dX4_takeByte_58 : decode cX4_takeByte 58 = .ok (.iload_n 1, 1) := by decide +kernel
theorem dX4_takeByte_59 : decode cX4_takeByte 59 = .ok (.ireturn, 1) := by decide +kernel
theorem dX4_takeCount_0 : decode cX4_takeCount 0 = .ok (.aload_n 0, 1) := by decide +kernel
theorem dX4_takeCount_1 : decode cX4_takeCount 1 = .ok (.iload_n 1, 1) := by decide +kernel
theorem dX4_takeCount_2 : decode cX4_takeCount 2 = .ok (.invokevirtual 196, 3) := by decide +kernel
theorem dX4_takeCount_5 : decode cX4_takeCount 5 = .ok (.lstore_n 3, 1) := by decide +kernel
theorem dX4_takeCount_6 : decode cX4_takeCount 6 = .ok (.lload_n 3, 1) := by decide +kernel
theorem dX4_takeCount_7 : decode cX4_takeCount 7 = .ok (.lconst 0, 1) := by decide +kernel
theorem dX4_takeCount_8 : decode cX4_takeCount 8 = .ok (.lcmp, 1) := by decide +kernel
theorem dX4_takeCount_9 : decode cX4_takeCount 9 = .ok (.ifCond .lt 10, 3) := by decide +kernel
theorem dX4_takeCount_12 : decode cX4_takeCount 12 = .ok (.lload_n 3, 1) := by decide +kernel
theorem dX4_takeCount_13 : decode cX4_takeCount 13 = .ok (.iload_n 2, 1) := by decide +kernel
theorem dX4_takeCount_14 : decode cX4_takeCount 14 = .ok (.i2l, 1) := by decide +kernel
theorem dX4_takeCount_15 : decode cX4_takeCount 15 = .ok (.lcmp, 1) := by decide +kernel
theorem dX4_takeCount_16 : decode cX4_takeCount 16 = .ok (.ifCond .le 10, 3) := by decide +kernel
theorem dX4_takeCount_19 : decode cX4_takeCount 19 = .ok (.aload_n 0, 1) := by decide +kernel
theorem dX4_takeCount_20 : decode cX4_takeCount 20 = .ok (.bipush 12, 2) := by decide +kernel
theorem dX4_takeCount_22 : decode cX4_takeCount 22 = .ok (.iload_n 1, 1) := by decide +kernel
theorem dX4_takeCount_23 : decode cX4_takeCount 23 = .ok (.invokevirtual 86, 3) := by decide +kernel
theorem dX4_takeCount_26 : decode cX4_takeCount 26 = .ok (.aload_n 0, 1) := by decide +kernel
theorem dX4_takeCount_27 : decode cX4_takeCount 27 = .ok (.getfield 21, 3) := by decide +kernel
theorem dX4_takeCount_30 : decode cX4_takeCount 30 = .ok (.ifCond .eq 7, 3) := by decide +kernel
theorem dX4_takeCount_33 : decode cX4_takeCount 33 = .ok (.iconst 0, 1) := by decide +kernel
theorem dX4_takeCount_34 : decode cX4_takeCount 34 = .ok (.goto 5, 3) := by decide +kernel
theorem dX4_takeCount_37 : decode cX4_takeCount 37 = .ok (.lload_n 3, 1) := by decide +kernel
theorem dX4_takeCount_38 : decode cX4_takeCount 38 = .ok (.l2i, 1) := by decide +kernel
theorem dX4_takeCount_39 : decode cX4_takeCount 39 = .ok (.ireturn, 1) := by decide +kernel
theorem dX4_takeNumber_0 : decode cX4_takeNumber 0 = .ok (.lconst 0, 1) := by decide +kernel
theorem dX4_takeNumber_1 : decode cX4_takeNumber 1 = .ok (.lstore_n 2, 1) := by decide +kernel
theorem dX4_takeNumber_2 : decode cX4_takeNumber 2 = .ok (.iconst 0, 1) := by decide +kernel
theorem dX4_takeNumber_3 : decode cX4_takeNumber 3 = .ok (.istore 4, 2) := by decide +kernel
theorem dX4_takeNumber_5 : decode cX4_takeNumber 5 = .ok (.iload 4, 2) := by decide +kernel
theorem dX4_takeNumber_7 : decode cX4_takeNumber 7 = .ok (.bipush 10, 2) := by decide +kernel
theorem dX4_takeNumber_9 : decode cX4_takeNumber 9 = .ok (.if_icmp .ge 61, 3) := by decide +kernel
theorem dX4_takeNumber_12 : decode cX4_takeNumber 12 = .ok (.aload_n 0, 1) := by decide +kernel
theorem dX4_takeNumber_13 : decode cX4_takeNumber 13 = .ok (.invokevirtual 192, 3) := by decide +kernel
theorem dX4_takeNumber_16 : decode cX4_takeNumber 16 = .ok (.istore 5, 2) := by decide +kernel
theorem dX4_takeNumber_18 : decode cX4_takeNumber 18 = .ok (.iload 4, 2) := by decide +kernel
theorem dX4_takeNumber_20 : decode cX4_takeNumber 20 = .ok (.bipush 9, 2) := by decide +kernel
theorem dX4_takeNumber_22 : decode cX4_takeNumber 22 = .ok (.if_icmp .ne 16, 3) := by decide +kernel
theorem dX4_takeNumber_25 : decode cX4_takeNumber 25 = .ok (.iload 5, 2) := by decide +kernel
theorem dX4_takeNumber_27 : decode cX4_takeNumber 27 = .ok (.iconst 1, 1) := by decide +kernel
theorem dX4_takeNumber_28 : decode cX4_takeNumber 28 = .ok (.if_icmp .le 10, 3) := by decide +kernel
theorem dX4_takeNumber_31 : decode cX4_takeNumber 31 = .ok (.aload_n 0, 1) := by decide +kernel
theorem dX4_takeNumber_32 : decode cX4_takeNumber 32 = .ok (.bipush 12, 2) := by decide +kernel
theorem dX4_takeNumber_34 : decode cX4_takeNumber 34 = .ok (.iload_n 1, 1) := by decide +kernel
theorem dX4_takeNumber_35 : decode cX4_takeNumber 35 = .ok (.invokevirtual 86, 3) := by decide +kernel
theorem dX4_takeNumber_38 : decode cX4_takeNumber 38 = .ok (.lload_n 2, 1) := by decide +kernel
theorem dX4_takeNumber_39 : decode cX4_takeNumber 39 = .ok (.iload 5, 2) := by decide +kernel
theorem dX4_takeNumber_41 : decode cX4_takeNumber 41 = .ok (.bipush 127, 2) := by decide +kernel
theorem dX4_takeNumber_43 : decode cX4_takeNumber 43 = .ok (.iand, 1) := by decide +kernel
theorem dX4_takeNumber_44 : decode cX4_takeNumber 44 = .ok (.i2l, 1) := by decide +kernel
theorem dX4_takeNumber_45 : decode cX4_takeNumber 45 = .ok (.bipush 7, 2) := by decide +kernel
theorem dX4_takeNumber_47 : decode cX4_takeNumber 47 = .ok (.iload 4, 2) := by decide +kernel
theorem dX4_takeNumber_49 : decode cX4_takeNumber 49 = .ok (.imul, 1) := by decide +kernel
theorem dX4_takeNumber_50 : decode cX4_takeNumber 50 = .ok (.lshl, 1) := by decide +kernel
theorem dX4_takeNumber_51 : decode cX4_takeNumber 51 = .ok (.lor, 1) := by decide +kernel
theorem dX4_takeNumber_52 : decode cX4_takeNumber 52 = .ok (.lstore_n 2, 1) := by decide +kernel
theorem dX4_takeNumber_53 : decode cX4_takeNumber 53 = .ok (.iload 5, 2) := by decide +kernel
theorem dX4_takeNumber_55 : decode cX4_takeNumber 55 = .ok (.sipush 128, 3) := by decide +kernel
theorem dX4_takeNumber_58 : decode cX4_takeNumber 58 = .ok (.if_icmp .ge 6, 3) := by decide +kernel
theorem dX4_takeNumber_61 : decode cX4_takeNumber 61 = .ok (.goto 9, 3) := by decide +kernel
theorem dX4_takeNumber_64 : decode cX4_takeNumber 64 = .ok (.iinc 4 1, 3) := by decide +kernel
theorem dX4_takeNumber_67 : decode cX4_takeNumber 67 = .ok (.goto (-62), 3) := by decide +kernel
theorem dX4_takeNumber_70 : decode cX4_takeNumber 70 = .ok (.aload_n 0, 1) := by decide +kernel
theorem dX4_takeNumber_71 : decode cX4_takeNumber 71 = .ok (.getfield 21, 3) := by decide +kernel
theorem dX4_takeNumber_74 : decode cX4_takeNumber 74 = .ok (.ifCond .eq 7, 3) := by decide +kernel
theorem dX4_takeNumber_77 : decode cX4_takeNumber 77 = .ok (.lconst 0, 1) := by decide +kernel
theorem dX4_takeNumber_78 : decode cX4_takeNumber 78 = .ok (.goto 11, 3) := by decide +kernel
theorem dX4_takeNumber_81 : decode cX4_takeNumber 81 = .ok (.lload_n 2, 1) := by decide +kernel
theorem dX4_takeNumber_82 : decode cX4_takeNumber 82 = .ok (.iconst 1, 1) := by decide +kernel
theorem dX4_takeNumber_83 : decode cX4_takeNumber 83 = .ok (.lushr, 1) := by decide +kernel
theorem dX4_takeNumber_84 : decode cX4_takeNumber 84 = .ok (.lload_n 2, 1) := by decide +kernel
theorem dX4_takeNumber_85 : decode cX4_takeNumber 85 = .ok (.lconst 1, 1) := by decide +kernel
theorem dX4_takeNumber_86 : decode cX4_takeNumber 86 = .ok (.land, 1) := by decide +kernel
theorem dX4_takeNumber_87 : decode cX4_takeNumber 87 = .ok (.lneg, 1) := by decide +kernel
theorem dX4_takeNumber_88 : decode cX4_takeNumber 88 = .ok (.lxor, 1) := by decide +kernel
theorem dX4_takeNumber_89 : decode cX4_takeNumber 89 = .ok (.lreturn, 1) := by decide +kernel
set_option maxRecDepth 100000 in
set_option maxHeartbeats 4000000 in
theorem s_X0_pairOf (l : Launch) (dC : Nat → ClassId) (dI : Nat → Nat → Nat) (p0 : Int32) (p1 : Int32) (sz : Nat) : Met l yX0_pairOf (.code yX0_pairOf cX0_pairOf 2 (some .int) :: pw) ({ frames := 0, cells := 0, slots := 0, locals := 0 }) (va_Pc [.int p0, .int p1] (vPre dC dI [] [] sz)) (va_Qi (fun (r : Int32) (_ : Unit) => (r = ((p0 * 6) + p1) ∧ ¬ p0 < 0 ∧ ¬ 6 ≤ p0 ∧ ¬ p1 < 0 ∧ ¬ 6 ≤ p1) ∨ (r = 0)) (fun (_ : Unit) t => vPst dC dI (va_A [] sz) [] [] t) (va_A [] sz)) 0 0 (va_A [] sz) := by
  refine Met.ofW (cc := cX0_pairOf) (maxL := 2) (ret := (some .int)) (by decide) rfl ?_
  intro p e s m args below meth c s₁ B hml hv
  obtain ⟨rfl, hsz, hP, hK, hD0, hN⟩ := hv
  have hx := B.exec
  have hb := B.bytes
  have hr := B.returns
  have hts := atoms_spec (ws := .code yX0_pairOf cX0_pairOf 2 (some .int) :: pw) B.pre
  have hts : ∀ w ∈ pw, w.before _ s = true := fun w h => hts w (List.mem_cons_of_mem _ h)
  have hown : s.vm.findClass RX0 = some m.cls := findClass_of_methodNamed B.named
  have hlocks := B.notSynchronized
  subst hsz
  have hD := hD0.self (sz := s.heap.size)
  generalize hAe : va_A [] s.heap.size = A at hD ⊢
  have hA : ∀ q : Nat, s.heap.size ≤ q → A q := fun q h => by rw [← hAe]; exact Or.inr h
  have hS : va_S A s.heap s.heap [] := va_S.rf
  have hP : va_P (dC, dI) vwCl [] s.heap := hP
  have hl := lv_entry ([.int p0, .int p1]) (n := 2) (Nat.le_of_ble_eq_true rfl)
  rw [lg_entry_eq]
  generalize (lg_sl ([.int p0, .int p1]) ++ List.replicate (2 - (lg_sl ([.int p0, .int p1])).length) Slot.unset).toArray = ls at hl ⊢
  have hl : lv_has ls 2 [(0, .int p0), (1, .int p1)] := hl
  refine lv_iload_n hx hb dX0_pairOf_0 rfl (lv_at hl 0 rfl) ?_
  refine lv_if_lt (tgt := 29) hx hb dX0_pairOf_1 (by decide) (fun c_1 => ?_) (fun c_1 => ?_)
  · refine lv_iconst (v := 0) hx hb dX0_pairOf_29 (by decide) ?_
    have hP9 := hP.sub (ws' := []) [] rfl
    have hD9 := hD.sub (ws' := []) [] (by decide) rfl
    have hK9 := hK.sub (tys' := []) [] rfl
    refine W.widen (k := 0) (n := 0) (Nat.le_of_ble_eq_true rfl) (Nat.le_of_ble_eq_true rfl) ?_
    exact W.iret (v := 0) hx hb hr (fun t ht hW => ⟨⟨0, (), rfl, Or.inr (rfl), by rw [ht]; exact hP9, va_K.moved hW.alike hK9, hD9⟩, hS.F ht⟩) hS.2.2 dX0_pairOf_30
  · refine lv_iload_n hx hb dX0_pairOf_4 rfl (lv_at hl 0 rfl) ?_
    refine lv_bipush (v := 6) hx hb dX0_pairOf_5 (by decide) ?_
    refine lv_icmp_ge (tgt := 29) hx hb dX0_pairOf_7 (by decide) (fun c_2 => ?_) (fun c_2 => ?_)
    · refine lv_iconst (v := 0) hx hb dX0_pairOf_29 (by decide) ?_
      have hP9 := hP.sub (ws' := []) [] rfl
      have hD9 := hD.sub (ws' := []) [] (by decide) rfl
      have hK9 := hK.sub (tys' := []) [] rfl
      refine W.widen (k := 0) (n := 0) (Nat.le_of_ble_eq_true rfl) (Nat.le_of_ble_eq_true rfl) ?_
      exact W.iret (v := 0) hx hb hr (fun t ht hW => ⟨⟨0, (), rfl, Or.inr (rfl), by rw [ht]; exact hP9, va_K.moved hW.alike hK9, hD9⟩, hS.F ht⟩) hS.2.2 dX0_pairOf_30
    · refine lv_iload_n hx hb dX0_pairOf_10 rfl (lv_at hl 1 rfl) ?_
      refine lv_if_lt (tgt := 29) hx hb dX0_pairOf_11 (by decide) (fun c_3 => ?_) (fun c_3 => ?_)
      · refine lv_iconst (v := 0) hx hb dX0_pairOf_29 (by decide) ?_
        have hP9 := hP.sub (ws' := []) [] rfl
        have hD9 := hD.sub (ws' := []) [] (by decide) rfl
        have hK9 := hK.sub (tys' := []) [] rfl
        refine W.widen (k := 0) (n := 0) (Nat.le_of_ble_eq_true rfl) (Nat.le_of_ble_eq_true rfl) ?_
        exact W.iret (v := 0) hx hb hr (fun t ht hW => ⟨⟨0, (), rfl, Or.inr (rfl), by rw [ht]; exact hP9, va_K.moved hW.alike hK9, hD9⟩, hS.F ht⟩) hS.2.2 dX0_pairOf_30
      · refine lv_iload_n hx hb dX0_pairOf_14 rfl (lv_at hl 1 rfl) ?_
        refine lv_bipush (v := 6) hx hb dX0_pairOf_15 (by decide) ?_
        refine lv_icmp_ge (tgt := 29) hx hb dX0_pairOf_17 (by decide) (fun c_4 => ?_) (fun c_4 => ?_)
        · refine lv_iconst (v := 0) hx hb dX0_pairOf_29 (by decide) ?_
          have hP9 := hP.sub (ws' := []) [] rfl
          have hD9 := hD.sub (ws' := []) [] (by decide) rfl
          have hK9 := hK.sub (tys' := []) [] rfl
          refine W.widen (k := 0) (n := 0) (Nat.le_of_ble_eq_true rfl) (Nat.le_of_ble_eq_true rfl) ?_
          exact W.iret (v := 0) hx hb hr (fun t ht hW => ⟨⟨0, (), rfl, Or.inr (rfl), by rw [ht]; exact hP9, va_K.moved hW.alike hK9, hD9⟩, hS.F ht⟩) hS.2.2 dX0_pairOf_30
        · refine lv_iload_n hx hb dX0_pairOf_20 rfl (lv_at hl 0 rfl) ?_
          refine lv_bipush (v := 6) hx hb dX0_pairOf_21 (by decide) ?_
          refine lv_imul hx hb dX0_pairOf_23 ?_
          refine lv_topi (fun x_5 ex_5 => ?_)
          have bx_5 : (0 : Int) ≤ x_5.toInt ∧ x_5.toInt ≤ (30 : Int) := by have r0 := il_rng p0; have a0 := il_nlt c_1; have a1 := il_nle c_2; have e0 : (0 : Int32).toInt = 0 := (by decide); have e1 : (6 : Int32).toInt = 6 := (by decide); rw [ex_5]; have m9 := il_mulE (x := p0) (y := 6) (by rw [e1]; omega) (by rw [e1]; omega); rw [m9, e1]; omega
          refine lv_iload_n hx hb dX0_pairOf_24 rfl (lv_at hl 1 rfl) ?_
          refine lv_iadd hx hb dX0_pairOf_25 ?_
          refine lv_topi (fun x_6 ex_6 => ?_)
          have bx_6 : (0 : Int) ≤ x_6.toInt ∧ x_6.toInt ≤ (35 : Int) := by have r0 := il_rng x_5; have r1 := il_rng p1; have a0 := bx_5.1; have a1 := bx_5.2; have a2 := il_nlt c_3; have a3 := il_nle c_4; have e0 : (0 : Int32).toInt = 0 := (by decide); have e1 : (6 : Int32).toInt = 6 := (by decide); rw [ex_6, il_addE (by omega) (by omega)]; omega
          refine lv_goto (tgt := 30) hx hb dX0_pairOf_26 (by decide) ?_
          have hP9 := hP.sub (ws' := []) [] rfl
          have hD9 := hD.sub (ws' := []) [] (by decide) rfl
          have hK9 := hK.sub (tys' := []) [] rfl
          refine W.widen (k := 0) (n := 0) (Nat.le_of_ble_eq_true rfl) (Nat.le_of_ble_eq_true rfl) ?_
          exact W.iret (v := x_6) hx hb hr (fun t ht hW => ⟨⟨x_6, (), rfl, Or.inl (⟨(by rw [ex_6, ex_5]), c_1, c_2, c_3, c_4⟩), by rw [ht]; exact hP9, va_K.moved hW.alike hK9, hD9⟩, hS.F ht⟩) hS.2.2 dX0_pairOf_30

set_option maxRecDepth 100000 in
set_option maxHeartbeats 4000000 in
theorem s_X0_plainFits (l : Launch) (dC : Nat → ClassId) (dI : Nat → Nat → Nat) (p0 : Int32) (p1 : Int32) (sz : Nat) : Met l yX0_plainFits (.code yX0_plainFits cX0_plainFits 2 (some .boolean) :: pw) ({ frames := 0, cells := 0, slots := 0, locals := 0 }) (va_Pc [.int p0, .int p1] (vPre dC dI [] [] sz)) (va_Qi (fun (r : Int32) (_ : Unit) => (r = 0) ∨ (r = 1)) (fun (_ : Unit) t => vPst dC dI (va_A [] sz) [] [] t) (va_A [] sz)) 0 0 (va_A [] sz) := by
  refine Met.ofW (cc := cX0_plainFits) (maxL := 2) (ret := (some .boolean)) (by decide) rfl ?_
  intro p e s m args below meth c s₁ B hml hv
  obtain ⟨rfl, hsz, hP, hK, hD0, hN⟩ := hv
  have hx := B.exec
  have hb := B.bytes
  have hr := B.returns
  have hts := atoms_spec (ws := .code yX0_plainFits cX0_plainFits 2 (some .boolean) :: pw) B.pre
  have hts : ∀ w ∈ pw, w.before _ s = true := fun w h => hts w (List.mem_cons_of_mem _ h)
  have hown : s.vm.findClass RX0 = some m.cls := findClass_of_methodNamed B.named
  have hlocks := B.notSynchronized
  subst hsz
  have hD := hD0.self (sz := s.heap.size)
  generalize hAe : va_A [] s.heap.size = A at hD ⊢
  have hA : ∀ q : Nat, s.heap.size ≤ q → A q := fun q h => by rw [← hAe]; exact Or.inr h
  have hS : va_S A s.heap s.heap [] := va_S.rf
  have hP : va_P (dC, dI) vwCl [] s.heap := hP
  have hl := lv_entry ([.int p0, .int p1]) (n := 2) (Nat.le_of_ble_eq_true rfl)
  rw [lg_entry_eq]
  generalize (lg_sl ([.int p0, .int p1]) ++ List.replicate (2 - (lg_sl ([.int p0, .int p1])).length) Slot.unset).toArray = ls at hl ⊢
  have hl : lv_has ls 2 [(0, .int p0), (1, .int p1)] := hl
  refine lv_iload_n hx hb dX0_plainFits_0 rfl (lv_at hl 0 rfl) ?_
  refine lv_if_lt (tgt := 9) hx hb dX0_plainFits_1 (by decide) (fun c_1 => ?_) (fun c_1 => ?_)
  · refine lv_iconst (v := 0) hx hb dX0_plainFits_9 (by decide) ?_
    have hP9 := hP.sub (ws' := []) [] rfl
    have hD9 := hD.sub (ws' := []) [] (by decide) rfl
    have hK9 := hK.sub (tys' := []) [] rfl
    refine W.widen (k := 0) (n := 0) (Nat.le_of_ble_eq_true rfl) (Nat.le_of_ble_eq_true rfl) ?_
    exact W.zret (v := 0) hx hb hr rfl (fun t ht hW => ⟨⟨0, (), rfl, Or.inl (rfl), by rw [ht]; exact hP9, va_K.moved hW.alike hK9, hD9⟩, hS.F ht⟩) hS.2.2 dX0_plainFits_10
  · refine lv_iload_n hx hb dX0_plainFits_4 rfl (lv_at hl 0 rfl) ?_
    refine lv_iconst (v := 5) hx hb dX0_plainFits_5 (by decide) ?_
    refine lv_icmp_le (tgt := 11) hx hb dX0_plainFits_6 (by decide) (fun c_2 => ?_) (fun c_2 => ?_)
    · refine lv_iload_n hx hb dX0_plainFits_11 rfl (lv_at hl 0 rfl) ?_
      refine lv_iload_n hx hb dX0_plainFits_12 rfl (lv_at hl 1 rfl) ?_
      refine lv_icmp_eq (tgt := 41) hx hb dX0_plainFits_13 (by decide) (fun c_3 => ?_) (fun c_3 => ?_)
      · refine lv_iconst (v := 1) hx hb dX0_plainFits_41 (by decide) ?_
        refine lv_goto (tgt := 46) hx hb dX0_plainFits_42 (by decide) ?_
        have hP9 := hP.sub (ws' := []) [] rfl
        have hD9 := hD.sub (ws' := []) [] (by decide) rfl
        have hK9 := hK.sub (tys' := []) [] rfl
        refine W.widen (k := 0) (n := 0) (Nat.le_of_ble_eq_true rfl) (Nat.le_of_ble_eq_true rfl) ?_
        exact W.zret (v := 1) hx hb hr rfl (fun t ht hW => ⟨⟨1, (), rfl, Or.inr (rfl), by rw [ht]; exact hP9, va_K.moved hW.alike hK9, hD9⟩, hS.F ht⟩) hS.2.2 dX0_plainFits_46
      · refine lv_iload_n hx hb dX0_plainFits_16 rfl (lv_at hl 0 rfl) ?_
        refine lv_iconst (v := 2) hx hb dX0_plainFits_17 (by decide) ?_
        refine lv_icmp_ne (tgt := 31) hx hb dX0_plainFits_18 (by decide) (fun c_4 => ?_) (fun c_4 => ?_)
        · refine lv_iload_n hx hb dX0_plainFits_31 rfl (lv_at hl 0 rfl) ?_
          refine lv_iconst (v := 3) hx hb dX0_plainFits_32 (by decide) ?_
          refine lv_icmp_ne (tgt := 45) hx hb dX0_plainFits_33 (by decide) (fun c_5 => ?_) (fun c_5 => ?_)
          · refine lv_iconst (v := 0) hx hb dX0_plainFits_45 (by decide) ?_
            have hP9 := hP.sub (ws' := []) [] rfl
            have hD9 := hD.sub (ws' := []) [] (by decide) rfl
            have hK9 := hK.sub (tys' := []) [] rfl
            refine W.widen (k := 0) (n := 0) (Nat.le_of_ble_eq_true rfl) (Nat.le_of_ble_eq_true rfl) ?_
            exact W.zret (v := 0) hx hb hr rfl (fun t ht hW => ⟨⟨0, (), rfl, Or.inl (rfl), by rw [ht]; exact hP9, va_K.moved hW.alike hK9, hD9⟩, hS.F ht⟩) hS.2.2 dX0_plainFits_46
          · refine lv_iload_n hx hb dX0_plainFits_36 rfl (lv_at hl 1 rfl) ?_
            refine lv_iconst (v := 4) hx hb dX0_plainFits_37 (by decide) ?_
            refine lv_icmp_ne (tgt := 45) hx hb dX0_plainFits_38 (by decide) (fun c_6 => ?_) (fun c_6 => ?_)
            · refine lv_iconst (v := 0) hx hb dX0_plainFits_45 (by decide) ?_
              have hP9 := hP.sub (ws' := []) [] rfl
              have hD9 := hD.sub (ws' := []) [] (by decide) rfl
              have hK9 := hK.sub (tys' := []) [] rfl
              refine W.widen (k := 0) (n := 0) (Nat.le_of_ble_eq_true rfl) (Nat.le_of_ble_eq_true rfl) ?_
              exact W.zret (v := 0) hx hb hr rfl (fun t ht hW => ⟨⟨0, (), rfl, Or.inl (rfl), by rw [ht]; exact hP9, va_K.moved hW.alike hK9, hD9⟩, hS.F ht⟩) hS.2.2 dX0_plainFits_46
            · refine lv_iconst (v := 1) hx hb dX0_plainFits_41 (by decide) ?_
              refine lv_goto (tgt := 46) hx hb dX0_plainFits_42 (by decide) ?_
              have hP9 := hP.sub (ws' := []) [] rfl
              have hD9 := hD.sub (ws' := []) [] (by decide) rfl
              have hK9 := hK.sub (tys' := []) [] rfl
              refine W.widen (k := 0) (n := 0) (Nat.le_of_ble_eq_true rfl) (Nat.le_of_ble_eq_true rfl) ?_
              exact W.zret (v := 1) hx hb hr rfl (fun t ht hW => ⟨⟨1, (), rfl, Or.inr (rfl), by rw [ht]; exact hP9, va_K.moved hW.alike hK9, hD9⟩, hS.F ht⟩) hS.2.2 dX0_plainFits_46
        · refine lv_iload_n hx hb dX0_plainFits_21 rfl (lv_at hl 1 rfl) ?_
          refine lv_iconst (v := 3) hx hb dX0_plainFits_22 (by decide) ?_
          refine lv_icmp_eq (tgt := 41) hx hb dX0_plainFits_23 (by decide) (fun c_7 => ?_) (fun c_7 => ?_)
          · refine lv_iconst (v := 1) hx hb dX0_plainFits_41 (by decide) ?_
            refine lv_goto (tgt := 46) hx hb dX0_plainFits_42 (by decide) ?_
            have hP9 := hP.sub (ws' := []) [] rfl
            have hD9 := hD.sub (ws' := []) [] (by decide) rfl
            have hK9 := hK.sub (tys' := []) [] rfl
            refine W.widen (k := 0) (n := 0) (Nat.le_of_ble_eq_true rfl) (Nat.le_of_ble_eq_true rfl) ?_
            exact W.zret (v := 1) hx hb hr rfl (fun t ht hW => ⟨⟨1, (), rfl, Or.inr (rfl), by rw [ht]; exact hP9, va_K.moved hW.alike hK9, hD9⟩, hS.F ht⟩) hS.2.2 dX0_plainFits_46
          · refine lv_iload_n hx hb dX0_plainFits_26 rfl (lv_at hl 1 rfl) ?_
            refine lv_iconst (v := 4) hx hb dX0_plainFits_27 (by decide) ?_
            refine lv_icmp_eq (tgt := 41) hx hb dX0_plainFits_28 (by decide) (fun c_8 => ?_) (fun c_8 => ?_)
            · refine lv_iconst (v := 1) hx hb dX0_plainFits_41 (by decide) ?_
              refine lv_goto (tgt := 46) hx hb dX0_plainFits_42 (by decide) ?_
              have hP9 := hP.sub (ws' := []) [] rfl
              have hD9 := hD.sub (ws' := []) [] (by decide) rfl
              have hK9 := hK.sub (tys' := []) [] rfl
              refine W.widen (k := 0) (n := 0) (Nat.le_of_ble_eq_true rfl) (Nat.le_of_ble_eq_true rfl) ?_
              exact W.zret (v := 1) hx hb hr rfl (fun t ht hW => ⟨⟨1, (), rfl, Or.inr (rfl), by rw [ht]; exact hP9, va_K.moved hW.alike hK9, hD9⟩, hS.F ht⟩) hS.2.2 dX0_plainFits_46
            · refine lv_iload_n hx hb dX0_plainFits_31 rfl (lv_at hl 0 rfl) ?_
              refine lv_iconst (v := 3) hx hb dX0_plainFits_32 (by decide) ?_
              refine lv_icmp_ne (tgt := 45) hx hb dX0_plainFits_33 (by decide) (fun c_9 => ?_) (fun c_9 => False.elim (by have a0 := il_nlt c_1; have a1 := il_le c_2; have a2 := il_eq c_4; have a3 := il_eq c_9; have e0 : (0 : Int32).toInt = 0 := (by decide); have e1 : (2 : Int32).toInt = 2 := (by decide); have e2 : (3 : Int32).toInt = 3 := (by decide); have e3 : (5 : Int32).toInt = 5 := (by decide); omega))
              refine lv_iconst (v := 0) hx hb dX0_plainFits_45 (by decide) ?_
              have hP9 := hP.sub (ws' := []) [] rfl
              have hD9 := hD.sub (ws' := []) [] (by decide) rfl
              have hK9 := hK.sub (tys' := []) [] rfl
              refine W.widen (k := 0) (n := 0) (Nat.le_of_ble_eq_true rfl) (Nat.le_of_ble_eq_true rfl) ?_
              exact W.zret (v := 0) hx hb hr rfl (fun t ht hW => ⟨⟨0, (), rfl, Or.inl (rfl), by rw [ht]; exact hP9, va_K.moved hW.alike hK9, hD9⟩, hS.F ht⟩) hS.2.2 dX0_plainFits_46
    · refine lv_iconst (v := 0) hx hb dX0_plainFits_9 (by decide) ?_
      have hP9 := hP.sub (ws' := []) [] rfl
      have hD9 := hD.sub (ws' := []) [] (by decide) rfl
      have hK9 := hK.sub (tys' := []) [] rfl
      refine W.widen (k := 0) (n := 0) (Nat.le_of_ble_eq_true rfl) (Nat.le_of_ble_eq_true rfl) ?_
      exact W.zret (v := 0) hx hb hr rfl (fun t ht hW => ⟨⟨0, (), rfl, Or.inl (rfl), by rw [ht]; exact hP9, va_K.moved hW.alike hK9, hD9⟩, hS.F ht⟩) hS.2.2 dX0_plainFits_10

set_option maxRecDepth 100000 in
set_option maxHeartbeats 4000000 in
theorem s_X0_step (l : Launch) (dC : Nat → ClassId) (dI : Nat → Nat → Nat) (h0 : Nat) (ox0_0 : Nat) (ax0_1 : Nat) (xx0_2 : Int64) (ax0_3 : Nat) (xx0_4 : Int64) (xx0_5 : Int32) (xx0_6 : Int32) (ax0_7 : Nat) (ax0_8 : Nat) (ax0_9 : Nat) (ax0_10 : Nat) (cx0_10 : ClassId) (fx0_10 : Nat → Int32) (xx0_11 : Int32) (xx0_12 : Int64) (p0 : Int32) (hi_xx0_6 : (0 : Int) ≤ xx0_6.toInt ∧ xx0_6.toInt ≤ (20 : Int)) (sz : Nat) : Met l yX0_step (.code yX0_step cX0_step 2 none :: pw) ({ frames := 0, cells := 0, slots := 0, locals := 0 }) (va_Pc [.ref h0, .int p0] (vPre dC dI [(h0, .inr (0, [.ref ox0_0, .ref ax0_1, .long xx0_2, .ref ax0_3, .long xx0_4, .int xx0_5, .int xx0_6, .ref ax0_7, .ref ax0_8, .ref ax0_9, .ref ax0_10, .int xx0_11, .long xx0_12])), (ax0_10, .inl (cx0_10, 32, .inl fx0_10))] [(cx0_10, .int)] sz)) (va_Qv (fun (_ : Unit) => True) (fun (_ : Unit) t => ∃ (y0_11 : Int32), ∃ (z1 : Nat → Int32), vPst dC dI (va_A [(h0, .inr (0, [.ref ox0_0, .ref ax0_1, .long xx0_2, .ref ax0_3, .long xx0_4, .int xx0_5, .int xx0_6, .ref ax0_7, .ref ax0_8, .ref ax0_9, .ref ax0_10, .int xx0_11, .long xx0_12])), (ax0_10, .inl (cx0_10, 32, .inl fx0_10))] sz) [(h0, .inr (0, [.ref ox0_0, .ref ax0_1, .long xx0_2, .ref ax0_3, .long xx0_4, .int xx0_5, .int xx0_6, .ref ax0_7, .ref ax0_8, .ref ax0_9, .ref ax0_10, .int y0_11, .long xx0_12])), (ax0_10, .inl (cx0_10, 32, .inl z1))] [(cx0_10, .int)] t) (va_A [(h0, .inr (0, [.ref ox0_0, .ref ax0_1, .long xx0_2, .ref ax0_3, .long xx0_4, .int xx0_5, .int xx0_6, .ref ax0_7, .ref ax0_8, .ref ax0_9, .ref ax0_10, .int xx0_11, .long xx0_12])), (ax0_10, .inl (cx0_10, 32, .inl fx0_10))] sz)) 0 0 (va_A [(h0, .inr (0, [.ref ox0_0, .ref ax0_1, .long xx0_2, .ref ax0_3, .long xx0_4, .int xx0_5, .int xx0_6, .ref ax0_7, .ref ax0_8, .ref ax0_9, .ref ax0_10, .int xx0_11, .long xx0_12])), (ax0_10, .inl (cx0_10, 32, .inl fx0_10))] sz) := by
  refine Met.ofW (cc := cX0_step) (maxL := 2) (ret := none) (by decide) rfl ?_
  intro p e s m args below meth c s₁ B hml hv
  obtain ⟨rfl, hsz, hP, hK, hD0, hN⟩ := hv
  have hx := B.exec
  have hb := B.bytes
  have hr := B.returns
  have hts := atoms_spec (ws := .code yX0_step cX0_step 2 none :: pw) B.pre
  have hts : ∀ w ∈ pw, w.before _ s = true := fun w h => hts w (List.mem_cons_of_mem _ h)
  have hown : s.vm.findClass RX0 = some m.cls := findClass_of_methodNamed B.named
  have hlocks := B.notSynchronized
  subst hsz
  have hD := hD0.self (sz := s.heap.size)
  generalize hAe : va_A [(h0, .inr (0, [.ref ox0_0, .ref ax0_1, .long xx0_2, .ref ax0_3, .long xx0_4, .int xx0_5, .int xx0_6, .ref ax0_7, .ref ax0_8, .ref ax0_9, .ref ax0_10, .int xx0_11, .long xx0_12])), (ax0_10, .inl (cx0_10, 32, .inl fx0_10))] s.heap.size = A at hD ⊢
  have hA : ∀ q : Nat, s.heap.size ≤ q → A q := fun q h => by rw [← hAe]; exact Or.inr h
  have hS : va_S A s.heap s.heap [] := va_S.rf
  have hP : va_P (dC, dI) vwCl [(h0, .inr (0, [.ref ox0_0, .ref ax0_1, .long xx0_2, .ref ax0_3, .long xx0_4, .int xx0_5, .int xx0_6, .ref ax0_7, .ref ax0_8, .ref ax0_9, .ref ax0_10, .int xx0_11, .long xx0_12])), (ax0_10, .inl (cx0_10, 32, .inl fx0_10))] s.heap := hP
  have hl := lv_entry ([.ref h0, .int p0]) (n := 2) (Nat.le_of_ble_eq_true rfl)
  rw [lg_entry_eq]
  generalize (lg_sl ([.ref h0, .int p0]) ++ List.replicate (2 - (lg_sl ([.ref h0, .int p0])).length) Slot.unset).toArray = ls at hl ⊢
  have hl : lv_has ls 2 [(0, .ref h0), (1, .int p0)] := hl
  refine lv_aload_n hx hb dX0_step_0 rfl (lv_at hl 0 rfl) ?_
  refine va_get (D := (dC, dI)) (ci := 0) (v := .int xx0_11) (C := RX0) (T := TX0) (N := 13) hx hb hts inlX0 hown hK hP 0 rfl rfl 11 (by decide) (hts (.fieldLink RX0 45 "ShapeReader$Matcher" "steps" "I") mw_0_28) (fun _ h9 => h9) rfl dX0_step_1 ?_
  refine lv_if_lt (tgt := 26) hx hb dX0_step_4 (by decide) (fun c_1 => ?_) (fun c_1 => ?_)
  · refine lv_aload_n hx hb dX0_step_26 rfl (lv_at hl 0 rfl) ?_
    refine lv_dup hx hb dX0_step_27 rfl ?_
    refine va_get (D := (dC, dI)) (ci := 0) (v := .int xx0_11) (C := RX0) (T := TX0) (N := 13) hx hb hts inlX0 hown hK hP 0 rfl rfl 11 (by decide) (hts (.fieldLink RX0 45 "ShapeReader$Matcher" "steps" "I") mw_0_28) (fun _ h9 => h9) rfl dX0_step_28 ?_
    refine lv_iconst (v := 1) hx hb dX0_step_31 (by decide) ?_
    refine lv_iadd hx hb dX0_step_32 ?_
    refine lv_topi (fun x_2 ex_2 => ?_)
    have bx_2 : ((-2147483647) : Int) ≤ x_2.toInt ∧ x_2.toInt ≤ (0 : Int) := by have r0 := il_rng xx0_11; have a0 := il_lt c_1; have e0 : (0 : Int32).toInt = 0 := (by decide); have e1 : (1 : Int32).toInt = 1 := (by decide); rw [ex_2, il_addE (by omega) (by omega)]; omega
    refine va_put (D := (dC, dI)) (ci := 0) (v := .int x_2) (ty := .int) (C := RX0) (T := TX0) (N := 13) hx hb hts inlX0 tyX0 tyX0_ok nmX0 hown hK hP hD hS 0 rfl rfl 11 (by decide) (hts (.fieldLink RX0 45 "ShapeReader$Matcher" "steps" "I") mw_0_28) (fun _ h9 => h9) rfl (by decide +kernel) rfl rfl (Nat.le_of_ble_eq_true rfl) dX0_step_33 (fun H locs hP hD hS => ?_)
    have hP : va_P (dC, dI) vwCl [(h0, .inr (0, [.ref ox0_0, .ref ax0_1, .long xx0_2, .ref ax0_3, .long xx0_4, .int xx0_5, .int xx0_6, .ref ax0_7, .ref ax0_8, .ref ax0_9, .ref ax0_10, .int x_2, .long xx0_12])), (ax0_10, .inl (cx0_10, 32, .inl fx0_10))] H := hP
    have hD : va_D A [(h0, .inr (0, [.ref ox0_0, .ref ax0_1, .long xx0_2, .ref ax0_3, .long xx0_4, .int xx0_5, .int xx0_6, .ref ax0_7, .ref ax0_8, .ref ax0_9, .ref ax0_10, .int x_2, .long xx0_12])), (ax0_10, .inl (cx0_10, 32, .inl fx0_10))] := hD
    have hP9 := hP.sub (ws' := [(h0, .inr (0, [.ref ox0_0, .ref ax0_1, .long xx0_2, .ref ax0_3, .long xx0_4, .int xx0_5, .int xx0_6, .ref ax0_7, .ref ax0_8, .ref ax0_9, .ref ax0_10, .int x_2, .long xx0_12])), (ax0_10, .inl (cx0_10, 32, .inl fx0_10))]) [0, 1] rfl
    have hD9 := hD.sub (ws' := [(h0, .inr (0, [.ref ox0_0, .ref ax0_1, .long xx0_2, .ref ax0_3, .long xx0_4, .int xx0_5, .int xx0_6, .ref ax0_7, .ref ax0_8, .ref ax0_9, .ref ax0_10, .int x_2, .long xx0_12])), (ax0_10, .inl (cx0_10, 32, .inl fx0_10))]) [0, 1] (by decide) rfl
    have hK9 := hK.sub (tys' := [(cx0_10, .int)]) [0] rfl
    refine W.widen (k := 0) (n := 0) (Nat.le_of_ble_eq_true rfl) (Nat.le_of_ble_eq_true rfl) ?_
    exact W.vret hx hb hr (fun t ht hW => ⟨⟨(), rfl, trivial, x_2, fx0_10, by rw [ht]; exact hP9, va_K.moved hW.alike hK9, hD9⟩, hS.F ht⟩) hS.2.2 dX0_step_36
  · refine lv_aload_n hx hb dX0_step_7 rfl (lv_at hl 0 rfl) ?_
    refine va_get (D := (dC, dI)) (ci := 0) (v := .int xx0_11) (C := RX0) (T := TX0) (N := 13) hx hb hts inlX0 hown hK hP 0 rfl rfl 11 (by decide) (hts (.fieldLink RX0 45 "ShapeReader$Matcher" "steps" "I") mw_0_28) (fun _ h9 => h9) rfl dX0_step_8 ?_
    refine lv_bipush (v := 32) hx hb dX0_step_11 (by decide) ?_
    refine lv_icmp_ge (tgt := 26) hx hb dX0_step_13 (by decide) (fun c_3 => ?_) (fun c_3 => ?_)
    · refine lv_aload_n hx hb dX0_step_26 rfl (lv_at hl 0 rfl) ?_
      refine lv_dup hx hb dX0_step_27 rfl ?_
      refine va_get (D := (dC, dI)) (ci := 0) (v := .int xx0_11) (C := RX0) (T := TX0) (N := 13) hx hb hts inlX0 hown hK hP 0 rfl rfl 11 (by decide) (hts (.fieldLink RX0 45 "ShapeReader$Matcher" "steps" "I") mw_0_28) (fun _ h9 => h9) rfl dX0_step_28 ?_
      refine lv_iconst (v := 1) hx hb dX0_step_31 (by decide) ?_
      refine lv_iadd hx hb dX0_step_32 ?_
      refine lv_topi (fun x_4 ex_4 => ?_)
      refine va_put (D := (dC, dI)) (ci := 0) (v := .int x_4) (ty := .int) (C := RX0) (T := TX0) (N := 13) hx hb hts inlX0 tyX0 tyX0_ok nmX0 hown hK hP hD hS 0 rfl rfl 11 (by decide) (hts (.fieldLink RX0 45 "ShapeReader$Matcher" "steps" "I") mw_0_28) (fun _ h9 => h9) rfl (by decide +kernel) rfl rfl (Nat.le_of_ble_eq_true rfl) dX0_step_33 (fun H locs hP hD hS => ?_)
      have hP : va_P (dC, dI) vwCl [(h0, .inr (0, [.ref ox0_0, .ref ax0_1, .long xx0_2, .ref ax0_3, .long xx0_4, .int xx0_5, .int xx0_6, .ref ax0_7, .ref ax0_8, .ref ax0_9, .ref ax0_10, .int x_4, .long xx0_12])), (ax0_10, .inl (cx0_10, 32, .inl fx0_10))] H := hP
      have hD : va_D A [(h0, .inr (0, [.ref ox0_0, .ref ax0_1, .long xx0_2, .ref ax0_3, .long xx0_4, .int xx0_5, .int xx0_6, .ref ax0_7, .ref ax0_8, .ref ax0_9, .ref ax0_10, .int x_4, .long xx0_12])), (ax0_10, .inl (cx0_10, 32, .inl fx0_10))] := hD
      have hP9 := hP.sub (ws' := [(h0, .inr (0, [.ref ox0_0, .ref ax0_1, .long xx0_2, .ref ax0_3, .long xx0_4, .int xx0_5, .int xx0_6, .ref ax0_7, .ref ax0_8, .ref ax0_9, .ref ax0_10, .int x_4, .long xx0_12])), (ax0_10, .inl (cx0_10, 32, .inl fx0_10))]) [0, 1] rfl
      have hD9 := hD.sub (ws' := [(h0, .inr (0, [.ref ox0_0, .ref ax0_1, .long xx0_2, .ref ax0_3, .long xx0_4, .int xx0_5, .int xx0_6, .ref ax0_7, .ref ax0_8, .ref ax0_9, .ref ax0_10, .int x_4, .long xx0_12])), (ax0_10, .inl (cx0_10, 32, .inl fx0_10))]) [0, 1] (by decide) rfl
      have hK9 := hK.sub (tys' := [(cx0_10, .int)]) [0] rfl
      refine W.widen (k := 0) (n := 0) (Nat.le_of_ble_eq_true rfl) (Nat.le_of_ble_eq_true rfl) ?_
      exact W.vret hx hb hr (fun t ht hW => ⟨⟨(), rfl, trivial, x_4, fx0_10, by rw [ht]; exact hP9, va_K.moved hW.alike hK9, hD9⟩, hS.F ht⟩) hS.2.2 dX0_step_36
    · refine lv_aload_n hx hb dX0_step_16 rfl (lv_at hl 0 rfl) ?_
      refine va_get (D := (dC, dI)) (ci := 0) (v := .ref ax0_10) (C := RX0) (T := TX0) (N := 13) hx hb hts inlX0 hown hK hP 0 rfl rfl 10 (by decide) (hts (.fieldLink RX0 42 "ShapeReader$Matcher" "path" "[I") mw_0_27) (fun _ h9 => h9) rfl dX0_step_17 ?_
      refine lv_aload_n hx hb dX0_step_20 rfl (lv_at hl 0 rfl) ?_
      refine va_get (D := (dC, dI)) (ci := 0) (v := .int xx0_11) (C := RX0) (T := TX0) (N := 13) hx hb hts inlX0 hown hK hP 0 rfl rfl 11 (by decide) (hts (.fieldLink RX0 45 "ShapeReader$Matcher" "steps" "I") mw_0_28) (fun _ h9 => h9) rfl dX0_step_21 ?_
      refine lv_iload_n hx hb dX0_step_24 rfl (lv_at hl 1 rfl) ?_
      refine va_iast hx hb hK hP hD hS 1 0 rfl rfl (vp_in_iff.mpr (by have a0 := il_nlt c_1; have a1 := il_nle c_3; have e0 : (0 : Int32).toInt = 0 := (by decide); have e1 : (32 : Int32).toInt = 32 := (by decide); omega)) dX0_step_25 (fun H locs hP hD hS => ?_)
      obtain ⟨f_5, hP, hD⟩ : ∃ f_5 : Nat → Int32, va_P (dC, dI) vwCl [(h0, .inr (0, [.ref ox0_0, .ref ax0_1, .long xx0_2, .ref ax0_3, .long xx0_4, .int xx0_5, .int xx0_6, .ref ax0_7, .ref ax0_8, .ref ax0_9, .ref ax0_10, .int xx0_11, .long xx0_12])), (ax0_10, .inl (cx0_10, 32, .inl f_5))] H ∧ va_D A [(h0, .inr (0, [.ref ox0_0, .ref ax0_1, .long xx0_2, .ref ax0_3, .long xx0_4, .int xx0_5, .int xx0_6, .ref ax0_7, .ref ax0_8, .ref ax0_9, .ref ax0_10, .int xx0_11, .long xx0_12])), (ax0_10, .inl (cx0_10, 32, .inl f_5))] := ⟨_, hP, hD⟩
      refine lv_aload_n hx hb dX0_step_26 rfl (lv_at hl 0 rfl) ?_
      refine lv_dup hx hb dX0_step_27 rfl ?_
      refine va_get (D := (dC, dI)) (ci := 0) (v := .int xx0_11) (C := RX0) (T := TX0) (N := 13) hx hb hts inlX0 hown hK hP 0 rfl rfl 11 (by decide) (hts (.fieldLink RX0 45 "ShapeReader$Matcher" "steps" "I") mw_0_28) (fun _ h9 => h9) rfl dX0_step_28 ?_
      refine lv_iconst (v := 1) hx hb dX0_step_31 (by decide) ?_
      refine lv_iadd hx hb dX0_step_32 ?_
      refine lv_topi (fun x_6 ex_6 => ?_)
      have bx_6 : (1 : Int) ≤ x_6.toInt ∧ x_6.toInt ≤ (32 : Int) := by have r0 := il_rng xx0_11; have a0 := il_nlt c_1; have a1 := il_nle c_3; have e0 : (0 : Int32).toInt = 0 := (by decide); have e1 : (1 : Int32).toInt = 1 := (by decide); have e2 : (32 : Int32).toInt = 32 := (by decide); rw [ex_6, il_addE (by omega) (by omega)]; omega
      refine va_put (D := (dC, dI)) (ci := 0) (v := .int x_6) (ty := .int) (C := RX0) (T := TX0) (N := 13) hx hb hts inlX0 tyX0 tyX0_ok nmX0 hown hK hP hD hS 0 rfl rfl 11 (by decide) (hts (.fieldLink RX0 45 "ShapeReader$Matcher" "steps" "I") mw_0_28) (fun _ h9 => h9) rfl (by decide +kernel) rfl rfl (Nat.le_of_ble_eq_true rfl) dX0_step_33 (fun H locs hP hD hS => ?_)
      have hP : va_P (dC, dI) vwCl [(h0, .inr (0, [.ref ox0_0, .ref ax0_1, .long xx0_2, .ref ax0_3, .long xx0_4, .int xx0_5, .int xx0_6, .ref ax0_7, .ref ax0_8, .ref ax0_9, .ref ax0_10, .int x_6, .long xx0_12])), (ax0_10, .inl (cx0_10, 32, .inl f_5))] H := hP
      have hD : va_D A [(h0, .inr (0, [.ref ox0_0, .ref ax0_1, .long xx0_2, .ref ax0_3, .long xx0_4, .int xx0_5, .int xx0_6, .ref ax0_7, .ref ax0_8, .ref ax0_9, .ref ax0_10, .int x_6, .long xx0_12])), (ax0_10, .inl (cx0_10, 32, .inl f_5))] := hD
      have hP9 := hP.sub (ws' := [(h0, .inr (0, [.ref ox0_0, .ref ax0_1, .long xx0_2, .ref ax0_3, .long xx0_4, .int xx0_5, .int xx0_6, .ref ax0_7, .ref ax0_8, .ref ax0_9, .ref ax0_10, .int x_6, .long xx0_12])), (ax0_10, .inl (cx0_10, 32, .inl f_5))]) [0, 1] rfl
      have hD9 := hD.sub (ws' := [(h0, .inr (0, [.ref ox0_0, .ref ax0_1, .long xx0_2, .ref ax0_3, .long xx0_4, .int xx0_5, .int xx0_6, .ref ax0_7, .ref ax0_8, .ref ax0_9, .ref ax0_10, .int x_6, .long xx0_12])), (ax0_10, .inl (cx0_10, 32, .inl f_5))]) [0, 1] (by decide) rfl
      have hK9 := hK.sub (tys' := [(cx0_10, .int)]) [0] rfl
      refine W.widen (k := 0) (n := 0) (Nat.le_of_ble_eq_true rfl) (Nat.le_of_ble_eq_true rfl) ?_
      exact W.vret hx hb hr (fun t ht hW => ⟨⟨(), rfl, trivial, x_6, f_5, by rw [ht]; exact hP9, va_K.moved hW.alike hK9, hD9⟩, hS.F ht⟩) hS.2.2 dX0_step_36

set_option maxRecDepth 100000 in
set_option maxHeartbeats 4000000 in
theorem s_X0_isMiss (l : Launch) (dC : Nat → ClassId) (dI : Nat → Nat → Nat) (h0 : Nat) (ox0_0 : Nat) (ax0_1 : Nat) (xx0_2 : Int64) (ax0_3 : Nat) (xx0_4 : Int64) (xx0_5 : Int32) (xx0_6 : Int32) (ax0_7 : Nat) (ax0_8 : Nat) (ax0_9 : Nat) (ax0_10 : Nat) (xx0_11 : Int32) (xx0_12 : Int64) (p0 : Int32) (hi_xx0_6 : (0 : Int) ≤ xx0_6.toInt ∧ xx0_6.toInt ≤ (20 : Int)) (sz : Nat) : Met l yX0_isMiss (.code yX0_isMiss cX0_isMiss 2 (some .boolean) :: pw) ({ frames := 0, cells := 0, slots := 0, locals := 0 }) (va_Pc [.ref h0, .int p0] (vPre dC dI [(h0, .inr (0, [.ref ox0_0, .ref ax0_1, .long xx0_2, .ref ax0_3, .long xx0_4, .int xx0_5, .int xx0_6, .ref ax0_7, .ref ax0_8, .ref ax0_9, .ref ax0_10, .int xx0_11, .long xx0_12]))] [] sz)) (va_Qi (fun (r : Int32) (_ : Unit) => (r = 0) ∨ (r = 1 ∧ ¬ p0 < 0 ∧ ¬ xx0_6 ≤ p0 ∧ ¬ 20 ≤ p0)) (fun (_ : Unit) t => vPst dC dI (va_A [(h0, .inr (0, [.ref ox0_0, .ref ax0_1, .long xx0_2, .ref ax0_3, .long xx0_4, .int xx0_5, .int xx0_6, .ref ax0_7, .ref ax0_8, .ref ax0_9, .ref ax0_10, .int xx0_11, .long xx0_12]))] sz) [(h0, .inr (0, [.ref ox0_0, .ref ax0_1, .long xx0_2, .ref ax0_3, .long xx0_4, .int xx0_5, .int xx0_6, .ref ax0_7, .ref ax0_8, .ref ax0_9, .ref ax0_10, .int xx0_11, .long xx0_12]))] [] t) (va_A [(h0, .inr (0, [.ref ox0_0, .ref ax0_1, .long xx0_2, .ref ax0_3, .long xx0_4, .int xx0_5, .int xx0_6, .ref ax0_7, .ref ax0_8, .ref ax0_9, .ref ax0_10, .int xx0_11, .long xx0_12]))] sz)) 0 0 (va_A [(h0, .inr (0, [.ref ox0_0, .ref ax0_1, .long xx0_2, .ref ax0_3, .long xx0_4, .int xx0_5, .int xx0_6, .ref ax0_7, .ref ax0_8, .ref ax0_9, .ref ax0_10, .int xx0_11, .long xx0_12]))] sz) := by
  refine Met.ofW (cc := cX0_isMiss) (maxL := 2) (ret := (some .boolean)) (by decide) rfl ?_
  intro p e s m args below meth c s₁ B hml hv
  obtain ⟨rfl, hsz, hP, hK, hD0, hN⟩ := hv
  have hx := B.exec
  have hb := B.bytes
  have hr := B.returns
  have hts := atoms_spec (ws := .code yX0_isMiss cX0_isMiss 2 (some .boolean) :: pw) B.pre
  have hts : ∀ w ∈ pw, w.before _ s = true := fun w h => hts w (List.mem_cons_of_mem _ h)
  have hown : s.vm.findClass RX0 = some m.cls := findClass_of_methodNamed B.named
  have hlocks := B.notSynchronized
  subst hsz
  have hD := hD0.self (sz := s.heap.size)
  generalize hAe : va_A [(h0, .inr (0, [.ref ox0_0, .ref ax0_1, .long xx0_2, .ref ax0_3, .long xx0_4, .int xx0_5, .int xx0_6, .ref ax0_7, .ref ax0_8, .ref ax0_9, .ref ax0_10, .int xx0_11, .long xx0_12]))] s.heap.size = A at hD ⊢
  have hA : ∀ q : Nat, s.heap.size ≤ q → A q := fun q h => by rw [← hAe]; exact Or.inr h
  have hS : va_S A s.heap s.heap [] := va_S.rf
  have hP : va_P (dC, dI) vwCl [(h0, .inr (0, [.ref ox0_0, .ref ax0_1, .long xx0_2, .ref ax0_3, .long xx0_4, .int xx0_5, .int xx0_6, .ref ax0_7, .ref ax0_8, .ref ax0_9, .ref ax0_10, .int xx0_11, .long xx0_12]))] s.heap := hP
  have hl := lv_entry ([.ref h0, .int p0]) (n := 2) (Nat.le_of_ble_eq_true rfl)
  rw [lg_entry_eq]
  generalize (lg_sl ([.ref h0, .int p0]) ++ List.replicate (2 - (lg_sl ([.ref h0, .int p0])).length) Slot.unset).toArray = ls at hl ⊢
  have hl : lv_has ls 2 [(0, .ref h0), (1, .int p0)] := hl
  refine lv_iload_n hx hb dX0_isMiss_0 rfl (lv_at hl 1 rfl) ?_
  refine lv_if_lt (tgt := 22) hx hb dX0_isMiss_1 (by decide) (fun c_1 => ?_) (fun c_1 => ?_)
  · refine lv_iconst (v := 0) hx hb dX0_isMiss_22 (by decide) ?_
    have hP9 := hP.sub (ws' := [(h0, .inr (0, [.ref ox0_0, .ref ax0_1, .long xx0_2, .ref ax0_3, .long xx0_4, .int xx0_5, .int xx0_6, .ref ax0_7, .ref ax0_8, .ref ax0_9, .ref ax0_10, .int xx0_11, .long xx0_12]))]) [0] rfl
    have hD9 := hD.sub (ws' := [(h0, .inr (0, [.ref ox0_0, .ref ax0_1, .long xx0_2, .ref ax0_3, .long xx0_4, .int xx0_5, .int xx0_6, .ref ax0_7, .ref ax0_8, .ref ax0_9, .ref ax0_10, .int xx0_11, .long xx0_12]))]) [0] (by decide) rfl
    have hK9 := hK.sub (tys' := []) [] rfl
    refine W.widen (k := 0) (n := 0) (Nat.le_of_ble_eq_true rfl) (Nat.le_of_ble_eq_true rfl) ?_
    exact W.zret (v := 0) hx hb hr rfl (fun t ht hW => ⟨⟨0, (), rfl, Or.inl (rfl), by rw [ht]; exact hP9, va_K.moved hW.alike hK9, hD9⟩, hS.F ht⟩) hS.2.2 dX0_isMiss_23
  · refine lv_iload_n hx hb dX0_isMiss_4 rfl (lv_at hl 1 rfl) ?_
    refine lv_aload_n hx hb dX0_isMiss_5 rfl (lv_at hl 0 rfl) ?_
    refine va_get (D := (dC, dI)) (ci := 0) (v := .int xx0_6) (C := RX0) (T := TX0) (N := 13) hx hb hts inlX0 hown hK hP 0 rfl rfl 6 (by decide) (hts (.fieldLink RX0 30 "ShapeReader$Matcher" "missCount" "I") mw_0_23) (fun _ h9 => h9) rfl dX0_isMiss_6 ?_
    refine lv_icmp_ge (tgt := 22) hx hb dX0_isMiss_9 (by decide) (fun c_2 => ?_) (fun c_2 => ?_)
    · refine lv_iconst (v := 0) hx hb dX0_isMiss_22 (by decide) ?_
      have hP9 := hP.sub (ws' := [(h0, .inr (0, [.ref ox0_0, .ref ax0_1, .long xx0_2, .ref ax0_3, .long xx0_4, .int xx0_5, .int xx0_6, .ref ax0_7, .ref ax0_8, .ref ax0_9, .ref ax0_10, .int xx0_11, .long xx0_12]))]) [0] rfl
      have hD9 := hD.sub (ws' := [(h0, .inr (0, [.ref ox0_0, .ref ax0_1, .long xx0_2, .ref ax0_3, .long xx0_4, .int xx0_5, .int xx0_6, .ref ax0_7, .ref ax0_8, .ref ax0_9, .ref ax0_10, .int xx0_11, .long xx0_12]))]) [0] (by decide) rfl
      have hK9 := hK.sub (tys' := []) [] rfl
      refine W.widen (k := 0) (n := 0) (Nat.le_of_ble_eq_true rfl) (Nat.le_of_ble_eq_true rfl) ?_
      exact W.zret (v := 0) hx hb hr rfl (fun t ht hW => ⟨⟨0, (), rfl, Or.inl (rfl), by rw [ht]; exact hP9, va_K.moved hW.alike hK9, hD9⟩, hS.F ht⟩) hS.2.2 dX0_isMiss_23
    · refine lv_iload_n hx hb dX0_isMiss_12 rfl (lv_at hl 1 rfl) ?_
      refine lv_bipush (v := 20) hx hb dX0_isMiss_13 (by decide) ?_
      refine lv_icmp_ge (tgt := 22) hx hb dX0_isMiss_15 (by decide) (fun c_3 => ?_) (fun c_3 => ?_)
      · refine lv_iconst (v := 0) hx hb dX0_isMiss_22 (by decide) ?_
        have hP9 := hP.sub (ws' := [(h0, .inr (0, [.ref ox0_0, .ref ax0_1, .long xx0_2, .ref ax0_3, .long xx0_4, .int xx0_5, .int xx0_6, .ref ax0_7, .ref ax0_8, .ref ax0_9, .ref ax0_10, .int xx0_11, .long xx0_12]))]) [0] rfl
        have hD9 := hD.sub (ws' := [(h0, .inr (0, [.ref ox0_0, .ref ax0_1, .long xx0_2, .ref ax0_3, .long xx0_4, .int xx0_5, .int xx0_6, .ref ax0_7, .ref ax0_8, .ref ax0_9, .ref ax0_10, .int xx0_11, .long xx0_12]))]) [0] (by decide) rfl
        have hK9 := hK.sub (tys' := []) [] rfl
        refine W.widen (k := 0) (n := 0) (Nat.le_of_ble_eq_true rfl) (Nat.le_of_ble_eq_true rfl) ?_
        exact W.zret (v := 0) hx hb hr rfl (fun t ht hW => ⟨⟨0, (), rfl, Or.inl (rfl), by rw [ht]; exact hP9, va_K.moved hW.alike hK9, hD9⟩, hS.F ht⟩) hS.2.2 dX0_isMiss_23
      · refine lv_iconst (v := 1) hx hb dX0_isMiss_18 (by decide) ?_
        refine lv_goto (tgt := 23) hx hb dX0_isMiss_19 (by decide) ?_
        have hP9 := hP.sub (ws' := [(h0, .inr (0, [.ref ox0_0, .ref ax0_1, .long xx0_2, .ref ax0_3, .long xx0_4, .int xx0_5, .int xx0_6, .ref ax0_7, .ref ax0_8, .ref ax0_9, .ref ax0_10, .int xx0_11, .long xx0_12]))]) [0] rfl
        have hD9 := hD.sub (ws' := [(h0, .inr (0, [.ref ox0_0, .ref ax0_1, .long xx0_2, .ref ax0_3, .long xx0_4, .int xx0_5, .int xx0_6, .ref ax0_7, .ref ax0_8, .ref ax0_9, .ref ax0_10, .int xx0_11, .long xx0_12]))]) [0] (by decide) rfl
        have hK9 := hK.sub (tys' := []) [] rfl
        refine W.widen (k := 0) (n := 0) (Nat.le_of_ble_eq_true rfl) (Nat.le_of_ble_eq_true rfl) ?_
        exact W.zret (v := 1) hx hb hr rfl (fun t ht hW => ⟨⟨1, (), rfl, Or.inr (⟨rfl, c_1, c_2, c_3⟩), by rw [ht]; exact hP9, va_K.moved hW.alike hK9, hD9⟩, hS.F ht⟩) hS.2.2 dX0_isMiss_23

set_option maxRecDepth 100000 in
set_option maxHeartbeats 4000000 in
theorem s_X0_missKind (l : Launch) (dC : Nat → ClassId) (dI : Nat → Nat → Nat) (h0 : Nat) (ox0_0 : Nat) (ax0_1 : Nat) (xx0_2 : Int64) (ax0_3 : Nat) (xx0_4 : Int64) (xx0_5 : Int32) (xx0_6 : Int32) (ax0_7 : Nat) (cx0_7 : ClassId) (fx0_7 : Nat → Int32) (ax0_8 : Nat) (ax0_9 : Nat) (ax0_10 : Nat) (xx0_11 : Int32) (xx0_12 : Int64) (p0 : Int32) (hi_xx0_6 : (0 : Int) ≤ xx0_6.toInt ∧ xx0_6.toInt ≤ (20 : Int)) (sz : Nat) : Met l yX0_missKind (.code yX0_missKind cX0_missKind 2 (some .int) :: pw) ({ frames := 1, cells := 0, slots := 0, locals := 21 }) (va_Pc [.ref h0, .int p0] (vPre dC dI [(h0, .inr (0, [.ref ox0_0, .ref ax0_1, .long xx0_2, .ref ax0_3, .long xx0_4, .int xx0_5, .int xx0_6, .ref ax0_7, .ref ax0_8, .ref ax0_9, .ref ax0_10, .int xx0_11, .long xx0_12])), (ax0_7, .inl (cx0_7, 20, .inl fx0_7))] [(cx0_7, .int)] sz)) (va_Qi (fun (r : Int32) (_ : Unit) => (r = (fx0_7 p0.toNatClampNeg)) ∨ (r = (-1))) (fun (_ : Unit) t => vPst dC dI (va_A [(h0, .inr (0, [.ref ox0_0, .ref ax0_1, .long xx0_2, .ref ax0_3, .long xx0_4, .int xx0_5, .int xx0_6, .ref ax0_7, .ref ax0_8, .ref ax0_9, .ref ax0_10, .int xx0_11, .long xx0_12])), (ax0_7, .inl (cx0_7, 20, .inl fx0_7))] sz) [(h0, .inr (0, [.ref ox0_0, .ref ax0_1, .long xx0_2, .ref ax0_3, .long xx0_4, .int xx0_5, .int xx0_6, .ref ax0_7, .ref ax0_8, .ref ax0_9, .ref ax0_10, .int xx0_11, .long xx0_12])), (ax0_7, .inl (cx0_7, 20, .inl fx0_7))] [(cx0_7, .int)] t) (va_A [(h0, .inr (0, [.ref ox0_0, .ref ax0_1, .long xx0_2, .ref ax0_3, .long xx0_4, .int xx0_5, .int xx0_6, .ref ax0_7, .ref ax0_8, .ref ax0_9, .ref ax0_10, .int xx0_11, .long xx0_12])), (ax0_7, .inl (cx0_7, 20, .inl fx0_7))] sz)) 0 0 (va_A [(h0, .inr (0, [.ref ox0_0, .ref ax0_1, .long xx0_2, .ref ax0_3, .long xx0_4, .int xx0_5, .int xx0_6, .ref ax0_7, .ref ax0_8, .ref ax0_9, .ref ax0_10, .int xx0_11, .long xx0_12])), (ax0_7, .inl (cx0_7, 20, .inl fx0_7))] sz) := by
  refine Met.ofW (cc := cX0_missKind) (maxL := 2) (ret := (some .int)) (by decide) rfl ?_
  intro p e s m args below meth c s₁ B hml hv
  obtain ⟨rfl, hsz, hP, hK, hD0, hN⟩ := hv
  have hx := B.exec
  have hb := B.bytes
  have hr := B.returns
  have hts := atoms_spec (ws := .code yX0_missKind cX0_missKind 2 (some .int) :: pw) B.pre
  have hts : ∀ w ∈ pw, w.before _ s = true := fun w h => hts w (List.mem_cons_of_mem _ h)
  have hown : s.vm.findClass RX0 = some m.cls := findClass_of_methodNamed B.named
  have hlocks := B.notSynchronized
  subst hsz
  have hD := hD0.self (sz := s.heap.size)
  generalize hAe : va_A [(h0, .inr (0, [.ref ox0_0, .ref ax0_1, .long xx0_2, .ref ax0_3, .long xx0_4, .int xx0_5, .int xx0_6, .ref ax0_7, .ref ax0_8, .ref ax0_9, .ref ax0_10, .int xx0_11, .long xx0_12])), (ax0_7, .inl (cx0_7, 20, .inl fx0_7))] s.heap.size = A at hD ⊢
  have hA : ∀ q : Nat, s.heap.size ≤ q → A q := fun q h => by rw [← hAe]; exact Or.inr h
  have hS : va_S A s.heap s.heap [] := va_S.rf
  have hP : va_P (dC, dI) vwCl [(h0, .inr (0, [.ref ox0_0, .ref ax0_1, .long xx0_2, .ref ax0_3, .long xx0_4, .int xx0_5, .int xx0_6, .ref ax0_7, .ref ax0_8, .ref ax0_9, .ref ax0_10, .int xx0_11, .long xx0_12])), (ax0_7, .inl (cx0_7, 20, .inl fx0_7))] s.heap := hP
  have hl := lv_entry ([.ref h0, .int p0]) (n := 2) (Nat.le_of_ble_eq_true rfl)
  rw [lg_entry_eq]
  generalize (lg_sl ([.ref h0, .int p0]) ++ List.replicate (2 - (lg_sl ([.ref h0, .int p0])).length) Slot.unset).toArray = ls at hl ⊢
  have hl : lv_has ls 2 [(0, .ref h0), (1, .int p0)] := hl
  refine lv_aload_n hx hb dX0_missKind_0 rfl (lv_at hl 0 rfl) ?_
  refine lv_iload_n hx hb dX0_missKind_1 rfl (lv_at hl 1 rfl) ?_
  have hPc := hP.sub (ws' := [(h0, .inr (0, [.ref ox0_0, .ref ax0_1, .long xx0_2, .ref ax0_3, .long xx0_4, .int xx0_5, .int xx0_6, .ref ax0_7, .ref ax0_8, .ref ax0_9, .ref ax0_10, .int xx0_11, .long xx0_12]))]) [0] rfl
  have hDc := hD.sub (ws' := [(h0, .inr (0, [.ref ox0_0, .ref ax0_1, .long xx0_2, .ref ax0_3, .long xx0_4, .int xx0_5, .int xx0_6, .ref ax0_7, .ref ax0_8, .ref ax0_9, .ref ax0_10, .int xx0_11, .long xx0_12]))]) [0] (by decide) rfl
  have hKc := hK.sub (tys' := []) [] rfl
  have hFc := va_free (wc := [(h0, .inr (0, [.ref ox0_0, .ref ax0_1, .long xx0_2, .ref ax0_3, .long xx0_4, .int xx0_5, .int xx0_6, .ref ax0_7, .ref ax0_8, .ref ax0_9, .ref ax0_10, .int xx0_11, .long xx0_12]))]) hD hS hA [0] rfl
  refine va_calli (va_runV (As := [.int p0]) (rest := []) ⟨hx, hb, hml, hown, hts⟩ (s_X0_isMiss l dC dI h0 ox0_0 ax0_1 xx0_2 ax0_3 xx0_4 xx0_5 xx0_6 ax0_7 ax0_8 ax0_9 ax0_10 xx0_11 xx0_12 p0 (by have a0 := hi_xx0_6.1; have a1 := hi_xx0_6.2; omega) s.heap.size) (cwV 1 hts (gV mw_3_29 mw_4_0 mw_4_1 mw_0_4 mw_46_23) rfl rfl rfl (by decide +kernel) ⟨(Nat.le_of_ble_eq_true rfl), (Nat.le_of_ble_eq_true rfl)⟩) (vV (ci := 0) (q0 := 0) hKc hPc hDc hN rfl rfl) rfl rfl hl.1 rfl (lv_room (Nat.le_of_ble_eq_true rfl)) dX0_missKind_2 ⟨(Nat.le_of_ble_eq_true rfl), (Nat.le_of_ble_eq_true rfl)⟩) hS (fun q _ h => hFc q h) hFc (fun r_1 u t H1 locs ht hvm hw hB hz1 hk1 hS => ?_)
  obtain ⟨hP1, hK1, hD1⟩ := hB
  rw [ht] at hP1
  have hK1 := va_K.moved hvm.symm hK1
  obtain ⟨hP, hD⟩ := va_join (wr := [(ax0_7, .inl (cx0_7, 20, .inl fx0_7))]) (w1 := [(h0, .inr (0, [.ref ox0_0, .ref ax0_1, .long xx0_2, .ref ax0_3, .long xx0_4, .int xx0_5, .int xx0_6, .ref ax0_7, .ref ax0_8, .ref ax0_9, .ref ax0_10, .int xx0_11, .long xx0_12]))]) hP hD [0] [1] rfl rfl (by decide) (by decide) hk1 hFc hP1 hD1
  clear hPc hDc hKc hP1 hK1 hD1 hFc hk1 hz1
  generalize H1 = H at hP hS ⊢
  have hP : va_P (dC, dI) vwCl [(ax0_7, .inl (cx0_7, 20, .inl fx0_7)), (h0, .inr (0, [.ref ox0_0, .ref ax0_1, .long xx0_2, .ref ax0_3, .long xx0_4, .int xx0_5, .int xx0_6, .ref ax0_7, .ref ax0_8, .ref ax0_9, .ref ax0_10, .int xx0_11, .long xx0_12]))] H := hP
  have hD : va_D A [(ax0_7, .inl (cx0_7, 20, .inl fx0_7)), (h0, .inr (0, [.ref ox0_0, .ref ax0_1, .long xx0_2, .ref ax0_3, .long xx0_4, .int xx0_5, .int xx0_6, .ref ax0_7, .ref ax0_8, .ref ax0_9, .ref ax0_10, .int xx0_11, .long xx0_12]))] := hD
  rcases hw with rfl | ⟨rfl, g_2, g_3, g_4⟩
  · refine lv_if_eq (tgt := 17) hx hb dX0_missKind_5 (by decide) (fun _ => ?_) (fun h => absurd (by decide) h)
    refine lv_iconst (v := (-1)) hx hb dX0_missKind_17 (by decide) ?_
    have hP9 := hP.sub (ws' := [(h0, .inr (0, [.ref ox0_0, .ref ax0_1, .long xx0_2, .ref ax0_3, .long xx0_4, .int xx0_5, .int xx0_6, .ref ax0_7, .ref ax0_8, .ref ax0_9, .ref ax0_10, .int xx0_11, .long xx0_12])), (ax0_7, .inl (cx0_7, 20, .inl fx0_7))]) [1, 0] rfl
    have hD9 := hD.sub (ws' := [(h0, .inr (0, [.ref ox0_0, .ref ax0_1, .long xx0_2, .ref ax0_3, .long xx0_4, .int xx0_5, .int xx0_6, .ref ax0_7, .ref ax0_8, .ref ax0_9, .ref ax0_10, .int xx0_11, .long xx0_12])), (ax0_7, .inl (cx0_7, 20, .inl fx0_7))]) [1, 0] (by decide) rfl
    have hK9 := hK.sub (tys' := [(cx0_7, .int)]) [0] rfl
    refine W.widen (k := 0) (n := 0) (Nat.le_of_ble_eq_true rfl) (Nat.le_of_ble_eq_true rfl) ?_
    exact W.iret (v := (-1)) hx hb hr (fun t ht hW => ⟨⟨(-1), (), rfl, Or.inr (rfl), by rw [ht]; exact hP9, va_K.moved hW.alike hK9, hD9⟩, hS.F ht⟩) hS.2.2 dX0_missKind_18
  · refine lv_if_eq (tgt := 17) hx hb dX0_missKind_5 (by decide) (fun h => absurd h (by decide)) (fun _ => ?_)
    refine lv_aload_n hx hb dX0_missKind_8 rfl (lv_at hl 0 rfl) ?_
    refine va_get (D := (dC, dI)) (ci := 0) (v := .ref ax0_7) (C := RX0) (T := TX0) (N := 13) hx hb hts inlX0 hown hK hP 1 rfl rfl 7 (by decide) (hts (.fieldLink RX0 33 "ShapeReader$Matcher" "missKinds" "[I") mw_0_24) (fun _ h9 => h9) rfl dX0_missKind_9 ?_
    refine lv_iload_n hx hb dX0_missKind_12 rfl (lv_at hl 1 rfl) ?_
    refine va_iald hx hb hK hP 0 0 rfl rfl (vp_in_iff.mpr (by have a0 := il_nlt g_2; have a1 := il_nle g_4; have e0 : (0 : Int32).toInt = 0 := (by decide); have e1 : (20 : Int32).toInt = 20 := (by decide); omega)) dX0_missKind_13 ?_
    refine lv_topi (fun x_7 ex_7 => ?_)
    refine lv_goto (tgt := 18) hx hb dX0_missKind_14 (by decide) ?_
    have hP9 := hP.sub (ws' := [(h0, .inr (0, [.ref ox0_0, .ref ax0_1, .long xx0_2, .ref ax0_3, .long xx0_4, .int xx0_5, .int xx0_6, .ref ax0_7, .ref ax0_8, .ref ax0_9, .ref ax0_10, .int xx0_11, .long xx0_12])), (ax0_7, .inl (cx0_7, 20, .inl fx0_7))]) [1, 0] rfl
    have hD9 := hD.sub (ws' := [(h0, .inr (0, [.ref ox0_0, .ref ax0_1, .long xx0_2, .ref ax0_3, .long xx0_4, .int xx0_5, .int xx0_6, .ref ax0_7, .ref ax0_8, .ref ax0_9, .ref ax0_10, .int xx0_11, .long xx0_12])), (ax0_7, .inl (cx0_7, 20, .inl fx0_7))]) [1, 0] (by decide) rfl
    have hK9 := hK.sub (tys' := [(cx0_7, .int)]) [0] rfl
    refine W.widen (k := 0) (n := 0) (Nat.le_of_ble_eq_true rfl) (Nat.le_of_ble_eq_true rfl) ?_
    exact W.iret (v := x_7) hx hb hr (fun t ht hW => ⟨⟨x_7, (), rfl, Or.inl ((by rw [ex_7])), by rw [ht]; exact hP9, va_K.moved hW.alike hK9, hD9⟩, hS.F ht⟩) hS.2.2 dX0_missKind_18

set_option maxRecDepth 100000 in
set_option maxHeartbeats 4000000 in
theorem s_X0_missSteps (l : Launch) (dC : Nat → ClassId) (dI : Nat → Nat → Nat) (h0 : Nat) (ox0_0 : Nat) (ax0_1 : Nat) (xx0_2 : Int64) (ax0_3 : Nat) (xx0_4 : Int64) (xx0_5 : Int32) (xx0_6 : Int32) (ax0_7 : Nat) (ax0_8 : Nat) (cx0_8 : ClassId) (fx0_8 : Nat → Int32) (ax0_9 : Nat) (ax0_10 : Nat) (xx0_11 : Int32) (xx0_12 : Int64) (p0 : Int32) (hi_xx0_6 : (0 : Int) ≤ xx0_6.toInt ∧ xx0_6.toInt ≤ (20 : Int)) (sz : Nat) : Met l yX0_missSteps (.code yX0_missSteps cX0_missSteps 2 (some .int) :: pw) ({ frames := 1, cells := 0, slots := 0, locals := 21 }) (va_Pc [.ref h0, .int p0] (vPre dC dI [(h0, .inr (0, [.ref ox0_0, .ref ax0_1, .long xx0_2, .ref ax0_3, .long xx0_4, .int xx0_5, .int xx0_6, .ref ax0_7, .ref ax0_8, .ref ax0_9, .ref ax0_10, .int xx0_11, .long xx0_12])), (ax0_8, .inl (cx0_8, 20, .inl fx0_8))] [(cx0_8, .int)] sz)) (va_Qi (fun (r : Int32) (_ : Unit) => (r = (fx0_8 p0.toNatClampNeg)) ∨ (r = (-1))) (fun (_ : Unit) t => vPst dC dI (va_A [(h0, .inr (0, [.ref ox0_0, .ref ax0_1, .long xx0_2, .ref ax0_3, .long xx0_4, .int xx0_5, .int xx0_6, .ref ax0_7, .ref ax0_8, .ref ax0_9, .ref ax0_10, .int xx0_11, .long xx0_12])), (ax0_8, .inl (cx0_8, 20, .inl fx0_8))] sz) [(h0, .inr (0, [.ref ox0_0, .ref ax0_1, .long xx0_2, .ref ax0_3, .long xx0_4, .int xx0_5, .int xx0_6, .ref ax0_7, .ref ax0_8, .ref ax0_9, .ref ax0_10, .int xx0_11, .long xx0_12])), (ax0_8, .inl (cx0_8, 20, .inl fx0_8))] [(cx0_8, .int)] t) (va_A [(h0, .inr (0, [.ref ox0_0, .ref ax0_1, .long xx0_2, .ref ax0_3, .long xx0_4, .int xx0_5, .int xx0_6, .ref ax0_7, .ref ax0_8, .ref ax0_9, .ref ax0_10, .int xx0_11, .long xx0_12])), (ax0_8, .inl (cx0_8, 20, .inl fx0_8))] sz)) 0 0 (va_A [(h0, .inr (0, [.ref ox0_0, .ref ax0_1, .long xx0_2, .ref ax0_3, .long xx0_4, .int xx0_5, .int xx0_6, .ref ax0_7, .ref ax0_8, .ref ax0_9, .ref ax0_10, .int xx0_11, .long xx0_12])), (ax0_8, .inl (cx0_8, 20, .inl fx0_8))] sz) := by
  refine Met.ofW (cc := cX0_missSteps) (maxL := 2) (ret := (some .int)) (by decide) rfl ?_
  intro p e s m args below meth c s₁ B hml hv
  obtain ⟨rfl, hsz, hP, hK, hD0, hN⟩ := hv
  have hx := B.exec
  have hb := B.bytes
  have hr := B.returns
  have hts := atoms_spec (ws := .code yX0_missSteps cX0_missSteps 2 (some .int) :: pw) B.pre
  have hts : ∀ w ∈ pw, w.before _ s = true := fun w h => hts w (List.mem_cons_of_mem _ h)
  have hown : s.vm.findClass RX0 = some m.cls := findClass_of_methodNamed B.named
  have hlocks := B.notSynchronized
  subst hsz
  have hD := hD0.self (sz := s.heap.size)
  generalize hAe : va_A [(h0, .inr (0, [.ref ox0_0, .ref ax0_1, .long xx0_2, .ref ax0_3, .long xx0_4, .int xx0_5, .int xx0_6, .ref ax0_7, .ref ax0_8, .ref ax0_9, .ref ax0_10, .int xx0_11, .long xx0_12])), (ax0_8, .inl (cx0_8, 20, .inl fx0_8))] s.heap.size = A at hD ⊢
  have hA : ∀ q : Nat, s.heap.size ≤ q → A q := fun q h => by rw [← hAe]; exact Or.inr h
  have hS : va_S A s.heap s.heap [] := va_S.rf
  have hP : va_P (dC, dI) vwCl [(h0, .inr (0, [.ref ox0_0, .ref ax0_1, .long xx0_2, .ref ax0_3, .long xx0_4, .int xx0_5, .int xx0_6, .ref ax0_7, .ref ax0_8, .ref ax0_9, .ref ax0_10, .int xx0_11, .long xx0_12])), (ax0_8, .inl (cx0_8, 20, .inl fx0_8))] s.heap := hP
  have hl := lv_entry ([.ref h0, .int p0]) (n := 2) (Nat.le_of_ble_eq_true rfl)
  rw [lg_entry_eq]
  generalize (lg_sl ([.ref h0, .int p0]) ++ List.replicate (2 - (lg_sl ([.ref h0, .int p0])).length) Slot.unset).toArray = ls at hl ⊢
  have hl : lv_has ls 2 [(0, .ref h0), (1, .int p0)] := hl
  refine lv_aload_n hx hb dX0_missSteps_0 rfl (lv_at hl 0 rfl) ?_
  refine lv_iload_n hx hb dX0_missSteps_1 rfl (lv_at hl 1 rfl) ?_
  have hPc := hP.sub (ws' := [(h0, .inr (0, [.ref ox0_0, .ref ax0_1, .long xx0_2, .ref ax0_3, .long xx0_4, .int xx0_5, .int xx0_6, .ref ax0_7, .ref ax0_8, .ref ax0_9, .ref ax0_10, .int xx0_11, .long xx0_12]))]) [0] rfl
  have hDc := hD.sub (ws' := [(h0, .inr (0, [.ref ox0_0, .ref ax0_1, .long xx0_2, .ref ax0_3, .long xx0_4, .int xx0_5, .int xx0_6, .ref ax0_7, .ref ax0_8, .ref ax0_9, .ref ax0_10, .int xx0_11, .long xx0_12]))]) [0] (by decide) rfl
  have hKc := hK.sub (tys' := []) [] rfl
  have hFc := va_free (wc := [(h0, .inr (0, [.ref ox0_0, .ref ax0_1, .long xx0_2, .ref ax0_3, .long xx0_4, .int xx0_5, .int xx0_6, .ref ax0_7, .ref ax0_8, .ref ax0_9, .ref ax0_10, .int xx0_11, .long xx0_12]))]) hD hS hA [0] rfl
  refine va_calli (va_runV (As := [.int p0]) (rest := []) ⟨hx, hb, hml, hown, hts⟩ (s_X0_isMiss l dC dI h0 ox0_0 ax0_1 xx0_2 ax0_3 xx0_4 xx0_5 xx0_6 ax0_7 ax0_8 ax0_9 ax0_10 xx0_11 xx0_12 p0 (by have a0 := hi_xx0_6.1; have a1 := hi_xx0_6.2; omega) s.heap.size) (cwV 1 hts (gV mw_3_29 mw_4_0 mw_4_1 mw_0_4 mw_46_23) rfl rfl rfl (by decide +kernel) ⟨(Nat.le_of_ble_eq_true rfl), (Nat.le_of_ble_eq_true rfl)⟩) (vV (ci := 0) (q0 := 0) hKc hPc hDc hN rfl rfl) rfl rfl hl.1 rfl (lv_room (Nat.le_of_ble_eq_true rfl)) dX0_missSteps_2 ⟨(Nat.le_of_ble_eq_true rfl), (Nat.le_of_ble_eq_true rfl)⟩) hS (fun q _ h => hFc q h) hFc (fun r_1 u t H1 locs ht hvm hw hB hz1 hk1 hS => ?_)
  obtain ⟨hP1, hK1, hD1⟩ := hB
  rw [ht] at hP1
  have hK1 := va_K.moved hvm.symm hK1
  obtain ⟨hP, hD⟩ := va_join (wr := [(ax0_8, .inl (cx0_8, 20, .inl fx0_8))]) (w1 := [(h0, .inr (0, [.ref ox0_0, .ref ax0_1, .long xx0_2, .ref ax0_3, .long xx0_4, .int xx0_5, .int xx0_6, .ref ax0_7, .ref ax0_8, .ref ax0_9, .ref ax0_10, .int xx0_11, .long xx0_12]))]) hP hD [0] [1] rfl rfl (by decide) (by decide) hk1 hFc hP1 hD1
  clear hPc hDc hKc hP1 hK1 hD1 hFc hk1 hz1
  generalize H1 = H at hP hS ⊢
  have hP : va_P (dC, dI) vwCl [(ax0_8, .inl (cx0_8, 20, .inl fx0_8)), (h0, .inr (0, [.ref ox0_0, .ref ax0_1, .long xx0_2, .ref ax0_3, .long xx0_4, .int xx0_5, .int xx0_6, .ref ax0_7, .ref ax0_8, .ref ax0_9, .ref ax0_10, .int xx0_11, .long xx0_12]))] H := hP
  have hD : va_D A [(ax0_8, .inl (cx0_8, 20, .inl fx0_8)), (h0, .inr (0, [.ref ox0_0, .ref ax0_1, .long xx0_2, .ref ax0_3, .long xx0_4, .int xx0_5, .int xx0_6, .ref ax0_7, .ref ax0_8, .ref ax0_9, .ref ax0_10, .int xx0_11, .long xx0_12]))] := hD
  rcases hw with rfl | ⟨rfl, g_2, g_3, g_4⟩
  · refine lv_if_eq (tgt := 17) hx hb dX0_missSteps_5 (by decide) (fun _ => ?_) (fun h => absurd (by decide) h)
    refine lv_iconst (v := (-1)) hx hb dX0_missSteps_17 (by decide) ?_
    have hP9 := hP.sub (ws' := [(h0, .inr (0, [.ref ox0_0, .ref ax0_1, .long xx0_2, .ref ax0_3, .long xx0_4, .int xx0_5, .int xx0_6, .ref ax0_7, .ref ax0_8, .ref ax0_9, .ref ax0_10, .int xx0_11, .long xx0_12])), (ax0_8, .inl (cx0_8, 20, .inl fx0_8))]) [1, 0] rfl
    have hD9 := hD.sub (ws' := [(h0, .inr (0, [.ref ox0_0, .ref ax0_1, .long xx0_2, .ref ax0_3, .long xx0_4, .int xx0_5, .int xx0_6, .ref ax0_7, .ref ax0_8, .ref ax0_9, .ref ax0_10, .int xx0_11, .long xx0_12])), (ax0_8, .inl (cx0_8, 20, .inl fx0_8))]) [1, 0] (by decide) rfl
    have hK9 := hK.sub (tys' := [(cx0_8, .int)]) [0] rfl
    refine W.widen (k := 0) (n := 0) (Nat.le_of_ble_eq_true rfl) (Nat.le_of_ble_eq_true rfl) ?_
    exact W.iret (v := (-1)) hx hb hr (fun t ht hW => ⟨⟨(-1), (), rfl, Or.inr (rfl), by rw [ht]; exact hP9, va_K.moved hW.alike hK9, hD9⟩, hS.F ht⟩) hS.2.2 dX0_missSteps_18
  · refine lv_if_eq (tgt := 17) hx hb dX0_missSteps_5 (by decide) (fun h => absurd h (by decide)) (fun _ => ?_)
    refine lv_aload_n hx hb dX0_missSteps_8 rfl (lv_at hl 0 rfl) ?_
    refine va_get (D := (dC, dI)) (ci := 0) (v := .ref ax0_8) (C := RX0) (T := TX0) (N := 13) hx hb hts inlX0 hown hK hP 1 rfl rfl 8 (by decide) (hts (.fieldLink RX0 36 "ShapeReader$Matcher" "missSizes" "[I") mw_0_25) (fun _ h9 => h9) rfl dX0_missSteps_9 ?_
    refine lv_iload_n hx hb dX0_missSteps_12 rfl (lv_at hl 1 rfl) ?_
    refine va_iald hx hb hK hP 0 0 rfl rfl (vp_in_iff.mpr (by have a0 := il_nlt g_2; have a1 := il_nle g_4; have e0 : (0 : Int32).toInt = 0 := (by decide); have e1 : (20 : Int32).toInt = 20 := (by decide); omega)) dX0_missSteps_13 ?_
    refine lv_topi (fun x_7 ex_7 => ?_)
    refine lv_goto (tgt := 18) hx hb dX0_missSteps_14 (by decide) ?_
    have hP9 := hP.sub (ws' := [(h0, .inr (0, [.ref ox0_0, .ref ax0_1, .long xx0_2, .ref ax0_3, .long xx0_4, .int xx0_5, .int xx0_6, .ref ax0_7, .ref ax0_8, .ref ax0_9, .ref ax0_10, .int xx0_11, .long xx0_12])), (ax0_8, .inl (cx0_8, 20, .inl fx0_8))]) [1, 0] rfl
    have hD9 := hD.sub (ws' := [(h0, .inr (0, [.ref ox0_0, .ref ax0_1, .long xx0_2, .ref ax0_3, .long xx0_4, .int xx0_5, .int xx0_6, .ref ax0_7, .ref ax0_8, .ref ax0_9, .ref ax0_10, .int xx0_11, .long xx0_12])), (ax0_8, .inl (cx0_8, 20, .inl fx0_8))]) [1, 0] (by decide) rfl
    have hK9 := hK.sub (tys' := [(cx0_8, .int)]) [0] rfl
    refine W.widen (k := 0) (n := 0) (Nat.le_of_ble_eq_true rfl) (Nat.le_of_ble_eq_true rfl) ?_
    exact W.iret (v := x_7) hx hb hr (fun t ht hW => ⟨⟨x_7, (), rfl, Or.inl ((by rw [ex_7])), by rw [ht]; exact hP9, va_K.moved hW.alike hK9, hD9⟩, hS.F ht⟩) hS.2.2 dX0_missSteps_18

set_option maxRecDepth 100000 in
set_option maxHeartbeats 4000000 in
theorem s_X0_stepOfMiss (l : Launch) (dC : Nat → ClassId) (dI : Nat → Nat → Nat) (h0 : Nat) (ox0_0 : Nat) (ax0_1 : Nat) (xx0_2 : Int64) (ax0_3 : Nat) (xx0_4 : Int64) (xx0_5 : Int32) (xx0_6 : Int32) (ax0_7 : Nat) (ax0_8 : Nat) (cx0_8 : ClassId) (fx0_8 : Nat → Int32) (ax0_9 : Nat) (cx0_9 : ClassId) (fx0_9 : Nat → Int32) (ax0_10 : Nat) (xx0_11 : Int32) (xx0_12 : Int64) (p0 : Int32) (p1 : Int32) (hi_xx0_6 : (0 : Int) ≤ xx0_6.toInt ∧ xx0_6.toInt ≤ (20 : Int)) (sz : Nat) : Met l yX0_stepOfMiss (.code yX0_stepOfMiss cX0_stepOfMiss 3 (some .int) :: pw) ({ frames := 1, cells := 0, slots := 0, locals := 21 }) (va_Pc [.ref h0, .int p0, .int p1] (vPre dC dI [(h0, .inr (0, [.ref ox0_0, .ref ax0_1, .long xx0_2, .ref ax0_3, .long xx0_4, .int xx0_5, .int xx0_6, .ref ax0_7, .ref ax0_8, .ref ax0_9, .ref ax0_10, .int xx0_11, .long xx0_12])), (ax0_8, .inl (cx0_8, 20, .inl fx0_8)), (ax0_9, .inl (cx0_9, 640, .inl fx0_9))] [(cx0_8, .int), (cx0_9, .int)] sz)) (va_Qi (fun (r : Int32) (_ : Unit) => (r = (fx0_9 ((p0 * 32) + p1).toNatClampNeg) ∧ ¬ p1 < 0 ∧ ¬ 32 ≤ p1) ∨ (r = (-1))) (fun (_ : Unit) t => vPst dC dI (va_A [(h0, .inr (0, [.ref ox0_0, .ref ax0_1, .long xx0_2, .ref ax0_3, .long xx0_4, .int xx0_5, .int xx0_6, .ref ax0_7, .ref ax0_8, .ref ax0_9, .ref ax0_10, .int xx0_11, .long xx0_12])), (ax0_8, .inl (cx0_8, 20, .inl fx0_8)), (ax0_9, .inl (cx0_9, 640, .inl fx0_9))] sz) [(h0, .inr (0, [.ref ox0_0, .ref ax0_1, .long xx0_2, .ref ax0_3, .long xx0_4, .int xx0_5, .int xx0_6, .ref ax0_7, .ref ax0_8, .ref ax0_9, .ref ax0_10, .int xx0_11, .long xx0_12])), (ax0_8, .inl (cx0_8, 20, .inl fx0_8)), (ax0_9, .inl (cx0_9, 640, .inl fx0_9))] [(cx0_8, .int), (cx0_9, .int)] t) (va_A [(h0, .inr (0, [.ref ox0_0, .ref ax0_1, .long xx0_2, .ref ax0_3, .long xx0_4, .int xx0_5, .int xx0_6, .ref ax0_7, .ref ax0_8, .ref ax0_9, .ref ax0_10, .int xx0_11, .long xx0_12])), (ax0_8, .inl (cx0_8, 20, .inl fx0_8)), (ax0_9, .inl (cx0_9, 640, .inl fx0_9))] sz)) 0 0 (va_A [(h0, .inr (0, [.ref ox0_0, .ref ax0_1, .long xx0_2, .ref ax0_3, .long xx0_4, .int xx0_5, .int xx0_6, .ref ax0_7, .ref ax0_8, .ref ax0_9, .ref ax0_10, .int xx0_11, .long xx0_12])), (ax0_8, .inl (cx0_8, 20, .inl fx0_8)), (ax0_9, .inl (cx0_9, 640, .inl fx0_9))] sz) := by
  refine Met.ofW (cc := cX0_stepOfMiss) (maxL := 3) (ret := (some .int)) (by decide) rfl ?_
  intro p e s m args below meth c s₁ B hml hv
  obtain ⟨rfl, hsz, hP, hK, hD0, hN⟩ := hv
  have hx := B.exec
  have hb := B.bytes
  have hr := B.returns
  have hts := atoms_spec (ws := .code yX0_stepOfMiss cX0_stepOfMiss 3 (some .int) :: pw) B.pre
  have hts : ∀ w ∈ pw, w.before _ s = true := fun w h => hts w (List.mem_cons_of_mem _ h)
  have hown : s.vm.findClass RX0 = some m.cls := findClass_of_methodNamed B.named
  have hlocks := B.notSynchronized
  subst hsz
  have hD := hD0.self (sz := s.heap.size)
  generalize hAe : va_A [(h0, .inr (0, [.ref ox0_0, .ref ax0_1, .long xx0_2, .ref ax0_3, .long xx0_4, .int xx0_5, .int xx0_6, .ref ax0_7, .ref ax0_8, .ref ax0_9, .ref ax0_10, .int xx0_11, .long xx0_12])), (ax0_8, .inl (cx0_8, 20, .inl fx0_8)), (ax0_9, .inl (cx0_9, 640, .inl fx0_9))] s.heap.size = A at hD ⊢
  have hA : ∀ q : Nat, s.heap.size ≤ q → A q := fun q h => by rw [← hAe]; exact Or.inr h
  have hS : va_S A s.heap s.heap [] := va_S.rf
  have hP : va_P (dC, dI) vwCl [(h0, .inr (0, [.ref ox0_0, .ref ax0_1, .long xx0_2, .ref ax0_3, .long xx0_4, .int xx0_5, .int xx0_6, .ref ax0_7, .ref ax0_8, .ref ax0_9, .ref ax0_10, .int xx0_11, .long xx0_12])), (ax0_8, .inl (cx0_8, 20, .inl fx0_8)), (ax0_9, .inl (cx0_9, 640, .inl fx0_9))] s.heap := hP
  have hl := lv_entry ([.ref h0, .int p0, .int p1]) (n := 3) (Nat.le_of_ble_eq_true rfl)
  rw [lg_entry_eq]
  generalize (lg_sl ([.ref h0, .int p0, .int p1]) ++ List.replicate (3 - (lg_sl ([.ref h0, .int p0, .int p1])).length) Slot.unset).toArray = ls at hl ⊢
  have hl : lv_has ls 3 [(0, .ref h0), (1, .int p0), (2, .int p1)] := hl
  refine lv_aload_n hx hb dX0_stepOfMiss_0 rfl (lv_at hl 0 rfl) ?_
  refine lv_iload_n hx hb dX0_stepOfMiss_1 rfl (lv_at hl 1 rfl) ?_
  have hPc := hP.sub (ws' := [(h0, .inr (0, [.ref ox0_0, .ref ax0_1, .long xx0_2, .ref ax0_3, .long xx0_4, .int xx0_5, .int xx0_6, .ref ax0_7, .ref ax0_8, .ref ax0_9, .ref ax0_10, .int xx0_11, .long xx0_12]))]) [0] rfl
  have hDc := hD.sub (ws' := [(h0, .inr (0, [.ref ox0_0, .ref ax0_1, .long xx0_2, .ref ax0_3, .long xx0_4, .int xx0_5, .int xx0_6, .ref ax0_7, .ref ax0_8, .ref ax0_9, .ref ax0_10, .int xx0_11, .long xx0_12]))]) [0] (by decide) rfl
  have hKc := hK.sub (tys' := []) [] rfl
  have hFc := va_free (wc := [(h0, .inr (0, [.ref ox0_0, .ref ax0_1, .long xx0_2, .ref ax0_3, .long xx0_4, .int xx0_5, .int xx0_6, .ref ax0_7, .ref ax0_8, .ref ax0_9, .ref ax0_10, .int xx0_11, .long xx0_12]))]) hD hS hA [0] rfl
  refine va_calli (va_runV (As := [.int p0]) (rest := []) ⟨hx, hb, hml, hown, hts⟩ (s_X0_isMiss l dC dI h0 ox0_0 ax0_1 xx0_2 ax0_3 xx0_4 xx0_5 xx0_6 ax0_7 ax0_8 ax0_9 ax0_10 xx0_11 xx0_12 p0 (by have a0 := hi_xx0_6.1; have a1 := hi_xx0_6.2; omega) s.heap.size) (cwV 1 hts (gV mw_3_29 mw_4_0 mw_4_1 mw_0_4 mw_46_23) rfl rfl rfl (by decide +kernel) ⟨(Nat.le_of_ble_eq_true rfl), (Nat.le_of_ble_eq_true rfl)⟩) (vV (ci := 0) (q0 := 0) hKc hPc hDc hN rfl rfl) rfl rfl hl.1 rfl (lv_room (Nat.le_of_ble_eq_true rfl)) dX0_stepOfMiss_2 ⟨(Nat.le_of_ble_eq_true rfl), (Nat.le_of_ble_eq_true rfl)⟩) hS (fun q _ h => hFc q h) hFc (fun r_1 u t H1 locs ht hvm hw hB hz1 hk1 hS => ?_)
  obtain ⟨hP1, hK1, hD1⟩ := hB
  rw [ht] at hP1
  have hK1 := va_K.moved hvm.symm hK1
  obtain ⟨hP, hD⟩ := va_join (wr := [(ax0_8, .inl (cx0_8, 20, .inl fx0_8)), (ax0_9, .inl (cx0_9, 640, .inl fx0_9))]) (w1 := [(h0, .inr (0, [.ref ox0_0, .ref ax0_1, .long xx0_2, .ref ax0_3, .long xx0_4, .int xx0_5, .int xx0_6, .ref ax0_7, .ref ax0_8, .ref ax0_9, .ref ax0_10, .int xx0_11, .long xx0_12]))]) hP hD [0] [1, 2] rfl rfl (by decide) (by decide) hk1 hFc hP1 hD1
  clear hPc hDc hKc hP1 hK1 hD1 hFc hk1 hz1
  generalize H1 = H at hP hS ⊢
  have hP : va_P (dC, dI) vwCl [(ax0_8, .inl (cx0_8, 20, .inl fx0_8)), (ax0_9, .inl (cx0_9, 640, .inl fx0_9)), (h0, .inr (0, [.ref ox0_0, .ref ax0_1, .long xx0_2, .ref ax0_3, .long xx0_4, .int xx0_5, .int xx0_6, .ref ax0_7, .ref ax0_8, .ref ax0_9, .ref ax0_10, .int xx0_11, .long xx0_12]))] H := hP
  have hD : va_D A [(ax0_8, .inl (cx0_8, 20, .inl fx0_8)), (ax0_9, .inl (cx0_9, 640, .inl fx0_9)), (h0, .inr (0, [.ref ox0_0, .ref ax0_1, .long xx0_2, .ref ax0_3, .long xx0_4, .int xx0_5, .int xx0_6, .ref ax0_7, .ref ax0_8, .ref ax0_9, .ref ax0_10, .int xx0_11, .long xx0_12]))] := hD
  rcases hw with rfl | ⟨rfl, g_2, g_3, g_4⟩
  · refine lv_if_eq (tgt := 42) hx hb dX0_stepOfMiss_5 (by decide) (fun _ => ?_) (fun h => absurd (by decide) h)
    refine lv_iconst (v := (-1)) hx hb dX0_stepOfMiss_42 (by decide) ?_
    have hP9 := hP.sub (ws' := [(h0, .inr (0, [.ref ox0_0, .ref ax0_1, .long xx0_2, .ref ax0_3, .long xx0_4, .int xx0_5, .int xx0_6, .ref ax0_7, .ref ax0_8, .ref ax0_9, .ref ax0_10, .int xx0_11, .long xx0_12])), (ax0_8, .inl (cx0_8, 20, .inl fx0_8)), (ax0_9, .inl (cx0_9, 640, .inl fx0_9))]) [2, 0, 1] rfl
    have hD9 := hD.sub (ws' := [(h0, .inr (0, [.ref ox0_0, .ref ax0_1, .long xx0_2, .ref ax0_3, .long xx0_4, .int xx0_5, .int xx0_6, .ref ax0_7, .ref ax0_8, .ref ax0_9, .ref ax0_10, .int xx0_11, .long xx0_12])), (ax0_8, .inl (cx0_8, 20, .inl fx0_8)), (ax0_9, .inl (cx0_9, 640, .inl fx0_9))]) [2, 0, 1] (by decide) rfl
    have hK9 := hK.sub (tys' := [(cx0_8, .int), (cx0_9, .int)]) [0, 1] rfl
    refine W.widen (k := 0) (n := 0) (Nat.le_of_ble_eq_true rfl) (Nat.le_of_ble_eq_true rfl) ?_
    exact W.iret (v := (-1)) hx hb hr (fun t ht hW => ⟨⟨(-1), (), rfl, Or.inr (rfl), by rw [ht]; exact hP9, va_K.moved hW.alike hK9, hD9⟩, hS.F ht⟩) hS.2.2 dX0_stepOfMiss_43
  · refine lv_if_eq (tgt := 42) hx hb dX0_stepOfMiss_5 (by decide) (fun h => absurd h (by decide)) (fun _ => ?_)
    refine lv_iload_n hx hb dX0_stepOfMiss_8 rfl (lv_at hl 2 rfl) ?_
    refine lv_if_lt (tgt := 42) hx hb dX0_stepOfMiss_9 (by decide) (fun c_7 => ?_) (fun c_7 => ?_)
    · refine lv_iconst (v := (-1)) hx hb dX0_stepOfMiss_42 (by decide) ?_
      have hP9 := hP.sub (ws' := [(h0, .inr (0, [.ref ox0_0, .ref ax0_1, .long xx0_2, .ref ax0_3, .long xx0_4, .int xx0_5, .int xx0_6, .ref ax0_7, .ref ax0_8, .ref ax0_9, .ref ax0_10, .int xx0_11, .long xx0_12])), (ax0_8, .inl (cx0_8, 20, .inl fx0_8)), (ax0_9, .inl (cx0_9, 640, .inl fx0_9))]) [2, 0, 1] rfl
      have hD9 := hD.sub (ws' := [(h0, .inr (0, [.ref ox0_0, .ref ax0_1, .long xx0_2, .ref ax0_3, .long xx0_4, .int xx0_5, .int xx0_6, .ref ax0_7, .ref ax0_8, .ref ax0_9, .ref ax0_10, .int xx0_11, .long xx0_12])), (ax0_8, .inl (cx0_8, 20, .inl fx0_8)), (ax0_9, .inl (cx0_9, 640, .inl fx0_9))]) [2, 0, 1] (by decide) rfl
      have hK9 := hK.sub (tys' := [(cx0_8, .int), (cx0_9, .int)]) [0, 1] rfl
      refine W.widen (k := 0) (n := 0) (Nat.le_of_ble_eq_true rfl) (Nat.le_of_ble_eq_true rfl) ?_
      exact W.iret (v := (-1)) hx hb hr (fun t ht hW => ⟨⟨(-1), (), rfl, Or.inr (rfl), by rw [ht]; exact hP9, va_K.moved hW.alike hK9, hD9⟩, hS.F ht⟩) hS.2.2 dX0_stepOfMiss_43
    · refine lv_iload_n hx hb dX0_stepOfMiss_12 rfl (lv_at hl 2 rfl) ?_
      refine lv_aload_n hx hb dX0_stepOfMiss_13 rfl (lv_at hl 0 rfl) ?_
      refine va_get (D := (dC, dI)) (ci := 0) (v := .ref ax0_8) (C := RX0) (T := TX0) (N := 13) hx hb hts inlX0 hown hK hP 2 rfl rfl 8 (by decide) (hts (.fieldLink RX0 36 "ShapeReader$Matcher" "missSizes" "[I") mw_0_25) (fun _ h9 => h9) rfl dX0_stepOfMiss_14 ?_
      refine lv_iload_n hx hb dX0_stepOfMiss_17 rfl (lv_at hl 1 rfl) ?_
      refine va_iald hx hb hK hP 0 0 rfl rfl (vp_in_iff.mpr (by have a0 := il_nlt g_2; have a1 := il_nle g_4; have e0 : (0 : Int32).toInt = 0 := (by decide); have e1 : (20 : Int32).toInt = 20 := (by decide); omega)) dX0_stepOfMiss_18 ?_
      refine lv_topi (fun x_8 ex_8 => ?_)
      refine lv_icmp_ge (tgt := 42) hx hb dX0_stepOfMiss_19 (by decide) (fun c_9 => ?_) (fun c_9 => ?_)
      · refine lv_iconst (v := (-1)) hx hb dX0_stepOfMiss_42 (by decide) ?_
        have hP9 := hP.sub (ws' := [(h0, .inr (0, [.ref ox0_0, .ref ax0_1, .long xx0_2, .ref ax0_3, .long xx0_4, .int xx0_5, .int xx0_6, .ref ax0_7, .ref ax0_8, .ref ax0_9, .ref ax0_10, .int xx0_11, .long xx0_12])), (ax0_8, .inl (cx0_8, 20, .inl fx0_8)), (ax0_9, .inl (cx0_9, 640, .inl fx0_9))]) [2, 0, 1] rfl
        have hD9 := hD.sub (ws' := [(h0, .inr (0, [.ref ox0_0, .ref ax0_1, .long xx0_2, .ref ax0_3, .long xx0_4, .int xx0_5, .int xx0_6, .ref ax0_7, .ref ax0_8, .ref ax0_9, .ref ax0_10, .int xx0_11, .long xx0_12])), (ax0_8, .inl (cx0_8, 20, .inl fx0_8)), (ax0_9, .inl (cx0_9, 640, .inl fx0_9))]) [2, 0, 1] (by decide) rfl
        have hK9 := hK.sub (tys' := [(cx0_8, .int), (cx0_9, .int)]) [0, 1] rfl
        refine W.widen (k := 0) (n := 0) (Nat.le_of_ble_eq_true rfl) (Nat.le_of_ble_eq_true rfl) ?_
        exact W.iret (v := (-1)) hx hb hr (fun t ht hW => ⟨⟨(-1), (), rfl, Or.inr (rfl), by rw [ht]; exact hP9, va_K.moved hW.alike hK9, hD9⟩, hS.F ht⟩) hS.2.2 dX0_stepOfMiss_43
      · refine lv_iload_n hx hb dX0_stepOfMiss_22 rfl (lv_at hl 2 rfl) ?_
        refine lv_bipush (v := 32) hx hb dX0_stepOfMiss_23 (by decide) ?_
        refine lv_icmp_ge (tgt := 42) hx hb dX0_stepOfMiss_25 (by decide) (fun c_10 => ?_) (fun c_10 => ?_)
        · refine lv_iconst (v := (-1)) hx hb dX0_stepOfMiss_42 (by decide) ?_
          have hP9 := hP.sub (ws' := [(h0, .inr (0, [.ref ox0_0, .ref ax0_1, .long xx0_2, .ref ax0_3, .long xx0_4, .int xx0_5, .int xx0_6, .ref ax0_7, .ref ax0_8, .ref ax0_9, .ref ax0_10, .int xx0_11, .long xx0_12])), (ax0_8, .inl (cx0_8, 20, .inl fx0_8)), (ax0_9, .inl (cx0_9, 640, .inl fx0_9))]) [2, 0, 1] rfl
          have hD9 := hD.sub (ws' := [(h0, .inr (0, [.ref ox0_0, .ref ax0_1, .long xx0_2, .ref ax0_3, .long xx0_4, .int xx0_5, .int xx0_6, .ref ax0_7, .ref ax0_8, .ref ax0_9, .ref ax0_10, .int xx0_11, .long xx0_12])), (ax0_8, .inl (cx0_8, 20, .inl fx0_8)), (ax0_9, .inl (cx0_9, 640, .inl fx0_9))]) [2, 0, 1] (by decide) rfl
          have hK9 := hK.sub (tys' := [(cx0_8, .int), (cx0_9, .int)]) [0, 1] rfl
          refine W.widen (k := 0) (n := 0) (Nat.le_of_ble_eq_true rfl) (Nat.le_of_ble_eq_true rfl) ?_
          exact W.iret (v := (-1)) hx hb hr (fun t ht hW => ⟨⟨(-1), (), rfl, Or.inr (rfl), by rw [ht]; exact hP9, va_K.moved hW.alike hK9, hD9⟩, hS.F ht⟩) hS.2.2 dX0_stepOfMiss_43
        · refine lv_aload_n hx hb dX0_stepOfMiss_28 rfl (lv_at hl 0 rfl) ?_
          refine va_get (D := (dC, dI)) (ci := 0) (v := .ref ax0_9) (C := RX0) (T := TX0) (N := 13) hx hb hts inlX0 hown hK hP 2 rfl rfl 9 (by decide) (hts (.fieldLink RX0 39 "ShapeReader$Matcher" "missPaths" "[I") mw_0_26) (fun _ h9 => h9) rfl dX0_stepOfMiss_29 ?_
          refine lv_iload_n hx hb dX0_stepOfMiss_32 rfl (lv_at hl 1 rfl) ?_
          refine lv_bipush (v := 32) hx hb dX0_stepOfMiss_33 (by decide) ?_
          refine lv_imul hx hb dX0_stepOfMiss_35 ?_
          refine lv_topi (fun x_11 ex_11 => ?_)
          have bx_11 : (0 : Int) ≤ x_11.toInt ∧ x_11.toInt ≤ (608 : Int) := by have r0 := il_rng p0; have a0 := il_nlt g_2; have a1 := il_nle g_4; have e0 : (0 : Int32).toInt = 0 := (by decide); have e1 : (20 : Int32).toInt = 20 := (by decide); have e2 : (32 : Int32).toInt = 32 := (by decide); rw [ex_11]; have m9 := il_mulE (x := p0) (y := 32) (by rw [e2]; omega) (by rw [e2]; omega); rw [m9, e2]; omega
          refine lv_iload_n hx hb dX0_stepOfMiss_36 rfl (lv_at hl 2 rfl) ?_
          refine lv_iadd hx hb dX0_stepOfMiss_37 ?_
          refine lv_topi (fun x_12 ex_12 => ?_)
          have bx_12 : (0 : Int) ≤ x_12.toInt ∧ x_12.toInt ≤ (639 : Int) := by have r0 := il_rng x_11; have r1 := il_rng p1; have a0 := bx_11.1; have a1 := bx_11.2; have a2 := il_nlt c_7; have a3 := il_nle c_10; have e0 : (0 : Int32).toInt = 0 := (by decide); have e1 : (32 : Int32).toInt = 32 := (by decide); rw [ex_12, il_addE (by omega) (by omega)]; omega
          refine va_iald hx hb hK hP 1 1 rfl rfl (vp_in_iff.mpr (by have a0 := bx_12.1; have a1 := bx_12.2; omega)) dX0_stepOfMiss_38 ?_
          refine lv_topi (fun x_13 ex_13 => ?_)
          refine lv_goto (tgt := 43) hx hb dX0_stepOfMiss_39 (by decide) ?_
          have hP9 := hP.sub (ws' := [(h0, .inr (0, [.ref ox0_0, .ref ax0_1, .long xx0_2, .ref ax0_3, .long xx0_4, .int xx0_5, .int xx0_6, .ref ax0_7, .ref ax0_8, .ref ax0_9, .ref ax0_10, .int xx0_11, .long xx0_12])), (ax0_8, .inl (cx0_8, 20, .inl fx0_8)), (ax0_9, .inl (cx0_9, 640, .inl fx0_9))]) [2, 0, 1] rfl
          have hD9 := hD.sub (ws' := [(h0, .inr (0, [.ref ox0_0, .ref ax0_1, .long xx0_2, .ref ax0_3, .long xx0_4, .int xx0_5, .int xx0_6, .ref ax0_7, .ref ax0_8, .ref ax0_9, .ref ax0_10, .int xx0_11, .long xx0_12])), (ax0_8, .inl (cx0_8, 20, .inl fx0_8)), (ax0_9, .inl (cx0_9, 640, .inl fx0_9))]) [2, 0, 1] (by decide) rfl
          have hK9 := hK.sub (tys' := [(cx0_8, .int), (cx0_9, .int)]) [0, 1] rfl
          refine W.widen (k := 0) (n := 0) (Nat.le_of_ble_eq_true rfl) (Nat.le_of_ble_eq_true rfl) ?_
          exact W.iret (v := x_13) hx hb hr (fun t ht hW => ⟨⟨x_13, (), rfl, Or.inl (⟨(by rw [ex_13, ex_12, ex_11]), c_7, c_10⟩), by rw [ht]; exact hP9, va_K.moved hW.alike hK9, hD9⟩, hS.F ht⟩) hS.2.2 dX0_stepOfMiss_43

set_option maxRecDepth 100000 in
set_option maxHeartbeats 4000000 in
theorem s_X1_isNumber (l : Launch) (dC : Nat → ClassId) (dI : Nat → Nat → Nat) (h0 : Nat) (ax1_0 : Nat) (ax1_1 : Nat) (ax1_2 : Nat) (p0 : Int32) (sz : Nat) : Met l yX1_isNumber (.code yX1_isNumber cX1_isNumber 2 (some .boolean) :: pw) ({ frames := 0, cells := 0, slots := 0, locals := 0 }) (va_Pc [.ref h0, .int p0] (vPre dC dI [(h0, .inr (1, [.ref ax1_0, .ref ax1_1, .ref ax1_2]))] [] sz)) (va_Qi (fun (r : Int32) (_ : Unit) => (r = 0) ∨ (r = 1 ∧ ¬ p0 < 0 ∧ ¬ 4 ≤ p0)) (fun (_ : Unit) t => vPst dC dI (va_A [(h0, .inr (1, [.ref ax1_0, .ref ax1_1, .ref ax1_2]))] sz) [(h0, .inr (1, [.ref ax1_0, .ref ax1_1, .ref ax1_2]))] [] t) (va_A [(h0, .inr (1, [.ref ax1_0, .ref ax1_1, .ref ax1_2]))] sz)) 0 0 (va_A [(h0, .inr (1, [.ref ax1_0, .ref ax1_1, .ref ax1_2]))] sz) := by
  refine Met.ofW (cc := cX1_isNumber) (maxL := 2) (ret := (some .boolean)) (by decide) rfl ?_
  intro p e s m args below meth c s₁ B hml hv
  obtain ⟨rfl, hsz, hP, hK, hD0, hN⟩ := hv
  have hx := B.exec
  have hb := B.bytes
  have hr := B.returns
  have hts := atoms_spec (ws := .code yX1_isNumber cX1_isNumber 2 (some .boolean) :: pw) B.pre
  have hts : ∀ w ∈ pw, w.before _ s = true := fun w h => hts w (List.mem_cons_of_mem _ h)
  have hown : s.vm.findClass RX1 = some m.cls := findClass_of_methodNamed B.named
  have hlocks := B.notSynchronized
  subst hsz
  have hD := hD0.self (sz := s.heap.size)
  generalize hAe : va_A [(h0, .inr (1, [.ref ax1_0, .ref ax1_1, .ref ax1_2]))] s.heap.size = A at hD ⊢
  have hA : ∀ q : Nat, s.heap.size ≤ q → A q := fun q h => by rw [← hAe]; exact Or.inr h
  have hS : va_S A s.heap s.heap [] := va_S.rf
  have hP : va_P (dC, dI) vwCl [(h0, .inr (1, [.ref ax1_0, .ref ax1_1, .ref ax1_2]))] s.heap := hP
  have hl := lv_entry ([.ref h0, .int p0]) (n := 2) (Nat.le_of_ble_eq_true rfl)
  rw [lg_entry_eq]
  generalize (lg_sl ([.ref h0, .int p0]) ++ List.replicate (2 - (lg_sl ([.ref h0, .int p0])).length) Slot.unset).toArray = ls at hl ⊢
  have hl : lv_has ls 2 [(0, .ref h0), (1, .int p0)] := hl
  refine lv_iload_n hx hb dX1_isNumber_0 rfl (lv_at hl 1 rfl) ?_
  refine lv_if_lt (tgt := 13) hx hb dX1_isNumber_1 (by decide) (fun c_1 => ?_) (fun c_1 => ?_)
  · refine lv_iconst (v := 0) hx hb dX1_isNumber_13 (by decide) ?_
    have hP9 := hP.sub (ws' := [(h0, .inr (1, [.ref ax1_0, .ref ax1_1, .ref ax1_2]))]) [0] rfl
    have hD9 := hD.sub (ws' := [(h0, .inr (1, [.ref ax1_0, .ref ax1_1, .ref ax1_2]))]) [0] (by decide) rfl
    have hK9 := hK.sub (tys' := []) [] rfl
    refine W.widen (k := 0) (n := 0) (Nat.le_of_ble_eq_true rfl) (Nat.le_of_ble_eq_true rfl) ?_
    exact W.zret (v := 0) hx hb hr rfl (fun t ht hW => ⟨⟨0, (), rfl, Or.inl (rfl), by rw [ht]; exact hP9, va_K.moved hW.alike hK9, hD9⟩, hS.F ht⟩) hS.2.2 dX1_isNumber_14
  · refine lv_iload_n hx hb dX1_isNumber_4 rfl (lv_at hl 1 rfl) ?_
    refine lv_iconst (v := 4) hx hb dX1_isNumber_5 (by decide) ?_
    refine lv_icmp_ge (tgt := 13) hx hb dX1_isNumber_6 (by decide) (fun c_2 => ?_) (fun c_2 => ?_)
    · refine lv_iconst (v := 0) hx hb dX1_isNumber_13 (by decide) ?_
      have hP9 := hP.sub (ws' := [(h0, .inr (1, [.ref ax1_0, .ref ax1_1, .ref ax1_2]))]) [0] rfl
      have hD9 := hD.sub (ws' := [(h0, .inr (1, [.ref ax1_0, .ref ax1_1, .ref ax1_2]))]) [0] (by decide) rfl
      have hK9 := hK.sub (tys' := []) [] rfl
      refine W.widen (k := 0) (n := 0) (Nat.le_of_ble_eq_true rfl) (Nat.le_of_ble_eq_true rfl) ?_
      exact W.zret (v := 0) hx hb hr rfl (fun t ht hW => ⟨⟨0, (), rfl, Or.inl (rfl), by rw [ht]; exact hP9, va_K.moved hW.alike hK9, hD9⟩, hS.F ht⟩) hS.2.2 dX1_isNumber_14
    · refine lv_iconst (v := 1) hx hb dX1_isNumber_9 (by decide) ?_
      refine lv_goto (tgt := 14) hx hb dX1_isNumber_10 (by decide) ?_
      have hP9 := hP.sub (ws' := [(h0, .inr (1, [.ref ax1_0, .ref ax1_1, .ref ax1_2]))]) [0] rfl
      have hD9 := hD.sub (ws' := [(h0, .inr (1, [.ref ax1_0, .ref ax1_1, .ref ax1_2]))]) [0] (by decide) rfl
      have hK9 := hK.sub (tys' := []) [] rfl
      refine W.widen (k := 0) (n := 0) (Nat.le_of_ble_eq_true rfl) (Nat.le_of_ble_eq_true rfl) ?_
      exact W.zret (v := 1) hx hb hr rfl (fun t ht hW => ⟨⟨1, (), rfl, Or.inr (⟨rfl, c_1, c_2⟩), by rw [ht]; exact hP9, va_K.moved hW.alike hK9, hD9⟩, hS.F ht⟩) hS.2.2 dX1_isNumber_14

set_option maxRecDepth 100000 in
set_option maxHeartbeats 4000000 in
theorem s_X1_isWritten (l : Launch) (dC : Nat → ClassId) (dI : Nat → Nat → Nat) (h0 : Nat) (ax1_0 : Nat) (ax1_1 : Nat) (ax1_2 : Nat) (cx1_2 : ClassId) (fx1_2 : Nat → Int32) (p0 : Int32) (sz : Nat) : Met l yX1_isWritten (.code yX1_isWritten cX1_isWritten 2 (some .boolean) :: pw) ({ frames := 1, cells := 0, slots := 0, locals := 21 }) (va_Pc [.ref h0, .int p0] (vPre dC dI [(h0, .inr (1, [.ref ax1_0, .ref ax1_1, .ref ax1_2])), (ax1_2, .inl (cx1_2, 4, .inl fx1_2))] [(cx1_2, .int)] sz)) (va_Qi (fun (r : Int32) (_ : Unit) => (r = 0) ∨ (r = 1)) (fun (_ : Unit) t => vPst dC dI (va_A [(h0, .inr (1, [.ref ax1_0, .ref ax1_1, .ref ax1_2])), (ax1_2, .inl (cx1_2, 4, .inl fx1_2))] sz) [(h0, .inr (1, [.ref ax1_0, .ref ax1_1, .ref ax1_2])), (ax1_2, .inl (cx1_2, 4, .inl fx1_2))] [(cx1_2, .int)] t) (va_A [(h0, .inr (1, [.ref ax1_0, .ref ax1_1, .ref ax1_2])), (ax1_2, .inl (cx1_2, 4, .inl fx1_2))] sz)) 0 0 (va_A [(h0, .inr (1, [.ref ax1_0, .ref ax1_1, .ref ax1_2])), (ax1_2, .inl (cx1_2, 4, .inl fx1_2))] sz) := by
  refine Met.ofW (cc := cX1_isWritten) (maxL := 2) (ret := (some .boolean)) (by decide) rfl ?_
  intro p e s m args below meth c s₁ B hml hv
  obtain ⟨rfl, hsz, hP, hK, hD0, hN⟩ := hv
  have hx := B.exec
  have hb := B.bytes
  have hr := B.returns
  have hts := atoms_spec (ws := .code yX1_isWritten cX1_isWritten 2 (some .boolean) :: pw) B.pre
  have hts : ∀ w ∈ pw, w.before _ s = true := fun w h => hts w (List.mem_cons_of_mem _ h)
  have hown : s.vm.findClass RX1 = some m.cls := findClass_of_methodNamed B.named
  have hlocks := B.notSynchronized
  subst hsz
  have hD := hD0.self (sz := s.heap.size)
  generalize hAe : va_A [(h0, .inr (1, [.ref ax1_0, .ref ax1_1, .ref ax1_2])), (ax1_2, .inl (cx1_2, 4, .inl fx1_2))] s.heap.size = A at hD ⊢
  have hA : ∀ q : Nat, s.heap.size ≤ q → A q := fun q h => by rw [← hAe]; exact Or.inr h
  have hS : va_S A s.heap s.heap [] := va_S.rf
  have hP : va_P (dC, dI) vwCl [(h0, .inr (1, [.ref ax1_0, .ref ax1_1, .ref ax1_2])), (ax1_2, .inl (cx1_2, 4, .inl fx1_2))] s.heap := hP
  have hl := lv_entry ([.ref h0, .int p0]) (n := 2) (Nat.le_of_ble_eq_true rfl)
  rw [lg_entry_eq]
  generalize (lg_sl ([.ref h0, .int p0]) ++ List.replicate (2 - (lg_sl ([.ref h0, .int p0])).length) Slot.unset).toArray = ls at hl ⊢
  have hl : lv_has ls 2 [(0, .ref h0), (1, .int p0)] := hl
  refine lv_aload_n hx hb dX1_isWritten_0 rfl (lv_at hl 0 rfl) ?_
  refine lv_iload_n hx hb dX1_isWritten_1 rfl (lv_at hl 1 rfl) ?_
  have hPc := hP.sub (ws' := [(h0, .inr (1, [.ref ax1_0, .ref ax1_1, .ref ax1_2]))]) [0] rfl
  have hDc := hD.sub (ws' := [(h0, .inr (1, [.ref ax1_0, .ref ax1_1, .ref ax1_2]))]) [0] (by decide) rfl
  have hKc := hK.sub (tys' := []) [] rfl
  have hFc := va_free (wc := [(h0, .inr (1, [.ref ax1_0, .ref ax1_1, .ref ax1_2]))]) hD hS hA [0] rfl
  refine va_calli (va_runV (As := [.int p0]) (rest := []) ⟨hx, hb, hml, hown, hts⟩ (s_X1_isNumber l dC dI h0 ax1_0 ax1_1 ax1_2 p0 s.heap.size) (cwV 1 hts (gV mw_4_7 mw_4_8 mw_4_9 mw_0_5 mw_46_29) rfl rfl rfl (by decide +kernel) ⟨(Nat.le_of_ble_eq_true rfl), (Nat.le_of_ble_eq_true rfl)⟩) (vV (ci := 1) (q0 := 0) hKc hPc hDc hN rfl rfl) rfl rfl hl.1 rfl (lv_room (Nat.le_of_ble_eq_true rfl)) dX1_isWritten_2 ⟨(Nat.le_of_ble_eq_true rfl), (Nat.le_of_ble_eq_true rfl)⟩) hS (fun q _ h => hFc q h) hFc (fun r_1 u t H1 locs ht hvm hw hB hz1 hk1 hS => ?_)
  obtain ⟨hP1, hK1, hD1⟩ := hB
  rw [ht] at hP1
  have hK1 := va_K.moved hvm.symm hK1
  obtain ⟨hP, hD⟩ := va_join (wr := [(ax1_2, .inl (cx1_2, 4, .inl fx1_2))]) (w1 := [(h0, .inr (1, [.ref ax1_0, .ref ax1_1, .ref ax1_2]))]) hP hD [0] [1] rfl rfl (by decide) (by decide) hk1 hFc hP1 hD1
  clear hPc hDc hKc hP1 hK1 hD1 hFc hk1 hz1
  generalize H1 = H at hP hS ⊢
  have hP : va_P (dC, dI) vwCl [(ax1_2, .inl (cx1_2, 4, .inl fx1_2)), (h0, .inr (1, [.ref ax1_0, .ref ax1_1, .ref ax1_2]))] H := hP
  have hD : va_D A [(ax1_2, .inl (cx1_2, 4, .inl fx1_2)), (h0, .inr (1, [.ref ax1_0, .ref ax1_1, .ref ax1_2]))] := hD
  rcases hw with rfl | ⟨rfl, g_2, g_3⟩
  · refine lv_if_eq (tgt := 22) hx hb dX1_isWritten_5 (by decide) (fun _ => ?_) (fun h => absurd (by decide) h)
    refine lv_iconst (v := 0) hx hb dX1_isWritten_22 (by decide) ?_
    have hP9 := hP.sub (ws' := [(h0, .inr (1, [.ref ax1_0, .ref ax1_1, .ref ax1_2])), (ax1_2, .inl (cx1_2, 4, .inl fx1_2))]) [1, 0] rfl
    have hD9 := hD.sub (ws' := [(h0, .inr (1, [.ref ax1_0, .ref ax1_1, .ref ax1_2])), (ax1_2, .inl (cx1_2, 4, .inl fx1_2))]) [1, 0] (by decide) rfl
    have hK9 := hK.sub (tys' := [(cx1_2, .int)]) [0] rfl
    refine W.widen (k := 0) (n := 0) (Nat.le_of_ble_eq_true rfl) (Nat.le_of_ble_eq_true rfl) ?_
    exact W.zret (v := 0) hx hb hr rfl (fun t ht hW => ⟨⟨0, (), rfl, Or.inl (rfl), by rw [ht]; exact hP9, va_K.moved hW.alike hK9, hD9⟩, hS.F ht⟩) hS.2.2 dX1_isWritten_23
  · refine lv_if_eq (tgt := 22) hx hb dX1_isWritten_5 (by decide) (fun h => absurd h (by decide)) (fun _ => ?_)
    refine lv_aload_n hx hb dX1_isWritten_8 rfl (lv_at hl 0 rfl) ?_
    refine va_get (D := (dC, dI)) (ci := 1) (v := .ref ax1_2) (C := RX1) (T := TX1) (N := 3) hx hb hts inlX1 hown hK hP 1 rfl rfl 2 (by decide) (hts (.fieldLink RX1 19 "ShapeReader$Messages" "plansUsed" "[I") mw_4_5) (fun _ h9 => h9) rfl dX1_isWritten_9 ?_
    refine lv_iload_n hx hb dX1_isWritten_12 rfl (lv_at hl 1 rfl) ?_
    refine va_iald hx hb hK hP 0 0 rfl rfl (vp_in_iff.mpr (by have a0 := il_nlt g_2; have a1 := il_nle g_3; have e0 : (0 : Int32).toInt = 0 := (by decide); have e1 : (4 : Int32).toInt = 4 := (by decide); omega)) dX1_isWritten_13 ?_
    refine lv_topi (fun x_6 ex_6 => ?_)
    refine lv_iconst (v := (-1)) hx hb dX1_isWritten_14 (by decide) ?_
    refine lv_icmp_eq (tgt := 22) hx hb dX1_isWritten_15 (by decide) (fun c_7 => ?_) (fun c_7 => ?_)
    · refine lv_iconst (v := 0) hx hb dX1_isWritten_22 (by decide) ?_
      have hP9 := hP.sub (ws' := [(h0, .inr (1, [.ref ax1_0, .ref ax1_1, .ref ax1_2])), (ax1_2, .inl (cx1_2, 4, .inl fx1_2))]) [1, 0] rfl
      have hD9 := hD.sub (ws' := [(h0, .inr (1, [.ref ax1_0, .ref ax1_1, .ref ax1_2])), (ax1_2, .inl (cx1_2, 4, .inl fx1_2))]) [1, 0] (by decide) rfl
      have hK9 := hK.sub (tys' := [(cx1_2, .int)]) [0] rfl
      refine W.widen (k := 0) (n := 0) (Nat.le_of_ble_eq_true rfl) (Nat.le_of_ble_eq_true rfl) ?_
      exact W.zret (v := 0) hx hb hr rfl (fun t ht hW => ⟨⟨0, (), rfl, Or.inl (rfl), by rw [ht]; exact hP9, va_K.moved hW.alike hK9, hD9⟩, hS.F ht⟩) hS.2.2 dX1_isWritten_23
    · refine lv_iconst (v := 1) hx hb dX1_isWritten_18 (by decide) ?_
      refine lv_goto (tgt := 23) hx hb dX1_isWritten_19 (by decide) ?_
      have hP9 := hP.sub (ws' := [(h0, .inr (1, [.ref ax1_0, .ref ax1_1, .ref ax1_2])), (ax1_2, .inl (cx1_2, 4, .inl fx1_2))]) [1, 0] rfl
      have hD9 := hD.sub (ws' := [(h0, .inr (1, [.ref ax1_0, .ref ax1_1, .ref ax1_2])), (ax1_2, .inl (cx1_2, 4, .inl fx1_2))]) [1, 0] (by decide) rfl
      have hK9 := hK.sub (tys' := [(cx1_2, .int)]) [0] rfl
      refine W.widen (k := 0) (n := 0) (Nat.le_of_ble_eq_true rfl) (Nat.le_of_ble_eq_true rfl) ?_
      exact W.zret (v := 1) hx hb hr rfl (fun t ht hW => ⟨⟨1, (), rfl, Or.inr (rfl), by rw [ht]; exact hP9, va_K.moved hW.alike hK9, hD9⟩, hS.F ht⟩) hS.2.2 dX1_isWritten_23

set_option maxRecDepth 100000 in
set_option maxHeartbeats 4000000 in
theorem s_X1_sizeOf (l : Launch) (dC : Nat → ClassId) (dI : Nat → Nat → Nat) (h0 : Nat) (ax1_0 : Nat) (ax1_1 : Nat) (cx1_1 : ClassId) (fx1_1 : Nat → Int32) (ax1_2 : Nat) (p0 : Int32) (sz : Nat) : Met l yX1_sizeOf (.code yX1_sizeOf cX1_sizeOf 2 (some .int) :: pw) ({ frames := 1, cells := 0, slots := 0, locals := 21 }) (va_Pc [.ref h0, .int p0] (vPre dC dI [(h0, .inr (1, [.ref ax1_0, .ref ax1_1, .ref ax1_2])), (ax1_1, .inl (cx1_1, 4, .inl fx1_1))] [(cx1_1, .int)] sz)) (va_Qi (fun (r : Int32) (_ : Unit) => (r = (fx1_1 p0.toNatClampNeg)) ∨ (r = 0)) (fun (_ : Unit) t => vPst dC dI (va_A [(h0, .inr (1, [.ref ax1_0, .ref ax1_1, .ref ax1_2])), (ax1_1, .inl (cx1_1, 4, .inl fx1_1))] sz) [(h0, .inr (1, [.ref ax1_0, .ref ax1_1, .ref ax1_2])), (ax1_1, .inl (cx1_1, 4, .inl fx1_1))] [(cx1_1, .int)] t) (va_A [(h0, .inr (1, [.ref ax1_0, .ref ax1_1, .ref ax1_2])), (ax1_1, .inl (cx1_1, 4, .inl fx1_1))] sz)) 0 0 (va_A [(h0, .inr (1, [.ref ax1_0, .ref ax1_1, .ref ax1_2])), (ax1_1, .inl (cx1_1, 4, .inl fx1_1))] sz) := by
  refine Met.ofW (cc := cX1_sizeOf) (maxL := 2) (ret := (some .int)) (by decide) rfl ?_
  intro p e s m args below meth c s₁ B hml hv
  obtain ⟨rfl, hsz, hP, hK, hD0, hN⟩ := hv
  have hx := B.exec
  have hb := B.bytes
  have hr := B.returns
  have hts := atoms_spec (ws := .code yX1_sizeOf cX1_sizeOf 2 (some .int) :: pw) B.pre
  have hts : ∀ w ∈ pw, w.before _ s = true := fun w h => hts w (List.mem_cons_of_mem _ h)
  have hown : s.vm.findClass RX1 = some m.cls := findClass_of_methodNamed B.named
  have hlocks := B.notSynchronized
  subst hsz
  have hD := hD0.self (sz := s.heap.size)
  generalize hAe : va_A [(h0, .inr (1, [.ref ax1_0, .ref ax1_1, .ref ax1_2])), (ax1_1, .inl (cx1_1, 4, .inl fx1_1))] s.heap.size = A at hD ⊢
  have hA : ∀ q : Nat, s.heap.size ≤ q → A q := fun q h => by rw [← hAe]; exact Or.inr h
  have hS : va_S A s.heap s.heap [] := va_S.rf
  have hP : va_P (dC, dI) vwCl [(h0, .inr (1, [.ref ax1_0, .ref ax1_1, .ref ax1_2])), (ax1_1, .inl (cx1_1, 4, .inl fx1_1))] s.heap := hP
  have hl := lv_entry ([.ref h0, .int p0]) (n := 2) (Nat.le_of_ble_eq_true rfl)
  rw [lg_entry_eq]
  generalize (lg_sl ([.ref h0, .int p0]) ++ List.replicate (2 - (lg_sl ([.ref h0, .int p0])).length) Slot.unset).toArray = ls at hl ⊢
  have hl : lv_has ls 2 [(0, .ref h0), (1, .int p0)] := hl
  refine lv_aload_n hx hb dX1_sizeOf_0 rfl (lv_at hl 0 rfl) ?_
  refine lv_iload_n hx hb dX1_sizeOf_1 rfl (lv_at hl 1 rfl) ?_
  have hPc := hP.sub (ws' := [(h0, .inr (1, [.ref ax1_0, .ref ax1_1, .ref ax1_2]))]) [0] rfl
  have hDc := hD.sub (ws' := [(h0, .inr (1, [.ref ax1_0, .ref ax1_1, .ref ax1_2]))]) [0] (by decide) rfl
  have hKc := hK.sub (tys' := []) [] rfl
  have hFc := va_free (wc := [(h0, .inr (1, [.ref ax1_0, .ref ax1_1, .ref ax1_2]))]) hD hS hA [0] rfl
  refine va_calli (va_runV (As := [.int p0]) (rest := []) ⟨hx, hb, hml, hown, hts⟩ (s_X1_isNumber l dC dI h0 ax1_0 ax1_1 ax1_2 p0 s.heap.size) (cwV 1 hts (gV mw_4_7 mw_4_8 mw_4_9 mw_0_5 mw_46_29) rfl rfl rfl (by decide +kernel) ⟨(Nat.le_of_ble_eq_true rfl), (Nat.le_of_ble_eq_true rfl)⟩) (vV (ci := 1) (q0 := 0) hKc hPc hDc hN rfl rfl) rfl rfl hl.1 rfl (lv_room (Nat.le_of_ble_eq_true rfl)) dX1_sizeOf_2 ⟨(Nat.le_of_ble_eq_true rfl), (Nat.le_of_ble_eq_true rfl)⟩) hS (fun q _ h => hFc q h) hFc (fun r_1 u t H1 locs ht hvm hw hB hz1 hk1 hS => ?_)
  obtain ⟨hP1, hK1, hD1⟩ := hB
  rw [ht] at hP1
  have hK1 := va_K.moved hvm.symm hK1
  obtain ⟨hP, hD⟩ := va_join (wr := [(ax1_1, .inl (cx1_1, 4, .inl fx1_1))]) (w1 := [(h0, .inr (1, [.ref ax1_0, .ref ax1_1, .ref ax1_2]))]) hP hD [0] [1] rfl rfl (by decide) (by decide) hk1 hFc hP1 hD1
  clear hPc hDc hKc hP1 hK1 hD1 hFc hk1 hz1
  generalize H1 = H at hP hS ⊢
  have hP : va_P (dC, dI) vwCl [(ax1_1, .inl (cx1_1, 4, .inl fx1_1)), (h0, .inr (1, [.ref ax1_0, .ref ax1_1, .ref ax1_2]))] H := hP
  have hD : va_D A [(ax1_1, .inl (cx1_1, 4, .inl fx1_1)), (h0, .inr (1, [.ref ax1_0, .ref ax1_1, .ref ax1_2]))] := hD
  rcases hw with rfl | ⟨rfl, g_2, g_3⟩
  · refine lv_if_eq (tgt := 17) hx hb dX1_sizeOf_5 (by decide) (fun _ => ?_) (fun h => absurd (by decide) h)
    refine lv_iconst (v := 0) hx hb dX1_sizeOf_17 (by decide) ?_
    have hP9 := hP.sub (ws' := [(h0, .inr (1, [.ref ax1_0, .ref ax1_1, .ref ax1_2])), (ax1_1, .inl (cx1_1, 4, .inl fx1_1))]) [1, 0] rfl
    have hD9 := hD.sub (ws' := [(h0, .inr (1, [.ref ax1_0, .ref ax1_1, .ref ax1_2])), (ax1_1, .inl (cx1_1, 4, .inl fx1_1))]) [1, 0] (by decide) rfl
    have hK9 := hK.sub (tys' := [(cx1_1, .int)]) [0] rfl
    refine W.widen (k := 0) (n := 0) (Nat.le_of_ble_eq_true rfl) (Nat.le_of_ble_eq_true rfl) ?_
    exact W.iret (v := 0) hx hb hr (fun t ht hW => ⟨⟨0, (), rfl, Or.inr (rfl), by rw [ht]; exact hP9, va_K.moved hW.alike hK9, hD9⟩, hS.F ht⟩) hS.2.2 dX1_sizeOf_18
  · refine lv_if_eq (tgt := 17) hx hb dX1_sizeOf_5 (by decide) (fun h => absurd h (by decide)) (fun _ => ?_)
    refine lv_aload_n hx hb dX1_sizeOf_8 rfl (lv_at hl 0 rfl) ?_
    refine va_get (D := (dC, dI)) (ci := 1) (v := .ref ax1_1) (C := RX1) (T := TX1) (N := 3) hx hb hts inlX1 hown hK hP 1 rfl rfl 1 (by decide) (hts (.fieldLink RX1 15 "ShapeReader$Messages" "sizes" "[I") mw_4_4) (fun _ h9 => h9) rfl dX1_sizeOf_9 ?_
    refine lv_iload_n hx hb dX1_sizeOf_12 rfl (lv_at hl 1 rfl) ?_
    refine va_iald hx hb hK hP 0 0 rfl rfl (vp_in_iff.mpr (by have a0 := il_nlt g_2; have a1 := il_nle g_3; have e0 : (0 : Int32).toInt = 0 := (by decide); have e1 : (4 : Int32).toInt = 4 := (by decide); omega)) dX1_sizeOf_13 ?_
    refine lv_topi (fun x_6 ex_6 => ?_)
    refine lv_goto (tgt := 18) hx hb dX1_sizeOf_14 (by decide) ?_
    have hP9 := hP.sub (ws' := [(h0, .inr (1, [.ref ax1_0, .ref ax1_1, .ref ax1_2])), (ax1_1, .inl (cx1_1, 4, .inl fx1_1))]) [1, 0] rfl
    have hD9 := hD.sub (ws' := [(h0, .inr (1, [.ref ax1_0, .ref ax1_1, .ref ax1_2])), (ax1_1, .inl (cx1_1, 4, .inl fx1_1))]) [1, 0] (by decide) rfl
    have hK9 := hK.sub (tys' := [(cx1_1, .int)]) [0] rfl
    refine W.widen (k := 0) (n := 0) (Nat.le_of_ble_eq_true rfl) (Nat.le_of_ble_eq_true rfl) ?_
    exact W.iret (v := x_6) hx hb hr (fun t ht hW => ⟨⟨x_6, (), rfl, Or.inl ((by rw [ex_6])), by rw [ht]; exact hP9, va_K.moved hW.alike hK9, hD9⟩, hS.F ht⟩) hS.2.2 dX1_sizeOf_18

set_option maxRecDepth 100000 in
set_option maxHeartbeats 4000000 in
theorem s_X1_planOf (l : Launch) (dC : Nat → ClassId) (dI : Nat → Nat → Nat) (h0 : Nat) (ax1_0 : Nat) (ax1_1 : Nat) (ax1_2 : Nat) (cx1_2 : ClassId) (fx1_2 : Nat → Int32) (p0 : Int32) (sz : Nat) : Met l yX1_planOf (.code yX1_planOf cX1_planOf 2 (some .int) :: pw) ({ frames := 1, cells := 0, slots := 0, locals := 21 }) (va_Pc [.ref h0, .int p0] (vPre dC dI [(h0, .inr (1, [.ref ax1_0, .ref ax1_1, .ref ax1_2])), (ax1_2, .inl (cx1_2, 4, .inl fx1_2))] [(cx1_2, .int)] sz)) (va_Qi (fun (r : Int32) (_ : Unit) => (r = (fx1_2 p0.toNatClampNeg)) ∨ (r = (-1))) (fun (_ : Unit) t => vPst dC dI (va_A [(h0, .inr (1, [.ref ax1_0, .ref ax1_1, .ref ax1_2])), (ax1_2, .inl (cx1_2, 4, .inl fx1_2))] sz) [(h0, .inr (1, [.ref ax1_0, .ref ax1_1, .ref ax1_2])), (ax1_2, .inl (cx1_2, 4, .inl fx1_2))] [(cx1_2, .int)] t) (va_A [(h0, .inr (1, [.ref ax1_0, .ref ax1_1, .ref ax1_2])), (ax1_2, .inl (cx1_2, 4, .inl fx1_2))] sz)) 0 0 (va_A [(h0, .inr (1, [.ref ax1_0, .ref ax1_1, .ref ax1_2])), (ax1_2, .inl (cx1_2, 4, .inl fx1_2))] sz) := by
  refine Met.ofW (cc := cX1_planOf) (maxL := 2) (ret := (some .int)) (by decide) rfl ?_
  intro p e s m args below meth c s₁ B hml hv
  obtain ⟨rfl, hsz, hP, hK, hD0, hN⟩ := hv
  have hx := B.exec
  have hb := B.bytes
  have hr := B.returns
  have hts := atoms_spec (ws := .code yX1_planOf cX1_planOf 2 (some .int) :: pw) B.pre
  have hts : ∀ w ∈ pw, w.before _ s = true := fun w h => hts w (List.mem_cons_of_mem _ h)
  have hown : s.vm.findClass RX1 = some m.cls := findClass_of_methodNamed B.named
  have hlocks := B.notSynchronized
  subst hsz
  have hD := hD0.self (sz := s.heap.size)
  generalize hAe : va_A [(h0, .inr (1, [.ref ax1_0, .ref ax1_1, .ref ax1_2])), (ax1_2, .inl (cx1_2, 4, .inl fx1_2))] s.heap.size = A at hD ⊢
  have hA : ∀ q : Nat, s.heap.size ≤ q → A q := fun q h => by rw [← hAe]; exact Or.inr h
  have hS : va_S A s.heap s.heap [] := va_S.rf
  have hP : va_P (dC, dI) vwCl [(h0, .inr (1, [.ref ax1_0, .ref ax1_1, .ref ax1_2])), (ax1_2, .inl (cx1_2, 4, .inl fx1_2))] s.heap := hP
  have hl := lv_entry ([.ref h0, .int p0]) (n := 2) (Nat.le_of_ble_eq_true rfl)
  rw [lg_entry_eq]
  generalize (lg_sl ([.ref h0, .int p0]) ++ List.replicate (2 - (lg_sl ([.ref h0, .int p0])).length) Slot.unset).toArray = ls at hl ⊢
  have hl : lv_has ls 2 [(0, .ref h0), (1, .int p0)] := hl
  refine lv_aload_n hx hb dX1_planOf_0 rfl (lv_at hl 0 rfl) ?_
  refine lv_iload_n hx hb dX1_planOf_1 rfl (lv_at hl 1 rfl) ?_
  have hPc := hP.sub (ws' := [(h0, .inr (1, [.ref ax1_0, .ref ax1_1, .ref ax1_2]))]) [0] rfl
  have hDc := hD.sub (ws' := [(h0, .inr (1, [.ref ax1_0, .ref ax1_1, .ref ax1_2]))]) [0] (by decide) rfl
  have hKc := hK.sub (tys' := []) [] rfl
  have hFc := va_free (wc := [(h0, .inr (1, [.ref ax1_0, .ref ax1_1, .ref ax1_2]))]) hD hS hA [0] rfl
  refine va_calli (va_runV (As := [.int p0]) (rest := []) ⟨hx, hb, hml, hown, hts⟩ (s_X1_isNumber l dC dI h0 ax1_0 ax1_1 ax1_2 p0 s.heap.size) (cwV 1 hts (gV mw_4_7 mw_4_8 mw_4_9 mw_0_5 mw_46_29) rfl rfl rfl (by decide +kernel) ⟨(Nat.le_of_ble_eq_true rfl), (Nat.le_of_ble_eq_true rfl)⟩) (vV (ci := 1) (q0 := 0) hKc hPc hDc hN rfl rfl) rfl rfl hl.1 rfl (lv_room (Nat.le_of_ble_eq_true rfl)) dX1_planOf_2 ⟨(Nat.le_of_ble_eq_true rfl), (Nat.le_of_ble_eq_true rfl)⟩) hS (fun q _ h => hFc q h) hFc (fun r_1 u t H1 locs ht hvm hw hB hz1 hk1 hS => ?_)
  obtain ⟨hP1, hK1, hD1⟩ := hB
  rw [ht] at hP1
  have hK1 := va_K.moved hvm.symm hK1
  obtain ⟨hP, hD⟩ := va_join (wr := [(ax1_2, .inl (cx1_2, 4, .inl fx1_2))]) (w1 := [(h0, .inr (1, [.ref ax1_0, .ref ax1_1, .ref ax1_2]))]) hP hD [0] [1] rfl rfl (by decide) (by decide) hk1 hFc hP1 hD1
  clear hPc hDc hKc hP1 hK1 hD1 hFc hk1 hz1
  generalize H1 = H at hP hS ⊢
  have hP : va_P (dC, dI) vwCl [(ax1_2, .inl (cx1_2, 4, .inl fx1_2)), (h0, .inr (1, [.ref ax1_0, .ref ax1_1, .ref ax1_2]))] H := hP
  have hD : va_D A [(ax1_2, .inl (cx1_2, 4, .inl fx1_2)), (h0, .inr (1, [.ref ax1_0, .ref ax1_1, .ref ax1_2]))] := hD
  rcases hw with rfl | ⟨rfl, g_2, g_3⟩
  · refine lv_if_eq (tgt := 17) hx hb dX1_planOf_5 (by decide) (fun _ => ?_) (fun h => absurd (by decide) h)
    refine lv_iconst (v := (-1)) hx hb dX1_planOf_17 (by decide) ?_
    have hP9 := hP.sub (ws' := [(h0, .inr (1, [.ref ax1_0, .ref ax1_1, .ref ax1_2])), (ax1_2, .inl (cx1_2, 4, .inl fx1_2))]) [1, 0] rfl
    have hD9 := hD.sub (ws' := [(h0, .inr (1, [.ref ax1_0, .ref ax1_1, .ref ax1_2])), (ax1_2, .inl (cx1_2, 4, .inl fx1_2))]) [1, 0] (by decide) rfl
    have hK9 := hK.sub (tys' := [(cx1_2, .int)]) [0] rfl
    refine W.widen (k := 0) (n := 0) (Nat.le_of_ble_eq_true rfl) (Nat.le_of_ble_eq_true rfl) ?_
    exact W.iret (v := (-1)) hx hb hr (fun t ht hW => ⟨⟨(-1), (), rfl, Or.inr (rfl), by rw [ht]; exact hP9, va_K.moved hW.alike hK9, hD9⟩, hS.F ht⟩) hS.2.2 dX1_planOf_18
  · refine lv_if_eq (tgt := 17) hx hb dX1_planOf_5 (by decide) (fun h => absurd h (by decide)) (fun _ => ?_)
    refine lv_aload_n hx hb dX1_planOf_8 rfl (lv_at hl 0 rfl) ?_
    refine va_get (D := (dC, dI)) (ci := 1) (v := .ref ax1_2) (C := RX1) (T := TX1) (N := 3) hx hb hts inlX1 hown hK hP 1 rfl rfl 2 (by decide) (hts (.fieldLink RX1 19 "ShapeReader$Messages" "plansUsed" "[I") mw_4_5) (fun _ h9 => h9) rfl dX1_planOf_9 ?_
    refine lv_iload_n hx hb dX1_planOf_12 rfl (lv_at hl 1 rfl) ?_
    refine va_iald hx hb hK hP 0 0 rfl rfl (vp_in_iff.mpr (by have a0 := il_nlt g_2; have a1 := il_nle g_3; have e0 : (0 : Int32).toInt = 0 := (by decide); have e1 : (4 : Int32).toInt = 4 := (by decide); omega)) dX1_planOf_13 ?_
    refine lv_topi (fun x_6 ex_6 => ?_)
    refine lv_goto (tgt := 18) hx hb dX1_planOf_14 (by decide) ?_
    have hP9 := hP.sub (ws' := [(h0, .inr (1, [.ref ax1_0, .ref ax1_1, .ref ax1_2])), (ax1_2, .inl (cx1_2, 4, .inl fx1_2))]) [1, 0] rfl
    have hD9 := hD.sub (ws' := [(h0, .inr (1, [.ref ax1_0, .ref ax1_1, .ref ax1_2])), (ax1_2, .inl (cx1_2, 4, .inl fx1_2))]) [1, 0] (by decide) rfl
    have hK9 := hK.sub (tys' := [(cx1_2, .int)]) [0] rfl
    refine W.widen (k := 0) (n := 0) (Nat.le_of_ble_eq_true rfl) (Nat.le_of_ble_eq_true rfl) ?_
    exact W.iret (v := x_6) hx hb hr (fun t ht hW => ⟨⟨x_6, (), rfl, Or.inl ((by rw [ex_6])), by rw [ht]; exact hP9, va_K.moved hW.alike hK9, hD9⟩, hS.F ht⟩) hS.2.2 dX1_planOf_18

set_option maxRecDepth 100000 in
set_option maxHeartbeats 4000000 in
theorem s_X1_byteOf (l : Launch) (dC : Nat → ClassId) (dI : Nat → Nat → Nat) (h0 : Nat) (ax1_0 : Nat) (cx1_0 : ClassId) (fx1_0 : Nat → Int32) (ax1_1 : Nat) (ax1_2 : Nat) (p0 : Int32) (p1 : Int32) (sz : Nat) : Met l yX1_byteOf (.code yX1_byteOf cX1_byteOf 4 (some .int) :: pw) ({ frames := 0, cells := 0, slots := 0, locals := 0 }) (va_Pc [.ref h0, .int p0, .int p1] (vPre dC dI [(h0, .inr (1, [.ref ax1_0, .ref ax1_1, .ref ax1_2])), (ax1_0, .inl (cx1_0, 1600, .inl fx1_0))] [(cx1_0, .byte)] sz)) (va_Qi (fun (r : Int32) (_ : Unit) => (r = ((fx1_0 ((p0 * 400) + p1).toNatClampNeg) &&& 255)) ∨ (r = 0)) (fun (_ : Unit) t => vPst dC dI (va_A [(h0, .inr (1, [.ref ax1_0, .ref ax1_1, .ref ax1_2])), (ax1_0, .inl (cx1_0, 1600, .inl fx1_0))] sz) [(h0, .inr (1, [.ref ax1_0, .ref ax1_1, .ref ax1_2])), (ax1_0, .inl (cx1_0, 1600, .inl fx1_0))] [(cx1_0, .byte)] t) (va_A [(h0, .inr (1, [.ref ax1_0, .ref ax1_1, .ref ax1_2])), (ax1_0, .inl (cx1_0, 1600, .inl fx1_0))] sz)) 0 0 (va_A [(h0, .inr (1, [.ref ax1_0, .ref ax1_1, .ref ax1_2])), (ax1_0, .inl (cx1_0, 1600, .inl fx1_0))] sz) := by
  refine Met.ofW (cc := cX1_byteOf) (maxL := 4) (ret := (some .int)) (by decide) rfl ?_
  intro p e s m args below meth c s₁ B hml hv
  obtain ⟨rfl, hsz, hP, hK, hD0, hN⟩ := hv
  have hx := B.exec
  have hb := B.bytes
  have hr := B.returns
  have hts := atoms_spec (ws := .code yX1_byteOf cX1_byteOf 4 (some .int) :: pw) B.pre
  have hts : ∀ w ∈ pw, w.before _ s = true := fun w h => hts w (List.mem_cons_of_mem _ h)
  have hown : s.vm.findClass RX1 = some m.cls := findClass_of_methodNamed B.named
  have hlocks := B.notSynchronized
  subst hsz
  have hD := hD0.self (sz := s.heap.size)
  generalize hAe : va_A [(h0, .inr (1, [.ref ax1_0, .ref ax1_1, .ref ax1_2])), (ax1_0, .inl (cx1_0, 1600, .inl fx1_0))] s.heap.size = A at hD ⊢
  have hA : ∀ q : Nat, s.heap.size ≤ q → A q := fun q h => by rw [← hAe]; exact Or.inr h
  have hS : va_S A s.heap s.heap [] := va_S.rf
  have hP : va_P (dC, dI) vwCl [(h0, .inr (1, [.ref ax1_0, .ref ax1_1, .ref ax1_2])), (ax1_0, .inl (cx1_0, 1600, .inl fx1_0))] s.heap := hP
  have hl := lv_entry ([.ref h0, .int p0, .int p1]) (n := 4) (Nat.le_of_ble_eq_true rfl)
  rw [lg_entry_eq]
  generalize (lg_sl ([.ref h0, .int p0, .int p1]) ++ List.replicate (4 - (lg_sl ([.ref h0, .int p0, .int p1])).length) Slot.unset).toArray = ls at hl ⊢
  have hl : lv_has ls 4 [(0, .ref h0), (1, .int p0), (2, .int p1)] := hl
  refine lv_iload_n hx hb dX1_byteOf_0 rfl (lv_at hl 1 rfl) ?_
  refine lv_sipush (v := 400) hx hb dX1_byteOf_1 (by decide) ?_
  refine lv_imul hx hb dX1_byteOf_4 ?_
  refine lv_topi (fun x_1 ex_1 => ?_)
  refine lv_iload_n hx hb dX1_byteOf_5 rfl (lv_at hl 2 rfl) ?_
  refine lv_iadd hx hb dX1_byteOf_6 ?_
  refine lv_topi (fun x_2 ex_2 => ?_)
  refine lv_istore_n (lv' := [(3, .int x_2), (0, .ref h0), (1, .int p0), (2, .int p1)]) hx hb dX1_byteOf_7 rfl hl (by decide) rfl (fun ls hl => ?_)
  refine lv_iload_n hx hb dX1_byteOf_8 rfl (lv_at hl 0 rfl) ?_
  refine lv_if_lt (tgt := 32) hx hb dX1_byteOf_9 (by decide) (fun c_3 => ?_) (fun c_3 => ?_)
  · refine lv_iconst (v := 0) hx hb dX1_byteOf_32 (by decide) ?_
    have hP9 := hP.sub (ws' := [(h0, .inr (1, [.ref ax1_0, .ref ax1_1, .ref ax1_2])), (ax1_0, .inl (cx1_0, 1600, .inl fx1_0))]) [0, 1] rfl
    have hD9 := hD.sub (ws' := [(h0, .inr (1, [.ref ax1_0, .ref ax1_1, .ref ax1_2])), (ax1_0, .inl (cx1_0, 1600, .inl fx1_0))]) [0, 1] (by decide) rfl
    have hK9 := hK.sub (tys' := [(cx1_0, .byte)]) [0] rfl
    refine W.widen (k := 0) (n := 0) (Nat.le_of_ble_eq_true rfl) (Nat.le_of_ble_eq_true rfl) ?_
    exact W.iret (v := 0) hx hb hr (fun t ht hW => ⟨⟨0, (), rfl, Or.inr (rfl), by rw [ht]; exact hP9, va_K.moved hW.alike hK9, hD9⟩, hS.F ht⟩) hS.2.2 dX1_byteOf_33
  · refine lv_iload_n hx hb dX1_byteOf_12 rfl (lv_at hl 0 rfl) ?_
    refine lv_sipush (v := 1600) hx hb dX1_byteOf_13 (by decide) ?_
    refine lv_icmp_ge (tgt := 32) hx hb dX1_byteOf_16 (by decide) (fun c_4 => ?_) (fun c_4 => ?_)
    · refine lv_iconst (v := 0) hx hb dX1_byteOf_32 (by decide) ?_
      have hP9 := hP.sub (ws' := [(h0, .inr (1, [.ref ax1_0, .ref ax1_1, .ref ax1_2])), (ax1_0, .inl (cx1_0, 1600, .inl fx1_0))]) [0, 1] rfl
      have hD9 := hD.sub (ws' := [(h0, .inr (1, [.ref ax1_0, .ref ax1_1, .ref ax1_2])), (ax1_0, .inl (cx1_0, 1600, .inl fx1_0))]) [0, 1] (by decide) rfl
      have hK9 := hK.sub (tys' := [(cx1_0, .byte)]) [0] rfl
      refine W.widen (k := 0) (n := 0) (Nat.le_of_ble_eq_true rfl) (Nat.le_of_ble_eq_true rfl) ?_
      exact W.iret (v := 0) hx hb hr (fun t ht hW => ⟨⟨0, (), rfl, Or.inr (rfl), by rw [ht]; exact hP9, va_K.moved hW.alike hK9, hD9⟩, hS.F ht⟩) hS.2.2 dX1_byteOf_33
    · refine lv_aload_n hx hb dX1_byteOf_19 rfl (lv_at hl 1 rfl) ?_
      refine va_get (D := (dC, dI)) (ci := 1) (v := .ref ax1_0) (C := RX1) (T := TX1) (N := 3) hx hb hts inlX1 hown hK hP 0 rfl rfl 0 (by decide) (hts (.fieldLink RX1 9 "ShapeReader$Messages" "bytes" "[B") mw_4_3) (fun _ h9 => h9) rfl dX1_byteOf_20 ?_
      refine lv_iload_n hx hb dX1_byteOf_23 rfl (lv_at hl 0 rfl) ?_
      refine va_bald hx hb hK hP 1 0 rfl rfl (vp_in_iff.mpr (by have a0 := il_nlt c_3; have a1 := il_nle c_4; have e0 : (0 : Int32).toInt = 0 := (by decide); have e1 : (1600 : Int32).toInt = 1600 := (by decide); omega)) dX1_byteOf_24 ?_
      refine lv_topi (fun x_5 ex_5 => ?_)
      refine lv_sipush (v := 255) hx hb dX1_byteOf_25 (by decide) ?_
      refine lv_iand hx hb dX1_byteOf_28 ?_
      refine lv_topi (fun x_6 ex_6 => ?_)
      refine lv_goto (tgt := 33) hx hb dX1_byteOf_29 (by decide) ?_
      have hP9 := hP.sub (ws' := [(h0, .inr (1, [.ref ax1_0, .ref ax1_1, .ref ax1_2])), (ax1_0, .inl (cx1_0, 1600, .inl fx1_0))]) [0, 1] rfl
      have hD9 := hD.sub (ws' := [(h0, .inr (1, [.ref ax1_0, .ref ax1_1, .ref ax1_2])), (ax1_0, .inl (cx1_0, 1600, .inl fx1_0))]) [0, 1] (by decide) rfl
      have hK9 := hK.sub (tys' := [(cx1_0, .byte)]) [0] rfl
      refine W.widen (k := 0) (n := 0) (Nat.le_of_ble_eq_true rfl) (Nat.le_of_ble_eq_true rfl) ?_
      exact W.iret (v := x_6) hx hb hr (fun t ht hW => ⟨⟨x_6, (), rfl, Or.inl ((by rw [ex_6, ex_5, ex_2, ex_1])), by rw [ht]; exact hP9, va_K.moved hW.alike hK9, hD9⟩, hS.F ht⟩) hS.2.2 dX1_byteOf_33

set_option maxRecDepth 100000 in
set_option maxHeartbeats 4000000 in
theorem s_X1_shorten (l : Launch) (dC : Nat → ClassId) (dI : Nat → Nat → Nat) (h0 : Nat) (ax1_0 : Nat) (ax1_1 : Nat) (cx1_1 : ClassId) (fx1_1 : Nat → Int32) (ax1_2 : Nat) (p0 : Int32) (p1 : Int32) (sz : Nat) : Met l yX1_shorten (.code yX1_shorten cX1_shorten 4 (some .int) :: pw) ({ frames := 2, cells := 0, slots := 0, locals := 42 }) (va_Pc [.ref h0, .int p0, .int p1] (vPre dC dI [(h0, .inr (1, [.ref ax1_0, .ref ax1_1, .ref ax1_2])), (ax1_1, .inl (cx1_1, 4, .inl fx1_1))] [(cx1_1, .int)] sz)) (va_Qi (fun (r : Int32) (_ : Unit) => (r = (fx1_1 p0.toNatClampNeg)) ∨ (r = 0)) (fun (_ : Unit) t => ∃ (z1 : Nat → Int32), vPst dC dI (va_A [(h0, .inr (1, [.ref ax1_0, .ref ax1_1, .ref ax1_2])), (ax1_1, .inl (cx1_1, 4, .inl fx1_1))] sz) [(h0, .inr (1, [.ref ax1_0, .ref ax1_1, .ref ax1_2])), (ax1_1, .inl (cx1_1, 4, .inl z1))] [(cx1_1, .int)] t) (va_A [(h0, .inr (1, [.ref ax1_0, .ref ax1_1, .ref ax1_2])), (ax1_1, .inl (cx1_1, 4, .inl fx1_1))] sz)) 0 0 (va_A [(h0, .inr (1, [.ref ax1_0, .ref ax1_1, .ref ax1_2])), (ax1_1, .inl (cx1_1, 4, .inl fx1_1))] sz) := by
  refine Met.ofW (cc := cX1_shorten) (maxL := 4) (ret := (some .int)) (by decide) rfl ?_
  intro p e s m args below meth c s₁ B hml hv
  obtain ⟨rfl, hsz, hP, hK, hD0, hN⟩ := hv
  have hx := B.exec
  have hb := B.bytes
  have hr := B.returns
  have hts := atoms_spec (ws := .code yX1_shorten cX1_shorten 4 (some .int) :: pw) B.pre
  have hts : ∀ w ∈ pw, w.before _ s = true := fun w h => hts w (List.mem_cons_of_mem _ h)
  have hown : s.vm.findClass RX1 = some m.cls := findClass_of_methodNamed B.named
  have hlocks := B.notSynchronized
  subst hsz
  have hD := hD0.self (sz := s.heap.size)
  generalize hAe : va_A [(h0, .inr (1, [.ref ax1_0, .ref ax1_1, .ref ax1_2])), (ax1_1, .inl (cx1_1, 4, .inl fx1_1))] s.heap.size = A at hD ⊢
  have hA : ∀ q : Nat, s.heap.size ≤ q → A q := fun q h => by rw [← hAe]; exact Or.inr h
  have hS : va_S A s.heap s.heap [] := va_S.rf
  have hP : va_P (dC, dI) vwCl [(h0, .inr (1, [.ref ax1_0, .ref ax1_1, .ref ax1_2])), (ax1_1, .inl (cx1_1, 4, .inl fx1_1))] s.heap := hP
  have hl := lv_entry ([.ref h0, .int p0, .int p1]) (n := 4) (Nat.le_of_ble_eq_true rfl)
  rw [lg_entry_eq]
  generalize (lg_sl ([.ref h0, .int p0, .int p1]) ++ List.replicate (4 - (lg_sl ([.ref h0, .int p0, .int p1])).length) Slot.unset).toArray = ls at hl ⊢
  have hl : lv_has ls 4 [(0, .ref h0), (1, .int p0), (2, .int p1)] := hl
  refine lv_aload_n hx hb dX1_shorten_0 rfl (lv_at hl 0 rfl) ?_
  refine lv_iload_n hx hb dX1_shorten_1 rfl (lv_at hl 1 rfl) ?_
  have hPc := hP.sub (ws' := [(h0, .inr (1, [.ref ax1_0, .ref ax1_1, .ref ax1_2])), (ax1_1, .inl (cx1_1, 4, .inl fx1_1))]) [0, 1] rfl
  have hDc := hD.sub (ws' := [(h0, .inr (1, [.ref ax1_0, .ref ax1_1, .ref ax1_2])), (ax1_1, .inl (cx1_1, 4, .inl fx1_1))]) [0, 1] (by decide) rfl
  have hKc := hK.sub (tys' := [(cx1_1, .int)]) [0] rfl
  have hFc := va_free (wc := [(h0, .inr (1, [.ref ax1_0, .ref ax1_1, .ref ax1_2])), (ax1_1, .inl (cx1_1, 4, .inl fx1_1))]) hD hS hA [0, 1] rfl
  refine va_calli (va_runV (As := [.int p0]) (rest := []) ⟨hx, hb, hml, hown, hts⟩ (s_X1_sizeOf l dC dI h0 ax1_0 ax1_1 cx1_1 fx1_1 ax1_2 p0 s.heap.size) (cwV 1 hts (gV mw_4_19 mw_4_20 mw_4_21 mw_0_5 mw_47_2) rfl rfl rfl (by decide +kernel) ⟨(Nat.le_of_ble_eq_true rfl), (Nat.le_of_ble_eq_true rfl)⟩) (vV (ci := 1) (q0 := 0) hKc hPc hDc hN rfl rfl) rfl rfl hl.1 rfl (lv_room (Nat.le_of_ble_eq_true rfl)) dX1_shorten_2 ⟨(Nat.le_of_ble_eq_true rfl), (Nat.le_of_ble_eq_true rfl)⟩) hS (fun q _ h => hFc q h) hFc (fun r_1 u t H1 locs ht hvm hw hB hz1 hk1 hS => ?_)
  obtain ⟨hP1, hK1, hD1⟩ := hB
  rw [ht] at hP1
  have hK1 := va_K.moved hvm.symm hK1
  obtain ⟨hP, hD⟩ := va_join (wr := []) (w1 := [(h0, .inr (1, [.ref ax1_0, .ref ax1_1, .ref ax1_2])), (ax1_1, .inl (cx1_1, 4, .inl fx1_1))]) hP hD [0, 1] [] rfl rfl (by decide) (by decide) hk1 hFc hP1 hD1
  clear hPc hDc hKc hP1 hK1 hD1 hFc hk1 hz1
  generalize H1 = H at hP hS ⊢
  have hP : va_P (dC, dI) vwCl [(h0, .inr (1, [.ref ax1_0, .ref ax1_1, .ref ax1_2])), (ax1_1, .inl (cx1_1, 4, .inl fx1_1))] H := hP
  have hD : va_D A [(h0, .inr (1, [.ref ax1_0, .ref ax1_1, .ref ax1_2])), (ax1_1, .inl (cx1_1, 4, .inl fx1_1))] := hD
  rcases hw with q_2 | rfl
  · refine lv_istore_n (lv' := [(3, .int r_1), (0, .ref h0), (1, .int p0), (2, .int p1)]) hx hb dX1_shorten_5 rfl hl (by decide) rfl (fun ls hl => ?_)
    refine lv_aload_n hx hb dX1_shorten_6 rfl (lv_at hl 1 rfl) ?_
    refine lv_iload_n hx hb dX1_shorten_7 rfl (lv_at hl 2 rfl) ?_
    have hPc := hP.sub (ws' := [(h0, .inr (1, [.ref ax1_0, .ref ax1_1, .ref ax1_2]))]) [0] rfl
    have hDc := hD.sub (ws' := [(h0, .inr (1, [.ref ax1_0, .ref ax1_1, .ref ax1_2]))]) [0] (by decide) rfl
    have hKc := hK.sub (tys' := []) [] rfl
    have hFc := va_free (wc := [(h0, .inr (1, [.ref ax1_0, .ref ax1_1, .ref ax1_2]))]) hD hS hA [0] rfl
    refine va_calli (va_runV (As := [.int p0]) (rest := []) ⟨hx, hb, hml, hown, hts⟩ (s_X1_isNumber l dC dI h0 ax1_0 ax1_1 ax1_2 p0 H.size) (cwV 1 hts (gV mw_4_7 mw_4_8 mw_4_9 mw_0_5 mw_46_29) rfl rfl rfl (by decide +kernel) ⟨(Nat.le_of_ble_eq_true rfl), (Nat.le_of_ble_eq_true rfl)⟩) (vV (ci := 1) (q0 := 0) hKc hPc hDc hN rfl rfl) rfl rfl hl.1 rfl (lv_room (Nat.le_of_ble_eq_true rfl)) dX1_shorten_8 ⟨(Nat.le_of_ble_eq_true rfl), (Nat.le_of_ble_eq_true rfl)⟩) hS (fun q _ h => hFc q h) hFc (fun r_3 u t H1 locs ht hvm hw hB hz1 hk1 hS => ?_)
    obtain ⟨hP1, hK1, hD1⟩ := hB
    rw [ht] at hP1
    have hK1 := va_K.moved hvm.symm hK1
    obtain ⟨hP, hD⟩ := va_join (wr := [(ax1_1, .inl (cx1_1, 4, .inl fx1_1))]) (w1 := [(h0, .inr (1, [.ref ax1_0, .ref ax1_1, .ref ax1_2]))]) hP hD [0] [1] rfl rfl (by decide) (by decide) hk1 hFc hP1 hD1
    clear hPc hDc hKc hP1 hK1 hD1 hFc hk1 hz1
    generalize H1 = H at hP hS ⊢
    have hP : va_P (dC, dI) vwCl [(ax1_1, .inl (cx1_1, 4, .inl fx1_1)), (h0, .inr (1, [.ref ax1_0, .ref ax1_1, .ref ax1_2]))] H := hP
    have hD : va_D A [(ax1_1, .inl (cx1_1, 4, .inl fx1_1)), (h0, .inr (1, [.ref ax1_0, .ref ax1_1, .ref ax1_2]))] := hD
    rcases hw with rfl | ⟨rfl, g_4, g_5⟩
    · refine lv_if_eq (tgt := 21) hx hb dX1_shorten_11 (by decide) (fun _ => ?_) (fun h => absurd (by decide) h)
      refine lv_iload_n hx hb dX1_shorten_21 rfl (lv_at hl 0 rfl) ?_
      have hP9 := hP.sub (ws' := [(h0, .inr (1, [.ref ax1_0, .ref ax1_1, .ref ax1_2])), (ax1_1, .inl (cx1_1, 4, .inl fx1_1))]) [1, 0] rfl
      have hD9 := hD.sub (ws' := [(h0, .inr (1, [.ref ax1_0, .ref ax1_1, .ref ax1_2])), (ax1_1, .inl (cx1_1, 4, .inl fx1_1))]) [1, 0] (by decide) rfl
      have hK9 := hK.sub (tys' := [(cx1_1, .int)]) [0] rfl
      refine W.widen (k := 0) (n := 0) (Nat.le_of_ble_eq_true rfl) (Nat.le_of_ble_eq_true rfl) ?_
      exact W.iret (v := r_1) hx hb hr (fun t ht hW => ⟨⟨r_1, (), rfl, Or.inl ((by rw [q_2])), fx1_1, by rw [ht]; exact hP9, va_K.moved hW.alike hK9, hD9⟩, hS.F ht⟩) hS.2.2 dX1_shorten_22
    · refine lv_if_eq (tgt := 21) hx hb dX1_shorten_11 (by decide) (fun h => absurd h (by decide)) (fun _ => ?_)
      refine lv_aload_n hx hb dX1_shorten_14 rfl (lv_at hl 1 rfl) ?_
      refine va_get (D := (dC, dI)) (ci := 1) (v := .ref ax1_1) (C := RX1) (T := TX1) (N := 3) hx hb hts inlX1 hown hK hP 1 rfl rfl 1 (by decide) (hts (.fieldLink RX1 15 "ShapeReader$Messages" "sizes" "[I") mw_4_4) (fun _ h9 => h9) rfl dX1_shorten_15 ?_
      refine lv_iload_n hx hb dX1_shorten_18 rfl (lv_at hl 2 rfl) ?_
      refine lv_iload_n hx hb dX1_shorten_19 rfl (lv_at hl 3 rfl) ?_
      refine va_iast hx hb hK hP hD hS 0 0 rfl rfl (vp_in_iff.mpr (by have a0 := il_nlt g_4; have a1 := il_nle g_5; have e0 : (0 : Int32).toInt = 0 := (by decide); have e1 : (4 : Int32).toInt = 4 := (by decide); omega)) dX1_shorten_20 (fun H locs hP hD hS => ?_)
      obtain ⟨f_8, hP, hD⟩ : ∃ f_8 : Nat → Int32, va_P (dC, dI) vwCl [(ax1_1, .inl (cx1_1, 4, .inl f_8)), (h0, .inr (1, [.ref ax1_0, .ref ax1_1, .ref ax1_2]))] H ∧ va_D A [(ax1_1, .inl (cx1_1, 4, .inl f_8)), (h0, .inr (1, [.ref ax1_0, .ref ax1_1, .ref ax1_2]))] := ⟨_, hP, hD⟩
      refine lv_iload_n hx hb dX1_shorten_21 rfl (lv_at hl 0 rfl) ?_
      have hP9 := hP.sub (ws' := [(h0, .inr (1, [.ref ax1_0, .ref ax1_1, .ref ax1_2])), (ax1_1, .inl (cx1_1, 4, .inl f_8))]) [1, 0] rfl
      have hD9 := hD.sub (ws' := [(h0, .inr (1, [.ref ax1_0, .ref ax1_1, .ref ax1_2])), (ax1_1, .inl (cx1_1, 4, .inl f_8))]) [1, 0] (by decide) rfl
      have hK9 := hK.sub (tys' := [(cx1_1, .int)]) [0] rfl
      refine W.widen (k := 0) (n := 0) (Nat.le_of_ble_eq_true rfl) (Nat.le_of_ble_eq_true rfl) ?_
      exact W.iret (v := r_1) hx hb hr (fun t ht hW => ⟨⟨r_1, (), rfl, Or.inl ((by rw [q_2])), f_8, by rw [ht]; exact hP9, va_K.moved hW.alike hK9, hD9⟩, hS.F ht⟩) hS.2.2 dX1_shorten_22
  · refine lv_istore_n (lv' := [(3, .int 0), (0, .ref h0), (1, .int p0), (2, .int p1)]) hx hb dX1_shorten_5 rfl hl (by decide) rfl (fun ls hl => ?_)
    refine lv_aload_n hx hb dX1_shorten_6 rfl (lv_at hl 1 rfl) ?_
    refine lv_iload_n hx hb dX1_shorten_7 rfl (lv_at hl 2 rfl) ?_
    have hPc := hP.sub (ws' := [(h0, .inr (1, [.ref ax1_0, .ref ax1_1, .ref ax1_2]))]) [0] rfl
    have hDc := hD.sub (ws' := [(h0, .inr (1, [.ref ax1_0, .ref ax1_1, .ref ax1_2]))]) [0] (by decide) rfl
    have hKc := hK.sub (tys' := []) [] rfl
    have hFc := va_free (wc := [(h0, .inr (1, [.ref ax1_0, .ref ax1_1, .ref ax1_2]))]) hD hS hA [0] rfl
    refine va_calli (va_runV (As := [.int p0]) (rest := []) ⟨hx, hb, hml, hown, hts⟩ (s_X1_isNumber l dC dI h0 ax1_0 ax1_1 ax1_2 p0 H.size) (cwV 1 hts (gV mw_4_7 mw_4_8 mw_4_9 mw_0_5 mw_46_29) rfl rfl rfl (by decide +kernel) ⟨(Nat.le_of_ble_eq_true rfl), (Nat.le_of_ble_eq_true rfl)⟩) (vV (ci := 1) (q0 := 0) hKc hPc hDc hN rfl rfl) rfl rfl hl.1 rfl (lv_room (Nat.le_of_ble_eq_true rfl)) dX1_shorten_8 ⟨(Nat.le_of_ble_eq_true rfl), (Nat.le_of_ble_eq_true rfl)⟩) hS (fun q _ h => hFc q h) hFc (fun r_9 u t H1 locs ht hvm hw hB hz1 hk1 hS => ?_)
    obtain ⟨hP1, hK1, hD1⟩ := hB
    rw [ht] at hP1
    have hK1 := va_K.moved hvm.symm hK1
    obtain ⟨hP, hD⟩ := va_join (wr := [(ax1_1, .inl (cx1_1, 4, .inl fx1_1))]) (w1 := [(h0, .inr (1, [.ref ax1_0, .ref ax1_1, .ref ax1_2]))]) hP hD [0] [1] rfl rfl (by decide) (by decide) hk1 hFc hP1 hD1
    clear hPc hDc hKc hP1 hK1 hD1 hFc hk1 hz1
    generalize H1 = H at hP hS ⊢
    have hP : va_P (dC, dI) vwCl [(ax1_1, .inl (cx1_1, 4, .inl fx1_1)), (h0, .inr (1, [.ref ax1_0, .ref ax1_1, .ref ax1_2]))] H := hP
    have hD : va_D A [(ax1_1, .inl (cx1_1, 4, .inl fx1_1)), (h0, .inr (1, [.ref ax1_0, .ref ax1_1, .ref ax1_2]))] := hD
    rcases hw with rfl | ⟨rfl, g_10, g_11⟩
    · refine lv_if_eq (tgt := 21) hx hb dX1_shorten_11 (by decide) (fun _ => ?_) (fun h => absurd (by decide) h)
      refine lv_iload_n hx hb dX1_shorten_21 rfl (lv_at hl 0 rfl) ?_
      have hP9 := hP.sub (ws' := [(h0, .inr (1, [.ref ax1_0, .ref ax1_1, .ref ax1_2])), (ax1_1, .inl (cx1_1, 4, .inl fx1_1))]) [1, 0] rfl
      have hD9 := hD.sub (ws' := [(h0, .inr (1, [.ref ax1_0, .ref ax1_1, .ref ax1_2])), (ax1_1, .inl (cx1_1, 4, .inl fx1_1))]) [1, 0] (by decide) rfl
      have hK9 := hK.sub (tys' := [(cx1_1, .int)]) [0] rfl
      refine W.widen (k := 0) (n := 0) (Nat.le_of_ble_eq_true rfl) (Nat.le_of_ble_eq_true rfl) ?_
      exact W.iret (v := 0) hx hb hr (fun t ht hW => ⟨⟨0, (), rfl, Or.inr (rfl), fx1_1, by rw [ht]; exact hP9, va_K.moved hW.alike hK9, hD9⟩, hS.F ht⟩) hS.2.2 dX1_shorten_22
    · refine lv_if_eq (tgt := 21) hx hb dX1_shorten_11 (by decide) (fun h => absurd h (by decide)) (fun _ => ?_)
      refine lv_aload_n hx hb dX1_shorten_14 rfl (lv_at hl 1 rfl) ?_
      refine va_get (D := (dC, dI)) (ci := 1) (v := .ref ax1_1) (C := RX1) (T := TX1) (N := 3) hx hb hts inlX1 hown hK hP 1 rfl rfl 1 (by decide) (hts (.fieldLink RX1 15 "ShapeReader$Messages" "sizes" "[I") mw_4_4) (fun _ h9 => h9) rfl dX1_shorten_15 ?_
      refine lv_iload_n hx hb dX1_shorten_18 rfl (lv_at hl 2 rfl) ?_
      refine lv_iload_n hx hb dX1_shorten_19 rfl (lv_at hl 3 rfl) ?_
      refine va_iast hx hb hK hP hD hS 0 0 rfl rfl (vp_in_iff.mpr (by have a0 := il_nlt g_10; have a1 := il_nle g_11; have e0 : (0 : Int32).toInt = 0 := (by decide); have e1 : (4 : Int32).toInt = 4 := (by decide); omega)) dX1_shorten_20 (fun H locs hP hD hS => ?_)
      obtain ⟨f_14, hP, hD⟩ : ∃ f_14 : Nat → Int32, va_P (dC, dI) vwCl [(ax1_1, .inl (cx1_1, 4, .inl f_14)), (h0, .inr (1, [.ref ax1_0, .ref ax1_1, .ref ax1_2]))] H ∧ va_D A [(ax1_1, .inl (cx1_1, 4, .inl f_14)), (h0, .inr (1, [.ref ax1_0, .ref ax1_1, .ref ax1_2]))] := ⟨_, hP, hD⟩
      refine lv_iload_n hx hb dX1_shorten_21 rfl (lv_at hl 0 rfl) ?_
      have hP9 := hP.sub (ws' := [(h0, .inr (1, [.ref ax1_0, .ref ax1_1, .ref ax1_2])), (ax1_1, .inl (cx1_1, 4, .inl f_14))]) [1, 0] rfl
      have hD9 := hD.sub (ws' := [(h0, .inr (1, [.ref ax1_0, .ref ax1_1, .ref ax1_2])), (ax1_1, .inl (cx1_1, 4, .inl f_14))]) [1, 0] (by decide) rfl
      have hK9 := hK.sub (tys' := [(cx1_1, .int)]) [0] rfl
      refine W.widen (k := 0) (n := 0) (Nat.le_of_ble_eq_true rfl) (Nat.le_of_ble_eq_true rfl) ?_
      exact W.iret (v := 0) hx hb hr (fun t ht hW => ⟨⟨0, (), rfl, Or.inr (rfl), f_14, by rw [ht]; exact hP9, va_K.moved hW.alike hK9, hD9⟩, hS.F ht⟩) hS.2.2 dX1_shorten_22

set_option maxRecDepth 100000 in
set_option maxHeartbeats 4000000 in
theorem s_X1_writtenBits_L {p : Program} {e : Env} {s : State} {m : MethodId} {below : List Frame} {meth : Method} {c : Code} (l : Launch) (dC : Nat → ClassId) (dI : Nat → Nat → Nat) (h0 : Nat) (ax1_0 : Nat) (ax1_1 : Nat) (ax1_2 : Nat) (cx1_2 : ClassId) (fx1_2 : Nat → Int32) (A : Nat → Prop) (hx : p.tables.exec = Jvm.exec) (hb : c.code = cX1_writtenBits) (hr : meth.sig.returnType = (some .int)) (hml : c.maxLocals = 3) (hown : s.vm.findClass RX1 = some m.cls) (hts : ∀ w ∈ pw, w.before (([.ref h0] : List Value).toArray) s = true) (hlocks : meth.locks = false) (hA : ∀ q : Nat, s.heap.size ≤ q → A q) (hN : nN s) (hK : va_K (dC, dI) vwCl [(cx1_2, .int)] s) : ∀ (n : Nat) (v2 : Int32) (v1 : Int32) (H : Heap) (locs : List Loc) (ls : Array Slot), (4 - v2.toInt).toNat < n → 0 ≤ v2.toInt ∧ v2.toInt ≤ 4 → va_P (dC, dI) vwCl [(h0, .inr (1, [.ref ax1_0, .ref ax1_1, .ref ax1_2])), (ax1_2, .inl (cx1_2, 4, .inl fx1_2))] H → va_D A [(h0, .inr (1, [.ref ax1_0, .ref ax1_1, .ref ax1_2])), (ax1_2, .inl (cx1_2, 4, .inl fx1_2))] → va_S A s.heap H locs → lv_has ls 3 [(2, .int v2), (1, .int v1), (0, .ref h0)] → W p l e ({ frames := 2, cells := 0, slots := 0, locals := 42 } : Room) s m (([.ref h0] : List Value).toArray) below meth c H locs 0 0 (MQ below (va_Qi (fun (r : Int32) (_ : Unit) => True) (fun (_ : Unit) t => vPst dC dI A [(h0, .inr (1, [.ref ax1_0, .ref ax1_1, .ref ax1_2])), (ax1_2, .inl (cx1_2, 4, .inl fx1_2))] [(cx1_2, .int)] t) A) (([.ref h0] : List Value).toArray) s 0 0 A) (F0 m 4 ls []) := by
  intro n
  induction n with
  | zero =>
    intro v2 v1 H locs ls hn
    exact absurd hn (Nat.not_lt_zero _)
  | succ n ih =>
    intro v2 v1 H locs ls hn hb_2 hP hD hS hl
    refine lv_iload_n hx hb dX1_writtenBits_4 rfl (lv_at hl 0 rfl) ?_
    refine lv_iconst (v := 4) hx hb dX1_writtenBits_5 (by decide) ?_
    refine lv_icmp_ge (tgt := 29) hx hb dX1_writtenBits_6 (by decide) (fun c_101 => ?_) (fun c_101 => ?_)
    · refine lv_iload_n hx hb dX1_writtenBits_29 rfl (lv_at hl 1 rfl) ?_
      have hP9 := hP.sub (ws' := [(h0, .inr (1, [.ref ax1_0, .ref ax1_1, .ref ax1_2])), (ax1_2, .inl (cx1_2, 4, .inl fx1_2))]) [0, 1] rfl
      have hD9 := hD.sub (ws' := [(h0, .inr (1, [.ref ax1_0, .ref ax1_1, .ref ax1_2])), (ax1_2, .inl (cx1_2, 4, .inl fx1_2))]) [0, 1] (by decide) rfl
      have hK9 := hK.sub (tys' := [(cx1_2, .int)]) [0] rfl
      refine W.widen (k := 0) (n := 0) (Nat.le_of_ble_eq_true rfl) (Nat.le_of_ble_eq_true rfl) ?_
      exact W.iret (v := v1) hx hb hr (fun t ht hW => ⟨⟨v1, (), rfl, trivial, by rw [ht]; exact hP9, va_K.moved hW.alike hK9, hD9⟩, hS.F ht⟩) hS.2.2 dX1_writtenBits_30
    · refine lv_aload_n hx hb dX1_writtenBits_9 rfl (lv_at hl 2 rfl) ?_
      refine lv_iload_n hx hb dX1_writtenBits_10 rfl (lv_at hl 0 rfl) ?_
      have hPc := hP.sub (ws' := [(h0, .inr (1, [.ref ax1_0, .ref ax1_1, .ref ax1_2])), (ax1_2, .inl (cx1_2, 4, .inl fx1_2))]) [0, 1] rfl
      have hDc := hD.sub (ws' := [(h0, .inr (1, [.ref ax1_0, .ref ax1_1, .ref ax1_2])), (ax1_2, .inl (cx1_2, 4, .inl fx1_2))]) [0, 1] (by decide) rfl
      have hKc := hK.sub (tys' := [(cx1_2, .int)]) [0] rfl
      have hFc := va_free (wc := [(h0, .inr (1, [.ref ax1_0, .ref ax1_1, .ref ax1_2])), (ax1_2, .inl (cx1_2, 4, .inl fx1_2))]) hD hS hA [0, 1] rfl
      refine va_calli (va_runV (As := [.int v2]) (rest := []) ⟨hx, hb, hml, hown, hts⟩ (s_X1_isWritten l dC dI h0 ax1_0 ax1_1 ax1_2 cx1_2 fx1_2 v2 H.size) (cwV 1 hts (gV mw_4_10 mw_4_11 mw_4_12 mw_0_5 mw_47_0) rfl rfl rfl (by decide +kernel) ⟨(Nat.le_of_ble_eq_true rfl), (Nat.le_of_ble_eq_true rfl)⟩) (vV (ci := 1) (q0 := 0) hKc hPc hDc hN rfl rfl) rfl rfl hl.1 rfl (lv_room (Nat.le_of_ble_eq_true rfl)) dX1_writtenBits_11 ⟨(Nat.le_of_ble_eq_true rfl), (Nat.le_of_ble_eq_true rfl)⟩) hS (fun q _ h => hFc q h) hFc (fun r_102 u t H1 locs ht hvm hw hB hz1 hk1 hS => ?_)
      obtain ⟨hP1, hK1, hD1⟩ := hB
      rw [ht] at hP1
      have hK1 := va_K.moved hvm.symm hK1
      obtain ⟨hP, hD⟩ := va_join (wr := []) (w1 := [(h0, .inr (1, [.ref ax1_0, .ref ax1_1, .ref ax1_2])), (ax1_2, .inl (cx1_2, 4, .inl fx1_2))]) hP hD [0, 1] [] rfl rfl (by decide) (by decide) hk1 hFc hP1 hD1
      clear hPc hDc hKc hP1 hK1 hD1 hFc hk1 hz1
      generalize H1 = H at hP hS ⊢
      have hP : va_P (dC, dI) vwCl [(h0, .inr (1, [.ref ax1_0, .ref ax1_1, .ref ax1_2])), (ax1_2, .inl (cx1_2, 4, .inl fx1_2))] H := hP
      have hD : va_D A [(h0, .inr (1, [.ref ax1_0, .ref ax1_1, .ref ax1_2])), (ax1_2, .inl (cx1_2, 4, .inl fx1_2))] := hD
      rcases hw with rfl | rfl
      · refine lv_if_eq (tgt := 23) hx hb dX1_writtenBits_14 (by decide) (fun _ => ?_) (fun h => absurd (by decide) h)
        obtain ⟨x_104, ex_104⟩ : ∃ y : Int32, y = v2 + Int32.ofInt 1 := ⟨_, rfl⟩
        have bx_104 : (1 : Int) ≤ x_104.toInt ∧ x_104.toInt ≤ (4 : Int) := by have r0 := il_rng v2; have a0 := hb_2.1; have a1 := hb_2.2; have a2 := il_nle c_101; have e0 : (4 : Int32).toInt = 4 := (by decide); have k9 : (Int32.ofInt 1).toInt = (1 : Int) := (by decide); rw [ex_104, il_addE (by rw [k9]; omega) (by rw [k9]; omega), k9]; omega
        refine lv_iinc (v := x_104) (lv' := [(2, .int x_104), (1, .int v1), (0, .ref h0)]) hx hb dX1_writtenBits_23 hl (k := 0) rfl ex_104.symm (by decide) rfl (fun ls hl => ?_)
        refine lv_goto (tgt := 4) hx hb dX1_writtenBits_26 (by decide) ?_
        exact ih x_104 v1 _ _ _ (by have a0 := bx_104.1; have a1 := bx_104.2; have a2 := hb_2.1; have a3 := hb_2.2; have a4 := il_nle c_101; have e0 : (4 : Int32).toInt = 4 := (by decide); have r8 := il_rng v2; have m9 : x_104.toInt = v2.toInt + (1) := (by rw [ex_104]; have k9 : (Int32.ofInt (1)).toInt = (1) := (by decide); rw [il_addE (by rw [k9]; omega) (by rw [k9]; omega), k9]); omega) (by have a0 := bx_104.1; have a1 := bx_104.2; omega) (hP.sub [0, 1] rfl) (hD.sub [0, 1] (by decide) rfl) hS (lv_sub hl [0, 1, 2] rfl)
      · refine lv_if_eq (tgt := 23) hx hb dX1_writtenBits_14 (by decide) (fun h => absurd h (by decide)) (fun _ => ?_)
        refine lv_iload_n hx hb dX1_writtenBits_17 rfl (lv_at hl 1 rfl) ?_
        refine lv_iconst (v := 1) hx hb dX1_writtenBits_18 (by decide) ?_
        refine lv_iload_n hx hb dX1_writtenBits_19 rfl (lv_at hl 0 rfl) ?_
        refine lv_ishl hx hb dX1_writtenBits_20 ?_
        refine lv_topi (fun x_106 ex_106 => ?_)
        refine lv_ior hx hb dX1_writtenBits_21 ?_
        refine lv_topi (fun x_107 ex_107 => ?_)
        refine lv_istore_n (lv' := [(1, .int x_107), (2, .int v2), (0, .ref h0)]) hx hb dX1_writtenBits_22 rfl hl (by decide) rfl (fun ls hl => ?_)
        obtain ⟨x_108, ex_108⟩ : ∃ y : Int32, y = v2 + Int32.ofInt 1 := ⟨_, rfl⟩
        have bx_108 : (1 : Int) ≤ x_108.toInt ∧ x_108.toInt ≤ (4 : Int) := by have r0 := il_rng v2; have a0 := hb_2.1; have a1 := hb_2.2; have a2 := il_nle c_101; have e0 : (4 : Int32).toInt = 4 := (by decide); have k9 : (Int32.ofInt 1).toInt = (1 : Int) := (by decide); rw [ex_108, il_addE (by rw [k9]; omega) (by rw [k9]; omega), k9]; omega
        refine lv_iinc (v := x_108) (lv' := [(2, .int x_108), (1, .int x_107), (0, .ref h0)]) hx hb dX1_writtenBits_23 hl (k := 1) rfl ex_108.symm (by decide) rfl (fun ls hl => ?_)
        refine lv_goto (tgt := 4) hx hb dX1_writtenBits_26 (by decide) ?_
        exact ih x_108 x_107 _ _ _ (by have a0 := bx_108.1; have a1 := bx_108.2; have a2 := hb_2.1; have a3 := hb_2.2; have a4 := il_nle c_101; have e0 : (4 : Int32).toInt = 4 := (by decide); have r8 := il_rng v2; have m9 : x_108.toInt = v2.toInt + (1) := (by rw [ex_108]; have k9 : (Int32.ofInt (1)).toInt = (1) := (by decide); rw [il_addE (by rw [k9]; omega) (by rw [k9]; omega), k9]); omega) (by have a0 := bx_108.1; have a1 := bx_108.2; omega) (hP.sub [0, 1] rfl) (hD.sub [0, 1] (by decide) rfl) hS (lv_sub hl [0, 1, 2] rfl)
set_option maxRecDepth 100000 in
set_option maxHeartbeats 4000000 in
theorem s_X1_writtenBits (l : Launch) (dC : Nat → ClassId) (dI : Nat → Nat → Nat) (h0 : Nat) (ax1_0 : Nat) (ax1_1 : Nat) (ax1_2 : Nat) (cx1_2 : ClassId) (fx1_2 : Nat → Int32) (sz : Nat) : Met l yX1_writtenBits (.code yX1_writtenBits cX1_writtenBits 3 (some .int) :: pw) ({ frames := 2, cells := 0, slots := 0, locals := 42 }) (va_Pc [.ref h0] (vPre dC dI [(h0, .inr (1, [.ref ax1_0, .ref ax1_1, .ref ax1_2])), (ax1_2, .inl (cx1_2, 4, .inl fx1_2))] [(cx1_2, .int)] sz)) (va_Qi (fun (r : Int32) (_ : Unit) => True) (fun (_ : Unit) t => vPst dC dI (va_A [(h0, .inr (1, [.ref ax1_0, .ref ax1_1, .ref ax1_2])), (ax1_2, .inl (cx1_2, 4, .inl fx1_2))] sz) [(h0, .inr (1, [.ref ax1_0, .ref ax1_1, .ref ax1_2])), (ax1_2, .inl (cx1_2, 4, .inl fx1_2))] [(cx1_2, .int)] t) (va_A [(h0, .inr (1, [.ref ax1_0, .ref ax1_1, .ref ax1_2])), (ax1_2, .inl (cx1_2, 4, .inl fx1_2))] sz)) 0 0 (va_A [(h0, .inr (1, [.ref ax1_0, .ref ax1_1, .ref ax1_2])), (ax1_2, .inl (cx1_2, 4, .inl fx1_2))] sz) := by
  refine Met.ofW (cc := cX1_writtenBits) (maxL := 3) (ret := (some .int)) (by decide) rfl ?_
  intro p e s m args below meth c s₁ B hml hv
  obtain ⟨rfl, hsz, hP, hK, hD0, hN⟩ := hv
  have hx := B.exec
  have hb := B.bytes
  have hr := B.returns
  have hts := atoms_spec (ws := .code yX1_writtenBits cX1_writtenBits 3 (some .int) :: pw) B.pre
  have hts : ∀ w ∈ pw, w.before _ s = true := fun w h => hts w (List.mem_cons_of_mem _ h)
  have hown : s.vm.findClass RX1 = some m.cls := findClass_of_methodNamed B.named
  have hlocks := B.notSynchronized
  subst hsz
  have hD := hD0.self (sz := s.heap.size)
  generalize hAe : va_A [(h0, .inr (1, [.ref ax1_0, .ref ax1_1, .ref ax1_2])), (ax1_2, .inl (cx1_2, 4, .inl fx1_2))] s.heap.size = A at hD ⊢
  have hA : ∀ q : Nat, s.heap.size ≤ q → A q := fun q h => by rw [← hAe]; exact Or.inr h
  have hS : va_S A s.heap s.heap [] := va_S.rf
  have hP : va_P (dC, dI) vwCl [(h0, .inr (1, [.ref ax1_0, .ref ax1_1, .ref ax1_2])), (ax1_2, .inl (cx1_2, 4, .inl fx1_2))] s.heap := hP
  have hl := lv_entry ([.ref h0]) (n := 3) (Nat.le_of_ble_eq_true rfl)
  rw [lg_entry_eq]
  generalize (lg_sl ([.ref h0]) ++ List.replicate (3 - (lg_sl ([.ref h0])).length) Slot.unset).toArray = ls at hl ⊢
  have hl : lv_has ls 3 [(0, .ref h0)] := hl
  refine lv_iconst (v := 0) hx hb dX1_writtenBits_0 (by decide) ?_
  refine lv_istore_n (lv' := [(1, .int 0), (0, .ref h0)]) hx hb dX1_writtenBits_1 rfl hl (by decide) rfl (fun ls hl => ?_)
  refine lv_iconst (v := 0) hx hb dX1_writtenBits_2 (by decide) ?_
  refine lv_istore_n (lv' := [(2, .int 0), (1, .int 0), (0, .ref h0)]) hx hb dX1_writtenBits_3 rfl hl (by decide) rfl (fun ls hl => ?_)
  exact s_X1_writtenBits_L l dC dI h0 ax1_0 ax1_1 ax1_2 cx1_2 fx1_2 A hx hb hr hml hown hts hlocks hA hN (hK.sub [0] rfl) _ (0 : Int32) (0 : Int32) _ _ _ (Nat.lt_succ_self _) ⟨by decide, by decide⟩ (hP.sub [0, 1] rfl) (hD.sub [0, 1] (by decide) rfl) hS (lv_sub hl [0, 1, 2] rfl)

set_option maxRecDepth 100000 in
set_option maxHeartbeats 4000000 in
theorem s_X4_stepAt (l : Launch) (dC : Nat → ClassId) (dI : Nat → Nat → Nat) (h0 : Nat) (ox4_0 : Nat) (ox4_1 : Nat) (ox4_2 : Nat) (ox4_3 : Nat) (xx4_4 : Int32) (xx4_5 : Int32) (xx4_6 : Int32) (xx4_7 : Int32) (xx4_8 : Int32) (ax4_9 : Nat) (cx4_9 : ClassId) (fx4_9 : Nat → Int32) (xx4_10 : Int32) (ax4_11 : Nat) (p0 : Int32) (sz : Nat) : Met l yX4_stepAt (.code yX4_stepAt cX4_stepAt 2 (some .int) :: pw) ({ frames := 0, cells := 0, slots := 0, locals := 0 }) (va_Pc [.ref h0, .int p0] (vPre dC dI [(h0, .inr (4, [.ref ox4_0, .ref ox4_1, .ref ox4_2, .ref ox4_3, .int xx4_4, .int xx4_5, .int xx4_6, .int xx4_7, .int xx4_8, .ref ax4_9, .int xx4_10, .ref ax4_11])), (ax4_9, .inl (cx4_9, 64, .inl fx4_9))] [(cx4_9, .int)] sz)) (va_Qi (fun (r : Int32) (_ : Unit) => (r = (fx4_9 p0.toNatClampNeg) ∧ ¬ p0 < 0 ∧ ¬ xx4_10 ≤ p0 ∧ ¬ 64 ≤ p0) ∨ (r = (-1))) (fun (_ : Unit) t => vPst dC dI (va_A [(h0, .inr (4, [.ref ox4_0, .ref ox4_1, .ref ox4_2, .ref ox4_3, .int xx4_4, .int xx4_5, .int xx4_6, .int xx4_7, .int xx4_8, .ref ax4_9, .int xx4_10, .ref ax4_11])), (ax4_9, .inl (cx4_9, 64, .inl fx4_9))] sz) [(h0, .inr (4, [.ref ox4_0, .ref ox4_1, .ref ox4_2, .ref ox4_3, .int xx4_4, .int xx4_5, .int xx4_6, .int xx4_7, .int xx4_8, .ref ax4_9, .int xx4_10, .ref ax4_11])), (ax4_9, .inl (cx4_9, 64, .inl fx4_9))] [(cx4_9, .int)] t) (va_A [(h0, .inr (4, [.ref ox4_0, .ref ox4_1, .ref ox4_2, .ref ox4_3, .int xx4_4, .int xx4_5, .int xx4_6, .int xx4_7, .int xx4_8, .ref ax4_9, .int xx4_10, .ref ax4_11])), (ax4_9, .inl (cx4_9, 64, .inl fx4_9))] sz)) 0 0 (va_A [(h0, .inr (4, [.ref ox4_0, .ref ox4_1, .ref ox4_2, .ref ox4_3, .int xx4_4, .int xx4_5, .int xx4_6, .int xx4_7, .int xx4_8, .ref ax4_9, .int xx4_10, .ref ax4_11])), (ax4_9, .inl (cx4_9, 64, .inl fx4_9))] sz) := by
  refine Met.ofW (cc := cX4_stepAt) (maxL := 2) (ret := (some .int)) (by decide) rfl ?_
  intro p e s m args below meth c s₁ B hml hv
  obtain ⟨rfl, hsz, hP, hK, hD0, hN⟩ := hv
  have hx := B.exec
  have hb := B.bytes
  have hr := B.returns
  have hts := atoms_spec (ws := .code yX4_stepAt cX4_stepAt 2 (some .int) :: pw) B.pre
  have hts : ∀ w ∈ pw, w.before _ s = true := fun w h => hts w (List.mem_cons_of_mem _ h)
  have hown : s.vm.findClass RX4 = some m.cls := findClass_of_methodNamed B.named
  have hlocks := B.notSynchronized
  subst hsz
  have hD := hD0.self (sz := s.heap.size)
  generalize hAe : va_A [(h0, .inr (4, [.ref ox4_0, .ref ox4_1, .ref ox4_2, .ref ox4_3, .int xx4_4, .int xx4_5, .int xx4_6, .int xx4_7, .int xx4_8, .ref ax4_9, .int xx4_10, .ref ax4_11])), (ax4_9, .inl (cx4_9, 64, .inl fx4_9))] s.heap.size = A at hD ⊢
  have hA : ∀ q : Nat, s.heap.size ≤ q → A q := fun q h => by rw [← hAe]; exact Or.inr h
  have hS : va_S A s.heap s.heap [] := va_S.rf
  have hP : va_P (dC, dI) vwCl [(h0, .inr (4, [.ref ox4_0, .ref ox4_1, .ref ox4_2, .ref ox4_3, .int xx4_4, .int xx4_5, .int xx4_6, .int xx4_7, .int xx4_8, .ref ax4_9, .int xx4_10, .ref ax4_11])), (ax4_9, .inl (cx4_9, 64, .inl fx4_9))] s.heap := hP
  have hl := lv_entry ([.ref h0, .int p0]) (n := 2) (Nat.le_of_ble_eq_true rfl)
  rw [lg_entry_eq]
  generalize (lg_sl ([.ref h0, .int p0]) ++ List.replicate (2 - (lg_sl ([.ref h0, .int p0])).length) Slot.unset).toArray = ls at hl ⊢
  have hl : lv_has ls 2 [(0, .ref h0), (1, .int p0)] := hl
  refine lv_iload_n hx hb dX4_stepAt_0 rfl (lv_at hl 1 rfl) ?_
  refine lv_if_lt (tgt := 27) hx hb dX4_stepAt_1 (by decide) (fun c_1 => ?_) (fun c_1 => ?_)
  · refine lv_iconst (v := (-1)) hx hb dX4_stepAt_27 (by decide) ?_
    have hP9 := hP.sub (ws' := [(h0, .inr (4, [.ref ox4_0, .ref ox4_1, .ref ox4_2, .ref ox4_3, .int xx4_4, .int xx4_5, .int xx4_6, .int xx4_7, .int xx4_8, .ref ax4_9, .int xx4_10, .ref ax4_11])), (ax4_9, .inl (cx4_9, 64, .inl fx4_9))]) [0, 1] rfl
    have hD9 := hD.sub (ws' := [(h0, .inr (4, [.ref ox4_0, .ref ox4_1, .ref ox4_2, .ref ox4_3, .int xx4_4, .int xx4_5, .int xx4_6, .int xx4_7, .int xx4_8, .ref ax4_9, .int xx4_10, .ref ax4_11])), (ax4_9, .inl (cx4_9, 64, .inl fx4_9))]) [0, 1] (by decide) rfl
    have hK9 := hK.sub (tys' := [(cx4_9, .int)]) [0] rfl
    refine W.widen (k := 0) (n := 0) (Nat.le_of_ble_eq_true rfl) (Nat.le_of_ble_eq_true rfl) ?_
    exact W.iret (v := (-1)) hx hb hr (fun t ht hW => ⟨⟨(-1), (), rfl, Or.inr (rfl), by rw [ht]; exact hP9, va_K.moved hW.alike hK9, hD9⟩, hS.F ht⟩) hS.2.2 dX4_stepAt_28
  · refine lv_iload_n hx hb dX4_stepAt_4 rfl (lv_at hl 1 rfl) ?_
    refine lv_aload_n hx hb dX4_stepAt_5 rfl (lv_at hl 0 rfl) ?_
    refine va_get (D := (dC, dI)) (ci := 4) (v := .int xx4_10) (C := RX4) (T := TX4) (N := 12) hx hb hts inlX4 hown hK hP 0 rfl rfl 10 (by decide) (hts (.fieldLink RX4 31 "ShapeReader$Reading" "steps" "I") mw_10_21) (fun _ h9 => h9) rfl dX4_stepAt_6 ?_
    refine lv_icmp_ge (tgt := 27) hx hb dX4_stepAt_9 (by decide) (fun c_2 => ?_) (fun c_2 => ?_)
    · refine lv_iconst (v := (-1)) hx hb dX4_stepAt_27 (by decide) ?_
      have hP9 := hP.sub (ws' := [(h0, .inr (4, [.ref ox4_0, .ref ox4_1, .ref ox4_2, .ref ox4_3, .int xx4_4, .int xx4_5, .int xx4_6, .int xx4_7, .int xx4_8, .ref ax4_9, .int xx4_10, .ref ax4_11])), (ax4_9, .inl (cx4_9, 64, .inl fx4_9))]) [0, 1] rfl
      have hD9 := hD.sub (ws' := [(h0, .inr (4, [.ref ox4_0, .ref ox4_1, .ref ox4_2, .ref ox4_3, .int xx4_4, .int xx4_5, .int xx4_6, .int xx4_7, .int xx4_8, .ref ax4_9, .int xx4_10, .ref ax4_11])), (ax4_9, .inl (cx4_9, 64, .inl fx4_9))]) [0, 1] (by decide) rfl
      have hK9 := hK.sub (tys' := [(cx4_9, .int)]) [0] rfl
      refine W.widen (k := 0) (n := 0) (Nat.le_of_ble_eq_true rfl) (Nat.le_of_ble_eq_true rfl) ?_
      exact W.iret (v := (-1)) hx hb hr (fun t ht hW => ⟨⟨(-1), (), rfl, Or.inr (rfl), by rw [ht]; exact hP9, va_K.moved hW.alike hK9, hD9⟩, hS.F ht⟩) hS.2.2 dX4_stepAt_28
    · refine lv_iload_n hx hb dX4_stepAt_12 rfl (lv_at hl 1 rfl) ?_
      refine lv_bipush (v := 64) hx hb dX4_stepAt_13 (by decide) ?_
      refine lv_icmp_ge (tgt := 27) hx hb dX4_stepAt_15 (by decide) (fun c_3 => ?_) (fun c_3 => ?_)
      · refine lv_iconst (v := (-1)) hx hb dX4_stepAt_27 (by decide) ?_
        have hP9 := hP.sub (ws' := [(h0, .inr (4, [.ref ox4_0, .ref ox4_1, .ref ox4_2, .ref ox4_3, .int xx4_4, .int xx4_5, .int xx4_6, .int xx4_7, .int xx4_8, .ref ax4_9, .int xx4_10, .ref ax4_11])), (ax4_9, .inl (cx4_9, 64, .inl fx4_9))]) [0, 1] rfl
        have hD9 := hD.sub (ws' := [(h0, .inr (4, [.ref ox4_0, .ref ox4_1, .ref ox4_2, .ref ox4_3, .int xx4_4, .int xx4_5, .int xx4_6, .int xx4_7, .int xx4_8, .ref ax4_9, .int xx4_10, .ref ax4_11])), (ax4_9, .inl (cx4_9, 64, .inl fx4_9))]) [0, 1] (by decide) rfl
        have hK9 := hK.sub (tys' := [(cx4_9, .int)]) [0] rfl
        refine W.widen (k := 0) (n := 0) (Nat.le_of_ble_eq_true rfl) (Nat.le_of_ble_eq_true rfl) ?_
        exact W.iret (v := (-1)) hx hb hr (fun t ht hW => ⟨⟨(-1), (), rfl, Or.inr (rfl), by rw [ht]; exact hP9, va_K.moved hW.alike hK9, hD9⟩, hS.F ht⟩) hS.2.2 dX4_stepAt_28
      · refine lv_aload_n hx hb dX4_stepAt_18 rfl (lv_at hl 0 rfl) ?_
        refine va_get (D := (dC, dI)) (ci := 4) (v := .ref ax4_9) (C := RX4) (T := TX4) (N := 12) hx hb hts inlX4 hown hK hP 0 rfl rfl 9 (by decide) (hts (.fieldLink RX4 27 "ShapeReader$Reading" "path" "[I") mw_10_20) (fun _ h9 => h9) rfl dX4_stepAt_19 ?_
        refine lv_iload_n hx hb dX4_stepAt_22 rfl (lv_at hl 1 rfl) ?_
        refine va_iald hx hb hK hP 1 0 rfl rfl (vp_in_iff.mpr (by have a0 := il_nlt c_1; have a1 := il_nle c_3; have e0 : (0 : Int32).toInt = 0 := (by decide); have e1 : (64 : Int32).toInt = 64 := (by decide); omega)) dX4_stepAt_23 ?_
        refine lv_topi (fun x_4 ex_4 => ?_)
        refine lv_goto (tgt := 28) hx hb dX4_stepAt_24 (by decide) ?_
        have hP9 := hP.sub (ws' := [(h0, .inr (4, [.ref ox4_0, .ref ox4_1, .ref ox4_2, .ref ox4_3, .int xx4_4, .int xx4_5, .int xx4_6, .int xx4_7, .int xx4_8, .ref ax4_9, .int xx4_10, .ref ax4_11])), (ax4_9, .inl (cx4_9, 64, .inl fx4_9))]) [0, 1] rfl
        have hD9 := hD.sub (ws' := [(h0, .inr (4, [.ref ox4_0, .ref ox4_1, .ref ox4_2, .ref ox4_3, .int xx4_4, .int xx4_5, .int xx4_6, .int xx4_7, .int xx4_8, .ref ax4_9, .int xx4_10, .ref ax4_11])), (ax4_9, .inl (cx4_9, 64, .inl fx4_9))]) [0, 1] (by decide) rfl
        have hK9 := hK.sub (tys' := [(cx4_9, .int)]) [0] rfl
        refine W.widen (k := 0) (n := 0) (Nat.le_of_ble_eq_true rfl) (Nat.le_of_ble_eq_true rfl) ?_
        exact W.iret (v := x_4) hx hb hr (fun t ht hW => ⟨⟨x_4, (), rfl, Or.inl (⟨(by rw [ex_4]), c_1, c_2, c_3⟩), by rw [ht]; exact hP9, va_K.moved hW.alike hK9, hD9⟩, hS.F ht⟩) hS.2.2 dX4_stepAt_28

set_option maxRecDepth 100000 in
set_option maxHeartbeats 4000000 in
theorem s_X4_fail (l : Launch) (dC : Nat → ClassId) (dI : Nat → Nat → Nat) (h0 : Nat) (ox4_0 : Nat) (ox4_1 : Nat) (ox4_2 : Nat) (ox4_3 : Nat) (xx4_4 : Int32) (xx4_5 : Int32) (xx4_6 : Int32) (xx4_7 : Int32) (xx4_8 : Int32) (ax4_9 : Nat) (xx4_10 : Int32) (ax4_11 : Nat) (p0 : Int32) (p1 : Int32) (sz : Nat) : Met l yX4_fail (.code yX4_fail cX4_fail 3 none :: pw) ({ frames := 0, cells := 0, slots := 0, locals := 0 }) (va_Pc [.ref h0, .int p0, .int p1] (vPre dC dI [(h0, .inr (4, [.ref ox4_0, .ref ox4_1, .ref ox4_2, .ref ox4_3, .int xx4_4, .int xx4_5, .int xx4_6, .int xx4_7, .int xx4_8, .ref ax4_9, .int xx4_10, .ref ax4_11]))] [] sz)) (va_Qv (fun (_ : Unit) => True) (fun (_ : Unit) t => ∃ (y0_7 : Int32), ∃ (y0_8 : Int32), ∃ (y0_10 : Int32), vPst dC dI (va_A [(h0, .inr (4, [.ref ox4_0, .ref ox4_1, .ref ox4_2, .ref ox4_3, .int xx4_4, .int xx4_5, .int xx4_6, .int xx4_7, .int xx4_8, .ref ax4_9, .int xx4_10, .ref ax4_11]))] sz) [(h0, .inr (4, [.ref ox4_0, .ref ox4_1, .ref ox4_2, .ref ox4_3, .int xx4_4, .int xx4_5, .int xx4_6, .int y0_7, .int y0_8, .ref ax4_9, .int y0_10, .ref ax4_11]))] [] t) (va_A [(h0, .inr (4, [.ref ox4_0, .ref ox4_1, .ref ox4_2, .ref ox4_3, .int xx4_4, .int xx4_5, .int xx4_6, .int xx4_7, .int xx4_8, .ref ax4_9, .int xx4_10, .ref ax4_11]))] sz)) 0 0 (va_A [(h0, .inr (4, [.ref ox4_0, .ref ox4_1, .ref ox4_2, .ref ox4_3, .int xx4_4, .int xx4_5, .int xx4_6, .int xx4_7, .int xx4_8, .ref ax4_9, .int xx4_10, .ref ax4_11]))] sz) := by
  refine Met.ofW (cc := cX4_fail) (maxL := 3) (ret := none) (by decide) rfl ?_
  intro p e s m args below meth c s₁ B hml hv
  obtain ⟨rfl, hsz, hP, hK, hD0, hN⟩ := hv
  have hx := B.exec
  have hb := B.bytes
  have hr := B.returns
  have hts := atoms_spec (ws := .code yX4_fail cX4_fail 3 none :: pw) B.pre
  have hts : ∀ w ∈ pw, w.before _ s = true := fun w h => hts w (List.mem_cons_of_mem _ h)
  have hown : s.vm.findClass RX4 = some m.cls := findClass_of_methodNamed B.named
  have hlocks := B.notSynchronized
  subst hsz
  have hD := hD0.self (sz := s.heap.size)
  generalize hAe : va_A [(h0, .inr (4, [.ref ox4_0, .ref ox4_1, .ref ox4_2, .ref ox4_3, .int xx4_4, .int xx4_5, .int xx4_6, .int xx4_7, .int xx4_8, .ref ax4_9, .int xx4_10, .ref ax4_11]))] s.heap.size = A at hD ⊢
  have hA : ∀ q : Nat, s.heap.size ≤ q → A q := fun q h => by rw [← hAe]; exact Or.inr h
  have hS : va_S A s.heap s.heap [] := va_S.rf
  have hP : va_P (dC, dI) vwCl [(h0, .inr (4, [.ref ox4_0, .ref ox4_1, .ref ox4_2, .ref ox4_3, .int xx4_4, .int xx4_5, .int xx4_6, .int xx4_7, .int xx4_8, .ref ax4_9, .int xx4_10, .ref ax4_11]))] s.heap := hP
  have hl := lv_entry ([.ref h0, .int p0, .int p1]) (n := 3) (Nat.le_of_ble_eq_true rfl)
  rw [lg_entry_eq]
  generalize (lg_sl ([.ref h0, .int p0, .int p1]) ++ List.replicate (3 - (lg_sl ([.ref h0, .int p0, .int p1])).length) Slot.unset).toArray = ls at hl ⊢
  have hl : lv_has ls 3 [(0, .ref h0), (1, .int p0), (2, .int p1)] := hl
  refine lv_aload_n hx hb dX4_fail_0 rfl (lv_at hl 0 rfl) ?_
  refine va_get (D := (dC, dI)) (ci := 4) (v := .int xx4_7) (C := RX4) (T := TX4) (N := 12) hx hb hts inlX4 hown hK hP 0 rfl rfl 7 (by decide) (hts (.fieldLink RX4 21 "ShapeReader$Reading" "failure" "I") mw_10_18) (fun _ h9 => h9) rfl dX4_fail_1 ?_
  refine lv_if_ne (tgt := 34) hx hb dX4_fail_4 (by decide) (fun c_1 => ?_) (fun c_1 => ?_)
  · have hP9 := hP.sub (ws' := [(h0, .inr (4, [.ref ox4_0, .ref ox4_1, .ref ox4_2, .ref ox4_3, .int xx4_4, .int xx4_5, .int xx4_6, .int xx4_7, .int xx4_8, .ref ax4_9, .int xx4_10, .ref ax4_11]))]) [0] rfl
    have hD9 := hD.sub (ws' := [(h0, .inr (4, [.ref ox4_0, .ref ox4_1, .ref ox4_2, .ref ox4_3, .int xx4_4, .int xx4_5, .int xx4_6, .int xx4_7, .int xx4_8, .ref ax4_9, .int xx4_10, .ref ax4_11]))]) [0] (by decide) rfl
    have hK9 := hK.sub (tys' := []) [] rfl
    refine W.widen (k := 0) (n := 0) (Nat.le_of_ble_eq_true rfl) (Nat.le_of_ble_eq_true rfl) ?_
    exact W.vret hx hb hr (fun t ht hW => ⟨⟨(), rfl, trivial, xx4_7, xx4_8, xx4_10, by rw [ht]; exact hP9, va_K.moved hW.alike hK9, hD9⟩, hS.F ht⟩) hS.2.2 dX4_fail_34
  · refine lv_aload_n hx hb dX4_fail_7 rfl (lv_at hl 0 rfl) ?_
    refine lv_iload_n hx hb dX4_fail_8 rfl (lv_at hl 1 rfl) ?_
    refine va_put (D := (dC, dI)) (ci := 4) (v := .int p0) (ty := .int) (C := RX4) (T := TX4) (N := 12) hx hb hts inlX4 tyX4 tyX4_ok nmX4 hown hK hP hD hS 0 rfl rfl 7 (by decide) (hts (.fieldLink RX4 21 "ShapeReader$Reading" "failure" "I") mw_10_18) (fun _ h9 => h9) rfl (by decide +kernel) rfl rfl (Nat.le_of_ble_eq_true rfl) dX4_fail_9 (fun H locs hP hD hS => ?_)
    have hP : va_P (dC, dI) vwCl [(h0, .inr (4, [.ref ox4_0, .ref ox4_1, .ref ox4_2, .ref ox4_3, .int xx4_4, .int xx4_5, .int xx4_6, .int p0, .int xx4_8, .ref ax4_9, .int xx4_10, .ref ax4_11]))] H := hP
    have hD : va_D A [(h0, .inr (4, [.ref ox4_0, .ref ox4_1, .ref ox4_2, .ref ox4_3, .int xx4_4, .int xx4_5, .int xx4_6, .int p0, .int xx4_8, .ref ax4_9, .int xx4_10, .ref ax4_11]))] := hD
    refine lv_aload_n hx hb dX4_fail_12 rfl (lv_at hl 0 rfl) ?_
    refine lv_iload_n hx hb dX4_fail_13 rfl (lv_at hl 2 rfl) ?_
    refine va_put (D := (dC, dI)) (ci := 4) (v := .int p1) (ty := .int) (C := RX4) (T := TX4) (N := 12) hx hb hts inlX4 tyX4 tyX4_ok nmX4 hown hK hP hD hS 0 rfl rfl 8 (by decide) (hts (.fieldLink RX4 24 "ShapeReader$Reading" "failedAt" "I") mw_10_19) (fun _ h9 => h9) rfl (by decide +kernel) rfl rfl (Nat.le_of_ble_eq_true rfl) dX4_fail_14 (fun H locs hP hD hS => ?_)
    have hP : va_P (dC, dI) vwCl [(h0, .inr (4, [.ref ox4_0, .ref ox4_1, .ref ox4_2, .ref ox4_3, .int xx4_4, .int xx4_5, .int xx4_6, .int p0, .int p1, .ref ax4_9, .int xx4_10, .ref ax4_11]))] H := hP
    have hD : va_D A [(h0, .inr (4, [.ref ox4_0, .ref ox4_1, .ref ox4_2, .ref ox4_3, .int xx4_4, .int xx4_5, .int xx4_6, .int p0, .int p1, .ref ax4_9, .int xx4_10, .ref ax4_11]))] := hD
    refine lv_iload_n hx hb dX4_fail_17 rfl (lv_at hl 1 rfl) ?_
    refine lv_bipush (v := 14) hx hb dX4_fail_18 (by decide) ?_
    refine lv_icmp_eq (tgt := 29) hx hb dX4_fail_20 (by decide) (fun c_2 => ?_) (fun c_2 => ?_)
    · refine lv_aload_n hx hb dX4_fail_29 rfl (lv_at hl 0 rfl) ?_
      refine lv_iconst (v := 0) hx hb dX4_fail_30 (by decide) ?_
      refine va_put (D := (dC, dI)) (ci := 4) (v := .int 0) (ty := .int) (C := RX4) (T := TX4) (N := 12) hx hb hts inlX4 tyX4 tyX4_ok nmX4 hown hK hP hD hS 0 rfl rfl 10 (by decide) (hts (.fieldLink RX4 31 "ShapeReader$Reading" "steps" "I") mw_10_21) (fun _ h9 => h9) rfl (by decide +kernel) rfl rfl (Nat.le_of_ble_eq_true rfl) dX4_fail_31 (fun H locs hP hD hS => ?_)
      have hP : va_P (dC, dI) vwCl [(h0, .inr (4, [.ref ox4_0, .ref ox4_1, .ref ox4_2, .ref ox4_3, .int xx4_4, .int xx4_5, .int xx4_6, .int p0, .int p1, .ref ax4_9, .int 0, .ref ax4_11]))] H := hP
      have hD : va_D A [(h0, .inr (4, [.ref ox4_0, .ref ox4_1, .ref ox4_2, .ref ox4_3, .int xx4_4, .int xx4_5, .int xx4_6, .int p0, .int p1, .ref ax4_9, .int 0, .ref ax4_11]))] := hD
      have hP9 := hP.sub (ws' := [(h0, .inr (4, [.ref ox4_0, .ref ox4_1, .ref ox4_2, .ref ox4_3, .int xx4_4, .int xx4_5, .int xx4_6, .int p0, .int p1, .ref ax4_9, .int 0, .ref ax4_11]))]) [0] rfl
      have hD9 := hD.sub (ws' := [(h0, .inr (4, [.ref ox4_0, .ref ox4_1, .ref ox4_2, .ref ox4_3, .int xx4_4, .int xx4_5, .int xx4_6, .int p0, .int p1, .ref ax4_9, .int 0, .ref ax4_11]))]) [0] (by decide) rfl
      have hK9 := hK.sub (tys' := []) [] rfl
      refine W.widen (k := 0) (n := 0) (Nat.le_of_ble_eq_true rfl) (Nat.le_of_ble_eq_true rfl) ?_
      exact W.vret hx hb hr (fun t ht hW => ⟨⟨(), rfl, trivial, p0, p1, 0, by rw [ht]; exact hP9, va_K.moved hW.alike hK9, hD9⟩, hS.F ht⟩) hS.2.2 dX4_fail_34
    · refine lv_iload_n hx hb dX4_fail_23 rfl (lv_at hl 1 rfl) ?_
      refine lv_bipush (v := 15) hx hb dX4_fail_24 (by decide) ?_
      refine lv_icmp_ne (tgt := 34) hx hb dX4_fail_26 (by decide) (fun c_3 => ?_) (fun c_3 => ?_)
      · have hP9 := hP.sub (ws' := [(h0, .inr (4, [.ref ox4_0, .ref ox4_1, .ref ox4_2, .ref ox4_3, .int xx4_4, .int xx4_5, .int xx4_6, .int p0, .int p1, .ref ax4_9, .int xx4_10, .ref ax4_11]))]) [0] rfl
        have hD9 := hD.sub (ws' := [(h0, .inr (4, [.ref ox4_0, .ref ox4_1, .ref ox4_2, .ref ox4_3, .int xx4_4, .int xx4_5, .int xx4_6, .int p0, .int p1, .ref ax4_9, .int xx4_10, .ref ax4_11]))]) [0] (by decide) rfl
        have hK9 := hK.sub (tys' := []) [] rfl
        refine W.widen (k := 0) (n := 0) (Nat.le_of_ble_eq_true rfl) (Nat.le_of_ble_eq_true rfl) ?_
        exact W.vret hx hb hr (fun t ht hW => ⟨⟨(), rfl, trivial, p0, p1, xx4_10, by rw [ht]; exact hP9, va_K.moved hW.alike hK9, hD9⟩, hS.F ht⟩) hS.2.2 dX4_fail_34
      · refine lv_aload_n hx hb dX4_fail_29 rfl (lv_at hl 0 rfl) ?_
        refine lv_iconst (v := 0) hx hb dX4_fail_30 (by decide) ?_
        refine va_put (D := (dC, dI)) (ci := 4) (v := .int 0) (ty := .int) (C := RX4) (T := TX4) (N := 12) hx hb hts inlX4 tyX4 tyX4_ok nmX4 hown hK hP hD hS 0 rfl rfl 10 (by decide) (hts (.fieldLink RX4 31 "ShapeReader$Reading" "steps" "I") mw_10_21) (fun _ h9 => h9) rfl (by decide +kernel) rfl rfl (Nat.le_of_ble_eq_true rfl) dX4_fail_31 (fun H locs hP hD hS => ?_)
        have hP : va_P (dC, dI) vwCl [(h0, .inr (4, [.ref ox4_0, .ref ox4_1, .ref ox4_2, .ref ox4_3, .int xx4_4, .int xx4_5, .int xx4_6, .int p0, .int p1, .ref ax4_9, .int 0, .ref ax4_11]))] H := hP
        have hD : va_D A [(h0, .inr (4, [.ref ox4_0, .ref ox4_1, .ref ox4_2, .ref ox4_3, .int xx4_4, .int xx4_5, .int xx4_6, .int p0, .int p1, .ref ax4_9, .int 0, .ref ax4_11]))] := hD
        have hP9 := hP.sub (ws' := [(h0, .inr (4, [.ref ox4_0, .ref ox4_1, .ref ox4_2, .ref ox4_3, .int xx4_4, .int xx4_5, .int xx4_6, .int p0, .int p1, .ref ax4_9, .int 0, .ref ax4_11]))]) [0] rfl
        have hD9 := hD.sub (ws' := [(h0, .inr (4, [.ref ox4_0, .ref ox4_1, .ref ox4_2, .ref ox4_3, .int xx4_4, .int xx4_5, .int xx4_6, .int p0, .int p1, .ref ax4_9, .int 0, .ref ax4_11]))]) [0] (by decide) rfl
        have hK9 := hK.sub (tys' := []) [] rfl
        refine W.widen (k := 0) (n := 0) (Nat.le_of_ble_eq_true rfl) (Nat.le_of_ble_eq_true rfl) ?_
        exact W.vret hx hb hr (fun t ht hW => ⟨⟨(), rfl, trivial, p0, p1, 0, by rw [ht]; exact hP9, va_K.moved hW.alike hK9, hD9⟩, hS.F ht⟩) hS.2.2 dX4_fail_34

set_option maxRecDepth 100000 in
set_option maxHeartbeats 4000000 in
theorem s_X4_step (l : Launch) (dC : Nat → ClassId) (dI : Nat → Nat → Nat) (h0 : Nat) (ox4_0 : Nat) (ox4_1 : Nat) (ox4_2 : Nat) (ox4_3 : Nat) (xx4_4 : Int32) (xx4_5 : Int32) (xx4_6 : Int32) (xx4_7 : Int32) (xx4_8 : Int32) (ax4_9 : Nat) (cx4_9 : ClassId) (fx4_9 : Nat → Int32) (xx4_10 : Int32) (ax4_11 : Nat) (p0 : Int32) (sz : Nat) : Met l yX4_step (.code yX4_step cX4_step 2 none :: pw) ({ frames := 0, cells := 0, slots := 0, locals := 0 }) (va_Pc [.ref h0, .int p0] (vPre dC dI [(h0, .inr (4, [.ref ox4_0, .ref ox4_1, .ref ox4_2, .ref ox4_3, .int xx4_4, .int xx4_5, .int xx4_6, .int xx4_7, .int xx4_8, .ref ax4_9, .int xx4_10, .ref ax4_11])), (ax4_9, .inl (cx4_9, 64, .inl fx4_9))] [(cx4_9, .int)] sz)) (va_Qv (fun (_ : Unit) => True) (fun (_ : Unit) t => ∃ (y0_10 : Int32), ∃ (z1 : Nat → Int32), vPst dC dI (va_A [(h0, .inr (4, [.ref ox4_0, .ref ox4_1, .ref ox4_2, .ref ox4_3, .int xx4_4, .int xx4_5, .int xx4_6, .int xx4_7, .int xx4_8, .ref ax4_9, .int xx4_10, .ref ax4_11])), (ax4_9, .inl (cx4_9, 64, .inl fx4_9))] sz) [(h0, .inr (4, [.ref ox4_0, .ref ox4_1, .ref ox4_2, .ref ox4_3, .int xx4_4, .int xx4_5, .int xx4_6, .int xx4_7, .int xx4_8, .ref ax4_9, .int y0_10, .ref ax4_11])), (ax4_9, .inl (cx4_9, 64, .inl z1))] [(cx4_9, .int)] t) (va_A [(h0, .inr (4, [.ref ox4_0, .ref ox4_1, .ref ox4_2, .ref ox4_3, .int xx4_4, .int xx4_5, .int xx4_6, .int xx4_7, .int xx4_8, .ref ax4_9, .int xx4_10, .ref ax4_11])), (ax4_9, .inl (cx4_9, 64, .inl fx4_9))] sz)) 0 0 (va_A [(h0, .inr (4, [.ref ox4_0, .ref ox4_1, .ref ox4_2, .ref ox4_3, .int xx4_4, .int xx4_5, .int xx4_6, .int xx4_7, .int xx4_8, .ref ax4_9, .int xx4_10, .ref ax4_11])), (ax4_9, .inl (cx4_9, 64, .inl fx4_9))] sz) := by
  refine Met.ofW (cc := cX4_step) (maxL := 2) (ret := none) (by decide) rfl ?_
  intro p e s m args below meth c s₁ B hml hv
  obtain ⟨rfl, hsz, hP, hK, hD0, hN⟩ := hv
  have hx := B.exec
  have hb := B.bytes
  have hr := B.returns
  have hts := atoms_spec (ws := .code yX4_step cX4_step 2 none :: pw) B.pre
  have hts : ∀ w ∈ pw, w.before _ s = true := fun w h => hts w (List.mem_cons_of_mem _ h)
  have hown : s.vm.findClass RX4 = some m.cls := findClass_of_methodNamed B.named
  have hlocks := B.notSynchronized
  subst hsz
  have hD := hD0.self (sz := s.heap.size)
  generalize hAe : va_A [(h0, .inr (4, [.ref ox4_0, .ref ox4_1, .ref ox4_2, .ref ox4_3, .int xx4_4, .int xx4_5, .int xx4_6, .int xx4_7, .int xx4_8, .ref ax4_9, .int xx4_10, .ref ax4_11])), (ax4_9, .inl (cx4_9, 64, .inl fx4_9))] s.heap.size = A at hD ⊢
  have hA : ∀ q : Nat, s.heap.size ≤ q → A q := fun q h => by rw [← hAe]; exact Or.inr h
  have hS : va_S A s.heap s.heap [] := va_S.rf
  have hP : va_P (dC, dI) vwCl [(h0, .inr (4, [.ref ox4_0, .ref ox4_1, .ref ox4_2, .ref ox4_3, .int xx4_4, .int xx4_5, .int xx4_6, .int xx4_7, .int xx4_8, .ref ax4_9, .int xx4_10, .ref ax4_11])), (ax4_9, .inl (cx4_9, 64, .inl fx4_9))] s.heap := hP
  have hl := lv_entry ([.ref h0, .int p0]) (n := 2) (Nat.le_of_ble_eq_true rfl)
  rw [lg_entry_eq]
  generalize (lg_sl ([.ref h0, .int p0]) ++ List.replicate (2 - (lg_sl ([.ref h0, .int p0])).length) Slot.unset).toArray = ls at hl ⊢
  have hl : lv_has ls 2 [(0, .ref h0), (1, .int p0)] := hl
  refine lv_aload_n hx hb dX4_step_0 rfl (lv_at hl 0 rfl) ?_
  refine va_get (D := (dC, dI)) (ci := 4) (v := .int xx4_10) (C := RX4) (T := TX4) (N := 12) hx hb hts inlX4 hown hK hP 0 rfl rfl 10 (by decide) (hts (.fieldLink RX4 31 "ShapeReader$Reading" "steps" "I") mw_10_21) (fun _ h9 => h9) rfl dX4_step_1 ?_
  refine lv_if_lt (tgt := 26) hx hb dX4_step_4 (by decide) (fun c_1 => ?_) (fun c_1 => ?_)
  · refine lv_aload_n hx hb dX4_step_26 rfl (lv_at hl 0 rfl) ?_
    refine lv_dup hx hb dX4_step_27 rfl ?_
    refine va_get (D := (dC, dI)) (ci := 4) (v := .int xx4_10) (C := RX4) (T := TX4) (N := 12) hx hb hts inlX4 hown hK hP 0 rfl rfl 10 (by decide) (hts (.fieldLink RX4 31 "ShapeReader$Reading" "steps" "I") mw_10_21) (fun _ h9 => h9) rfl dX4_step_28 ?_
    refine lv_iconst (v := 1) hx hb dX4_step_31 (by decide) ?_
    refine lv_iadd hx hb dX4_step_32 ?_
    refine lv_topi (fun x_2 ex_2 => ?_)
    have bx_2 : ((-2147483647) : Int) ≤ x_2.toInt ∧ x_2.toInt ≤ (0 : Int) := by have r0 := il_rng xx4_10; have a0 := il_lt c_1; have e0 : (0 : Int32).toInt = 0 := (by decide); have e1 : (1 : Int32).toInt = 1 := (by decide); rw [ex_2, il_addE (by omega) (by omega)]; omega
    refine va_put (D := (dC, dI)) (ci := 4) (v := .int x_2) (ty := .int) (C := RX4) (T := TX4) (N := 12) hx hb hts inlX4 tyX4 tyX4_ok nmX4 hown hK hP hD hS 0 rfl rfl 10 (by decide) (hts (.fieldLink RX4 31 "ShapeReader$Reading" "steps" "I") mw_10_21) (fun _ h9 => h9) rfl (by decide +kernel) rfl rfl (Nat.le_of_ble_eq_true rfl) dX4_step_33 (fun H locs hP hD hS => ?_)
    have hP : va_P (dC, dI) vwCl [(h0, .inr (4, [.ref ox4_0, .ref ox4_1, .ref ox4_2, .ref ox4_3, .int xx4_4, .int xx4_5, .int xx4_6, .int xx4_7, .int xx4_8, .ref ax4_9, .int x_2, .ref ax4_11])), (ax4_9, .inl (cx4_9, 64, .inl fx4_9))] H := hP
    have hD : va_D A [(h0, .inr (4, [.ref ox4_0, .ref ox4_1, .ref ox4_2, .ref ox4_3, .int xx4_4, .int xx4_5, .int xx4_6, .int xx4_7, .int xx4_8, .ref ax4_9, .int x_2, .ref ax4_11])), (ax4_9, .inl (cx4_9, 64, .inl fx4_9))] := hD
    have hP9 := hP.sub (ws' := [(h0, .inr (4, [.ref ox4_0, .ref ox4_1, .ref ox4_2, .ref ox4_3, .int xx4_4, .int xx4_5, .int xx4_6, .int xx4_7, .int xx4_8, .ref ax4_9, .int x_2, .ref ax4_11])), (ax4_9, .inl (cx4_9, 64, .inl fx4_9))]) [0, 1] rfl
    have hD9 := hD.sub (ws' := [(h0, .inr (4, [.ref ox4_0, .ref ox4_1, .ref ox4_2, .ref ox4_3, .int xx4_4, .int xx4_5, .int xx4_6, .int xx4_7, .int xx4_8, .ref ax4_9, .int x_2, .ref ax4_11])), (ax4_9, .inl (cx4_9, 64, .inl fx4_9))]) [0, 1] (by decide) rfl
    have hK9 := hK.sub (tys' := [(cx4_9, .int)]) [0] rfl
    refine W.widen (k := 0) (n := 0) (Nat.le_of_ble_eq_true rfl) (Nat.le_of_ble_eq_true rfl) ?_
    exact W.vret hx hb hr (fun t ht hW => ⟨⟨(), rfl, trivial, x_2, fx4_9, by rw [ht]; exact hP9, va_K.moved hW.alike hK9, hD9⟩, hS.F ht⟩) hS.2.2 dX4_step_36
  · refine lv_aload_n hx hb dX4_step_7 rfl (lv_at hl 0 rfl) ?_
    refine va_get (D := (dC, dI)) (ci := 4) (v := .int xx4_10) (C := RX4) (T := TX4) (N := 12) hx hb hts inlX4 hown hK hP 0 rfl rfl 10 (by decide) (hts (.fieldLink RX4 31 "ShapeReader$Reading" "steps" "I") mw_10_21) (fun _ h9 => h9) rfl dX4_step_8 ?_
    refine lv_bipush (v := 64) hx hb dX4_step_11 (by decide) ?_
    refine lv_icmp_ge (tgt := 26) hx hb dX4_step_13 (by decide) (fun c_3 => ?_) (fun c_3 => ?_)
    · refine lv_aload_n hx hb dX4_step_26 rfl (lv_at hl 0 rfl) ?_
      refine lv_dup hx hb dX4_step_27 rfl ?_
      refine va_get (D := (dC, dI)) (ci := 4) (v := .int xx4_10) (C := RX4) (T := TX4) (N := 12) hx hb hts inlX4 hown hK hP 0 rfl rfl 10 (by decide) (hts (.fieldLink RX4 31 "ShapeReader$Reading" "steps" "I") mw_10_21) (fun _ h9 => h9) rfl dX4_step_28 ?_
      refine lv_iconst (v := 1) hx hb dX4_step_31 (by decide) ?_
      refine lv_iadd hx hb dX4_step_32 ?_
      refine lv_topi (fun x_4 ex_4 => ?_)
      refine va_put (D := (dC, dI)) (ci := 4) (v := .int x_4) (ty := .int) (C := RX4) (T := TX4) (N := 12) hx hb hts inlX4 tyX4 tyX4_ok nmX4 hown hK hP hD hS 0 rfl rfl 10 (by decide) (hts (.fieldLink RX4 31 "ShapeReader$Reading" "steps" "I") mw_10_21) (fun _ h9 => h9) rfl (by decide +kernel) rfl rfl (Nat.le_of_ble_eq_true rfl) dX4_step_33 (fun H locs hP hD hS => ?_)
      have hP : va_P (dC, dI) vwCl [(h0, .inr (4, [.ref ox4_0, .ref ox4_1, .ref ox4_2, .ref ox4_3, .int xx4_4, .int xx4_5, .int xx4_6, .int xx4_7, .int xx4_8, .ref ax4_9, .int x_4, .ref ax4_11])), (ax4_9, .inl (cx4_9, 64, .inl fx4_9))] H := hP
      have hD : va_D A [(h0, .inr (4, [.ref ox4_0, .ref ox4_1, .ref ox4_2, .ref ox4_3, .int xx4_4, .int xx4_5, .int xx4_6, .int xx4_7, .int xx4_8, .ref ax4_9, .int x_4, .ref ax4_11])), (ax4_9, .inl (cx4_9, 64, .inl fx4_9))] := hD
      have hP9 := hP.sub (ws' := [(h0, .inr (4, [.ref ox4_0, .ref ox4_1, .ref ox4_2, .ref ox4_3, .int xx4_4, .int xx4_5, .int xx4_6, .int xx4_7, .int xx4_8, .ref ax4_9, .int x_4, .ref ax4_11])), (ax4_9, .inl (cx4_9, 64, .inl fx4_9))]) [0, 1] rfl
      have hD9 := hD.sub (ws' := [(h0, .inr (4, [.ref ox4_0, .ref ox4_1, .ref ox4_2, .ref ox4_3, .int xx4_4, .int xx4_5, .int xx4_6, .int xx4_7, .int xx4_8, .ref ax4_9, .int x_4, .ref ax4_11])), (ax4_9, .inl (cx4_9, 64, .inl fx4_9))]) [0, 1] (by decide) rfl
      have hK9 := hK.sub (tys' := [(cx4_9, .int)]) [0] rfl
      refine W.widen (k := 0) (n := 0) (Nat.le_of_ble_eq_true rfl) (Nat.le_of_ble_eq_true rfl) ?_
      exact W.vret hx hb hr (fun t ht hW => ⟨⟨(), rfl, trivial, x_4, fx4_9, by rw [ht]; exact hP9, va_K.moved hW.alike hK9, hD9⟩, hS.F ht⟩) hS.2.2 dX4_step_36
    · refine lv_aload_n hx hb dX4_step_16 rfl (lv_at hl 0 rfl) ?_
      refine va_get (D := (dC, dI)) (ci := 4) (v := .ref ax4_9) (C := RX4) (T := TX4) (N := 12) hx hb hts inlX4 hown hK hP 0 rfl rfl 9 (by decide) (hts (.fieldLink RX4 27 "ShapeReader$Reading" "path" "[I") mw_10_20) (fun _ h9 => h9) rfl dX4_step_17 ?_
      refine lv_aload_n hx hb dX4_step_20 rfl (lv_at hl 0 rfl) ?_
      refine va_get (D := (dC, dI)) (ci := 4) (v := .int xx4_10) (C := RX4) (T := TX4) (N := 12) hx hb hts inlX4 hown hK hP 0 rfl rfl 10 (by decide) (hts (.fieldLink RX4 31 "ShapeReader$Reading" "steps" "I") mw_10_21) (fun _ h9 => h9) rfl dX4_step_21 ?_
      refine lv_iload_n hx hb dX4_step_24 rfl (lv_at hl 1 rfl) ?_
      refine va_iast hx hb hK hP hD hS 1 0 rfl rfl (vp_in_iff.mpr (by have a0 := il_nlt c_1; have a1 := il_nle c_3; have e0 : (0 : Int32).toInt = 0 := (by decide); have e1 : (64 : Int32).toInt = 64 := (by decide); omega)) dX4_step_25 (fun H locs hP hD hS => ?_)
      obtain ⟨f_5, hP, hD⟩ : ∃ f_5 : Nat → Int32, va_P (dC, dI) vwCl [(h0, .inr (4, [.ref ox4_0, .ref ox4_1, .ref ox4_2, .ref ox4_3, .int xx4_4, .int xx4_5, .int xx4_6, .int xx4_7, .int xx4_8, .ref ax4_9, .int xx4_10, .ref ax4_11])), (ax4_9, .inl (cx4_9, 64, .inl f_5))] H ∧ va_D A [(h0, .inr (4, [.ref ox4_0, .ref ox4_1, .ref ox4_2, .ref ox4_3, .int xx4_4, .int xx4_5, .int xx4_6, .int xx4_7, .int xx4_8, .ref ax4_9, .int xx4_10, .ref ax4_11])), (ax4_9, .inl (cx4_9, 64, .inl f_5))] := ⟨_, hP, hD⟩
      refine lv_aload_n hx hb dX4_step_26 rfl (lv_at hl 0 rfl) ?_
      refine lv_dup hx hb dX4_step_27 rfl ?_
      refine va_get (D := (dC, dI)) (ci := 4) (v := .int xx4_10) (C := RX4) (T := TX4) (N := 12) hx hb hts inlX4 hown hK hP 0 rfl rfl 10 (by decide) (hts (.fieldLink RX4 31 "ShapeReader$Reading" "steps" "I") mw_10_21) (fun _ h9 => h9) rfl dX4_step_28 ?_
      refine lv_iconst (v := 1) hx hb dX4_step_31 (by decide) ?_
      refine lv_iadd hx hb dX4_step_32 ?_
      refine lv_topi (fun x_6 ex_6 => ?_)
      have bx_6 : (1 : Int) ≤ x_6.toInt ∧ x_6.toInt ≤ (64 : Int) := by have r0 := il_rng xx4_10; have a0 := il_nlt c_1; have a1 := il_nle c_3; have e0 : (0 : Int32).toInt = 0 := (by decide); have e1 : (1 : Int32).toInt = 1 := (by decide); have e2 : (64 : Int32).toInt = 64 := (by decide); rw [ex_6, il_addE (by omega) (by omega)]; omega
      refine va_put (D := (dC, dI)) (ci := 4) (v := .int x_6) (ty := .int) (C := RX4) (T := TX4) (N := 12) hx hb hts inlX4 tyX4 tyX4_ok nmX4 hown hK hP hD hS 0 rfl rfl 10 (by decide) (hts (.fieldLink RX4 31 "ShapeReader$Reading" "steps" "I") mw_10_21) (fun _ h9 => h9) rfl (by decide +kernel) rfl rfl (Nat.le_of_ble_eq_true rfl) dX4_step_33 (fun H locs hP hD hS => ?_)
      have hP : va_P (dC, dI) vwCl [(h0, .inr (4, [.ref ox4_0, .ref ox4_1, .ref ox4_2, .ref ox4_3, .int xx4_4, .int xx4_5, .int xx4_6, .int xx4_7, .int xx4_8, .ref ax4_9, .int x_6, .ref ax4_11])), (ax4_9, .inl (cx4_9, 64, .inl f_5))] H := hP
      have hD : va_D A [(h0, .inr (4, [.ref ox4_0, .ref ox4_1, .ref ox4_2, .ref ox4_3, .int xx4_4, .int xx4_5, .int xx4_6, .int xx4_7, .int xx4_8, .ref ax4_9, .int x_6, .ref ax4_11])), (ax4_9, .inl (cx4_9, 64, .inl f_5))] := hD
      have hP9 := hP.sub (ws' := [(h0, .inr (4, [.ref ox4_0, .ref ox4_1, .ref ox4_2, .ref ox4_3, .int xx4_4, .int xx4_5, .int xx4_6, .int xx4_7, .int xx4_8, .ref ax4_9, .int x_6, .ref ax4_11])), (ax4_9, .inl (cx4_9, 64, .inl f_5))]) [0, 1] rfl
      have hD9 := hD.sub (ws' := [(h0, .inr (4, [.ref ox4_0, .ref ox4_1, .ref ox4_2, .ref ox4_3, .int xx4_4, .int xx4_5, .int xx4_6, .int xx4_7, .int xx4_8, .ref ax4_9, .int x_6, .ref ax4_11])), (ax4_9, .inl (cx4_9, 64, .inl f_5))]) [0, 1] (by decide) rfl
      have hK9 := hK.sub (tys' := [(cx4_9, .int)]) [0] rfl
      refine W.widen (k := 0) (n := 0) (Nat.le_of_ble_eq_true rfl) (Nat.le_of_ble_eq_true rfl) ?_
      exact W.vret hx hb hr (fun t ht hW => ⟨⟨(), rfl, trivial, x_6, f_5, by rw [ht]; exact hP9, va_K.moved hW.alike hK9, hD9⟩, hS.F ht⟩) hS.2.2 dX4_step_36

set_option maxRecDepth 100000 in
set_option maxHeartbeats 4000000 in
theorem s_X4_stepBack (l : Launch) (dC : Nat → ClassId) (dI : Nat → Nat → Nat) (h0 : Nat) (ox4_0 : Nat) (ox4_1 : Nat) (ox4_2 : Nat) (ox4_3 : Nat) (xx4_4 : Int32) (xx4_5 : Int32) (xx4_6 : Int32) (xx4_7 : Int32) (xx4_8 : Int32) (ax4_9 : Nat) (xx4_10 : Int32) (ax4_11 : Nat) (sz : Nat) : Met l yX4_stepBack (.code yX4_stepBack cX4_stepBack 1 none :: pw) ({ frames := 0, cells := 0, slots := 0, locals := 0 }) (va_Pc [.ref h0] (vPre dC dI [(h0, .inr (4, [.ref ox4_0, .ref ox4_1, .ref ox4_2, .ref ox4_3, .int xx4_4, .int xx4_5, .int xx4_6, .int xx4_7, .int xx4_8, .ref ax4_9, .int xx4_10, .ref ax4_11]))] [] sz)) (va_Qv (fun (_ : Unit) => True) (fun (_ : Unit) t => ∃ (y0_10 : Int32), vPst dC dI (va_A [(h0, .inr (4, [.ref ox4_0, .ref ox4_1, .ref ox4_2, .ref ox4_3, .int xx4_4, .int xx4_5, .int xx4_6, .int xx4_7, .int xx4_8, .ref ax4_9, .int xx4_10, .ref ax4_11]))] sz) [(h0, .inr (4, [.ref ox4_0, .ref ox4_1, .ref ox4_2, .ref ox4_3, .int xx4_4, .int xx4_5, .int xx4_6, .int xx4_7, .int xx4_8, .ref ax4_9, .int y0_10, .ref ax4_11]))] [] t) (va_A [(h0, .inr (4, [.ref ox4_0, .ref ox4_1, .ref ox4_2, .ref ox4_3, .int xx4_4, .int xx4_5, .int xx4_6, .int xx4_7, .int xx4_8, .ref ax4_9, .int xx4_10, .ref ax4_11]))] sz)) 0 0 (va_A [(h0, .inr (4, [.ref ox4_0, .ref ox4_1, .ref ox4_2, .ref ox4_3, .int xx4_4, .int xx4_5, .int xx4_6, .int xx4_7, .int xx4_8, .ref ax4_9, .int xx4_10, .ref ax4_11]))] sz) := by
  refine Met.ofW (cc := cX4_stepBack) (maxL := 1) (ret := none) (by decide) rfl ?_
  intro p e s m args below meth c s₁ B hml hv
  obtain ⟨rfl, hsz, hP, hK, hD0, hN⟩ := hv
  have hx := B.exec
  have hb := B.bytes
  have hr := B.returns
  have hts := atoms_spec (ws := .code yX4_stepBack cX4_stepBack 1 none :: pw) B.pre
  have hts : ∀ w ∈ pw, w.before _ s = true := fun w h => hts w (List.mem_cons_of_mem _ h)
  have hown : s.vm.findClass RX4 = some m.cls := findClass_of_methodNamed B.named
  have hlocks := B.notSynchronized
  subst hsz
  have hD := hD0.self (sz := s.heap.size)
  generalize hAe : va_A [(h0, .inr (4, [.ref ox4_0, .ref ox4_1, .ref ox4_2, .ref ox4_3, .int xx4_4, .int xx4_5, .int xx4_6, .int xx4_7, .int xx4_8, .ref ax4_9, .int xx4_10, .ref ax4_11]))] s.heap.size = A at hD ⊢
  have hA : ∀ q : Nat, s.heap.size ≤ q → A q := fun q h => by rw [← hAe]; exact Or.inr h
  have hS : va_S A s.heap s.heap [] := va_S.rf
  have hP : va_P (dC, dI) vwCl [(h0, .inr (4, [.ref ox4_0, .ref ox4_1, .ref ox4_2, .ref ox4_3, .int xx4_4, .int xx4_5, .int xx4_6, .int xx4_7, .int xx4_8, .ref ax4_9, .int xx4_10, .ref ax4_11]))] s.heap := hP
  have hl := lv_entry ([.ref h0]) (n := 1) (Nat.le_of_ble_eq_true rfl)
  rw [lg_entry_eq]
  generalize (lg_sl ([.ref h0]) ++ List.replicate (1 - (lg_sl ([.ref h0])).length) Slot.unset).toArray = ls at hl ⊢
  have hl : lv_has ls 1 [(0, .ref h0)] := hl
  refine lv_aload_n hx hb dX4_stepBack_0 rfl (lv_at hl 0 rfl) ?_
  refine va_get (D := (dC, dI)) (ci := 4) (v := .int xx4_7) (C := RX4) (T := TX4) (N := 12) hx hb hts inlX4 hown hK hP 0 rfl rfl 7 (by decide) (hts (.fieldLink RX4 21 "ShapeReader$Reading" "failure" "I") mw_10_18) (fun _ h9 => h9) rfl dX4_stepBack_1 ?_
  refine lv_if_ne (tgt := 17) hx hb dX4_stepBack_4 (by decide) (fun c_1 => ?_) (fun c_1 => ?_)
  · have hP9 := hP.sub (ws' := [(h0, .inr (4, [.ref ox4_0, .ref ox4_1, .ref ox4_2, .ref ox4_3, .int xx4_4, .int xx4_5, .int xx4_6, .int xx4_7, .int xx4_8, .ref ax4_9, .int xx4_10, .ref ax4_11]))]) [0] rfl
    have hD9 := hD.sub (ws' := [(h0, .inr (4, [.ref ox4_0, .ref ox4_1, .ref ox4_2, .ref ox4_3, .int xx4_4, .int xx4_5, .int xx4_6, .int xx4_7, .int xx4_8, .ref ax4_9, .int xx4_10, .ref ax4_11]))]) [0] (by decide) rfl
    have hK9 := hK.sub (tys' := []) [] rfl
    refine W.widen (k := 0) (n := 0) (Nat.le_of_ble_eq_true rfl) (Nat.le_of_ble_eq_true rfl) ?_
    exact W.vret hx hb hr (fun t ht hW => ⟨⟨(), rfl, trivial, xx4_10, by rw [ht]; exact hP9, va_K.moved hW.alike hK9, hD9⟩, hS.F ht⟩) hS.2.2 dX4_stepBack_17
  · refine lv_aload_n hx hb dX4_stepBack_7 rfl (lv_at hl 0 rfl) ?_
    refine lv_dup hx hb dX4_stepBack_8 rfl ?_
    refine va_get (D := (dC, dI)) (ci := 4) (v := .int xx4_10) (C := RX4) (T := TX4) (N := 12) hx hb hts inlX4 hown hK hP 0 rfl rfl 10 (by decide) (hts (.fieldLink RX4 31 "ShapeReader$Reading" "steps" "I") mw_10_21) (fun _ h9 => h9) rfl dX4_stepBack_9 ?_
    refine lv_iconst (v := 1) hx hb dX4_stepBack_12 (by decide) ?_
    refine lv_isub hx hb dX4_stepBack_13 ?_
    refine lv_topi (fun x_2 ex_2 => ?_)
    refine va_put (D := (dC, dI)) (ci := 4) (v := .int x_2) (ty := .int) (C := RX4) (T := TX4) (N := 12) hx hb hts inlX4 tyX4 tyX4_ok nmX4 hown hK hP hD hS 0 rfl rfl 10 (by decide) (hts (.fieldLink RX4 31 "ShapeReader$Reading" "steps" "I") mw_10_21) (fun _ h9 => h9) rfl (by decide +kernel) rfl rfl (Nat.le_of_ble_eq_true rfl) dX4_stepBack_14 (fun H locs hP hD hS => ?_)
    have hP : va_P (dC, dI) vwCl [(h0, .inr (4, [.ref ox4_0, .ref ox4_1, .ref ox4_2, .ref ox4_3, .int xx4_4, .int xx4_5, .int xx4_6, .int xx4_7, .int xx4_8, .ref ax4_9, .int x_2, .ref ax4_11]))] H := hP
    have hD : va_D A [(h0, .inr (4, [.ref ox4_0, .ref ox4_1, .ref ox4_2, .ref ox4_3, .int xx4_4, .int xx4_5, .int xx4_6, .int xx4_7, .int xx4_8, .ref ax4_9, .int x_2, .ref ax4_11]))] := hD
    have hP9 := hP.sub (ws' := [(h0, .inr (4, [.ref ox4_0, .ref ox4_1, .ref ox4_2, .ref ox4_3, .int xx4_4, .int xx4_5, .int xx4_6, .int xx4_7, .int xx4_8, .ref ax4_9, .int x_2, .ref ax4_11]))]) [0] rfl
    have hD9 := hD.sub (ws' := [(h0, .inr (4, [.ref ox4_0, .ref ox4_1, .ref ox4_2, .ref ox4_3, .int xx4_4, .int xx4_5, .int xx4_6, .int xx4_7, .int xx4_8, .ref ax4_9, .int x_2, .ref ax4_11]))]) [0] (by decide) rfl
    have hK9 := hK.sub (tys' := []) [] rfl
    refine W.widen (k := 0) (n := 0) (Nat.le_of_ble_eq_true rfl) (Nat.le_of_ble_eq_true rfl) ?_
    exact W.vret hx hb hr (fun t ht hW => ⟨⟨(), rfl, trivial, x_2, by rw [ht]; exact hP9, va_K.moved hW.alike hK9, hD9⟩, hS.F ht⟩) hS.2.2 dX4_stepBack_17

set_option maxRecDepth 100000 in
set_option maxHeartbeats 4000000 in
theorem s_X4_sourceAt (l : Launch) (dC : Nat → ClassId) (dI : Nat → Nat → Nat) (h0 : Nat) (ox4_0 : Nat) (ox4_1 : Nat) (ox4_2 : Nat) (ox4_3 : Nat) (xx4_4 : Int32) (xx4_5 : Int32) (xx4_6 : Int32) (xx4_7 : Int32) (xx4_8 : Int32) (ax4_9 : Nat) (xx4_10 : Int32) (ax4_11 : Nat) (cx4_11 : ClassId) (fx4_11 : Nat → Int32) (p0 : Int32) (p1 : Int32) (sz : Nat) : Met l yX4_sourceAt (.code yX4_sourceAt cX4_sourceAt 3 (some .int) :: pw) ({ frames := 0, cells := 0, slots := 0, locals := 0 }) (va_Pc [.ref h0, .int p0, .int p1] (vPre dC dI [(h0, .inr (4, [.ref ox4_0, .ref ox4_1, .ref ox4_2, .ref ox4_3, .int xx4_4, .int xx4_5, .int xx4_6, .int xx4_7, .int xx4_8, .ref ax4_9, .int xx4_10, .ref ax4_11])), (ax4_11, .inl (cx4_11, 256, .inl fx4_11))] [(cx4_11, .int)] sz)) (va_Qi (fun (r : Int32) (_ : Unit) => (r = (fx4_11 ((p0 * 8) + p1).toNatClampNeg) ∧ ¬ p0 < 0 ∧ ¬ 31 ≤ p0 ∧ ¬ p1 < 0 ∧ ¬ 8 ≤ p1) ∨ (r = (-1))) (fun (_ : Unit) t => vPst dC dI (va_A [(h0, .inr (4, [.ref ox4_0, .ref ox4_1, .ref ox4_2, .ref ox4_3, .int xx4_4, .int xx4_5, .int xx4_6, .int xx4_7, .int xx4_8, .ref ax4_9, .int xx4_10, .ref ax4_11])), (ax4_11, .inl (cx4_11, 256, .inl fx4_11))] sz) [(h0, .inr (4, [.ref ox4_0, .ref ox4_1, .ref ox4_2, .ref ox4_3, .int xx4_4, .int xx4_5, .int xx4_6, .int xx4_7, .int xx4_8, .ref ax4_9, .int xx4_10, .ref ax4_11])), (ax4_11, .inl (cx4_11, 256, .inl fx4_11))] [(cx4_11, .int)] t) (va_A [(h0, .inr (4, [.ref ox4_0, .ref ox4_1, .ref ox4_2, .ref ox4_3, .int xx4_4, .int xx4_5, .int xx4_6, .int xx4_7, .int xx4_8, .ref ax4_9, .int xx4_10, .ref ax4_11])), (ax4_11, .inl (cx4_11, 256, .inl fx4_11))] sz)) 0 0 (va_A [(h0, .inr (4, [.ref ox4_0, .ref ox4_1, .ref ox4_2, .ref ox4_3, .int xx4_4, .int xx4_5, .int xx4_6, .int xx4_7, .int xx4_8, .ref ax4_9, .int xx4_10, .ref ax4_11])), (ax4_11, .inl (cx4_11, 256, .inl fx4_11))] sz) := by
  refine Met.ofW (cc := cX4_sourceAt) (maxL := 3) (ret := (some .int)) (by decide) rfl ?_
  intro p e s m args below meth c s₁ B hml hv
  obtain ⟨rfl, hsz, hP, hK, hD0, hN⟩ := hv
  have hx := B.exec
  have hb := B.bytes
  have hr := B.returns
  have hts := atoms_spec (ws := .code yX4_sourceAt cX4_sourceAt 3 (some .int) :: pw) B.pre
  have hts : ∀ w ∈ pw, w.before _ s = true := fun w h => hts w (List.mem_cons_of_mem _ h)
  have hown : s.vm.findClass RX4 = some m.cls := findClass_of_methodNamed B.named
  have hlocks := B.notSynchronized
  subst hsz
  have hD := hD0.self (sz := s.heap.size)
  generalize hAe : va_A [(h0, .inr (4, [.ref ox4_0, .ref ox4_1, .ref ox4_2, .ref ox4_3, .int xx4_4, .int xx4_5, .int xx4_6, .int xx4_7, .int xx4_8, .ref ax4_9, .int xx4_10, .ref ax4_11])), (ax4_11, .inl (cx4_11, 256, .inl fx4_11))] s.heap.size = A at hD ⊢
  have hA : ∀ q : Nat, s.heap.size ≤ q → A q := fun q h => by rw [← hAe]; exact Or.inr h
  have hS : va_S A s.heap s.heap [] := va_S.rf
  have hP : va_P (dC, dI) vwCl [(h0, .inr (4, [.ref ox4_0, .ref ox4_1, .ref ox4_2, .ref ox4_3, .int xx4_4, .int xx4_5, .int xx4_6, .int xx4_7, .int xx4_8, .ref ax4_9, .int xx4_10, .ref ax4_11])), (ax4_11, .inl (cx4_11, 256, .inl fx4_11))] s.heap := hP
  have hl := lv_entry ([.ref h0, .int p0, .int p1]) (n := 3) (Nat.le_of_ble_eq_true rfl)
  rw [lg_entry_eq]
  generalize (lg_sl ([.ref h0, .int p0, .int p1]) ++ List.replicate (3 - (lg_sl ([.ref h0, .int p0, .int p1])).length) Slot.unset).toArray = ls at hl ⊢
  have hl : lv_has ls 3 [(0, .ref h0), (1, .int p0), (2, .int p1)] := hl
  refine lv_iload_n hx hb dX4_sourceAt_0 rfl (lv_at hl 1 rfl) ?_
  refine lv_if_lt (tgt := 34) hx hb dX4_sourceAt_1 (by decide) (fun c_1 => ?_) (fun c_1 => ?_)
  · refine lv_iconst (v := (-1)) hx hb dX4_sourceAt_34 (by decide) ?_
    have hP9 := hP.sub (ws' := [(h0, .inr (4, [.ref ox4_0, .ref ox4_1, .ref ox4_2, .ref ox4_3, .int xx4_4, .int xx4_5, .int xx4_6, .int xx4_7, .int xx4_8, .ref ax4_9, .int xx4_10, .ref ax4_11])), (ax4_11, .inl (cx4_11, 256, .inl fx4_11))]) [0, 1] rfl
    have hD9 := hD.sub (ws' := [(h0, .inr (4, [.ref ox4_0, .ref ox4_1, .ref ox4_2, .ref ox4_3, .int xx4_4, .int xx4_5, .int xx4_6, .int xx4_7, .int xx4_8, .ref ax4_9, .int xx4_10, .ref ax4_11])), (ax4_11, .inl (cx4_11, 256, .inl fx4_11))]) [0, 1] (by decide) rfl
    have hK9 := hK.sub (tys' := [(cx4_11, .int)]) [0] rfl
    refine W.widen (k := 0) (n := 0) (Nat.le_of_ble_eq_true rfl) (Nat.le_of_ble_eq_true rfl) ?_
    exact W.iret (v := (-1)) hx hb hr (fun t ht hW => ⟨⟨(-1), (), rfl, Or.inr (rfl), by rw [ht]; exact hP9, va_K.moved hW.alike hK9, hD9⟩, hS.F ht⟩) hS.2.2 dX4_sourceAt_35
  · refine lv_iload_n hx hb dX4_sourceAt_4 rfl (lv_at hl 1 rfl) ?_
    refine lv_bipush (v := 31) hx hb dX4_sourceAt_5 (by decide) ?_
    refine lv_icmp_ge (tgt := 34) hx hb dX4_sourceAt_7 (by decide) (fun c_2 => ?_) (fun c_2 => ?_)
    · refine lv_iconst (v := (-1)) hx hb dX4_sourceAt_34 (by decide) ?_
      have hP9 := hP.sub (ws' := [(h0, .inr (4, [.ref ox4_0, .ref ox4_1, .ref ox4_2, .ref ox4_3, .int xx4_4, .int xx4_5, .int xx4_6, .int xx4_7, .int xx4_8, .ref ax4_9, .int xx4_10, .ref ax4_11])), (ax4_11, .inl (cx4_11, 256, .inl fx4_11))]) [0, 1] rfl
      have hD9 := hD.sub (ws' := [(h0, .inr (4, [.ref ox4_0, .ref ox4_1, .ref ox4_2, .ref ox4_3, .int xx4_4, .int xx4_5, .int xx4_6, .int xx4_7, .int xx4_8, .ref ax4_9, .int xx4_10, .ref ax4_11])), (ax4_11, .inl (cx4_11, 256, .inl fx4_11))]) [0, 1] (by decide) rfl
      have hK9 := hK.sub (tys' := [(cx4_11, .int)]) [0] rfl
      refine W.widen (k := 0) (n := 0) (Nat.le_of_ble_eq_true rfl) (Nat.le_of_ble_eq_true rfl) ?_
      exact W.iret (v := (-1)) hx hb hr (fun t ht hW => ⟨⟨(-1), (), rfl, Or.inr (rfl), by rw [ht]; exact hP9, va_K.moved hW.alike hK9, hD9⟩, hS.F ht⟩) hS.2.2 dX4_sourceAt_35
    · refine lv_iload_n hx hb dX4_sourceAt_10 rfl (lv_at hl 2 rfl) ?_
      refine lv_if_lt (tgt := 34) hx hb dX4_sourceAt_11 (by decide) (fun c_3 => ?_) (fun c_3 => ?_)
      · refine lv_iconst (v := (-1)) hx hb dX4_sourceAt_34 (by decide) ?_
        have hP9 := hP.sub (ws' := [(h0, .inr (4, [.ref ox4_0, .ref ox4_1, .ref ox4_2, .ref ox4_3, .int xx4_4, .int xx4_5, .int xx4_6, .int xx4_7, .int xx4_8, .ref ax4_9, .int xx4_10, .ref ax4_11])), (ax4_11, .inl (cx4_11, 256, .inl fx4_11))]) [0, 1] rfl
        have hD9 := hD.sub (ws' := [(h0, .inr (4, [.ref ox4_0, .ref ox4_1, .ref ox4_2, .ref ox4_3, .int xx4_4, .int xx4_5, .int xx4_6, .int xx4_7, .int xx4_8, .ref ax4_9, .int xx4_10, .ref ax4_11])), (ax4_11, .inl (cx4_11, 256, .inl fx4_11))]) [0, 1] (by decide) rfl
        have hK9 := hK.sub (tys' := [(cx4_11, .int)]) [0] rfl
        refine W.widen (k := 0) (n := 0) (Nat.le_of_ble_eq_true rfl) (Nat.le_of_ble_eq_true rfl) ?_
        exact W.iret (v := (-1)) hx hb hr (fun t ht hW => ⟨⟨(-1), (), rfl, Or.inr (rfl), by rw [ht]; exact hP9, va_K.moved hW.alike hK9, hD9⟩, hS.F ht⟩) hS.2.2 dX4_sourceAt_35
      · refine lv_iload_n hx hb dX4_sourceAt_14 rfl (lv_at hl 2 rfl) ?_
        refine lv_bipush (v := 8) hx hb dX4_sourceAt_15 (by decide) ?_
        refine lv_icmp_ge (tgt := 34) hx hb dX4_sourceAt_17 (by decide) (fun c_4 => ?_) (fun c_4 => ?_)
        · refine lv_iconst (v := (-1)) hx hb dX4_sourceAt_34 (by decide) ?_
          have hP9 := hP.sub (ws' := [(h0, .inr (4, [.ref ox4_0, .ref ox4_1, .ref ox4_2, .ref ox4_3, .int xx4_4, .int xx4_5, .int xx4_6, .int xx4_7, .int xx4_8, .ref ax4_9, .int xx4_10, .ref ax4_11])), (ax4_11, .inl (cx4_11, 256, .inl fx4_11))]) [0, 1] rfl
          have hD9 := hD.sub (ws' := [(h0, .inr (4, [.ref ox4_0, .ref ox4_1, .ref ox4_2, .ref ox4_3, .int xx4_4, .int xx4_5, .int xx4_6, .int xx4_7, .int xx4_8, .ref ax4_9, .int xx4_10, .ref ax4_11])), (ax4_11, .inl (cx4_11, 256, .inl fx4_11))]) [0, 1] (by decide) rfl
          have hK9 := hK.sub (tys' := [(cx4_11, .int)]) [0] rfl
          refine W.widen (k := 0) (n := 0) (Nat.le_of_ble_eq_true rfl) (Nat.le_of_ble_eq_true rfl) ?_
          exact W.iret (v := (-1)) hx hb hr (fun t ht hW => ⟨⟨(-1), (), rfl, Or.inr (rfl), by rw [ht]; exact hP9, va_K.moved hW.alike hK9, hD9⟩, hS.F ht⟩) hS.2.2 dX4_sourceAt_35
        · refine lv_aload_n hx hb dX4_sourceAt_20 rfl (lv_at hl 0 rfl) ?_
          refine va_get (D := (dC, dI)) (ci := 4) (v := .ref ax4_11) (C := RX4) (T := TX4) (N := 12) hx hb hts inlX4 hown hK hP 0 rfl rfl 11 (by decide) (hts (.fieldLink RX4 34 "ShapeReader$Reading" "sources" "[I") mw_10_22) (fun _ h9 => h9) rfl dX4_sourceAt_21 ?_
          refine lv_iload_n hx hb dX4_sourceAt_24 rfl (lv_at hl 1 rfl) ?_
          refine lv_bipush (v := 8) hx hb dX4_sourceAt_25 (by decide) ?_
          refine lv_imul hx hb dX4_sourceAt_27 ?_
          refine lv_topi (fun x_5 ex_5 => ?_)
          have bx_5 : (0 : Int) ≤ x_5.toInt ∧ x_5.toInt ≤ (240 : Int) := by have r0 := il_rng p0; have a0 := il_nlt c_1; have a1 := il_nle c_2; have e0 : (0 : Int32).toInt = 0 := (by decide); have e1 : (8 : Int32).toInt = 8 := (by decide); have e2 : (31 : Int32).toInt = 31 := (by decide); rw [ex_5]; have m9 := il_mulE (x := p0) (y := 8) (by rw [e1]; omega) (by rw [e1]; omega); rw [m9, e1]; omega
          refine lv_iload_n hx hb dX4_sourceAt_28 rfl (lv_at hl 2 rfl) ?_
          refine lv_iadd hx hb dX4_sourceAt_29 ?_
          refine lv_topi (fun x_6 ex_6 => ?_)
          have bx_6 : (0 : Int) ≤ x_6.toInt ∧ x_6.toInt ≤ (247 : Int) := by have r0 := il_rng x_5; have r1 := il_rng p1; have a0 := bx_5.1; have a1 := bx_5.2; have a2 := il_nlt c_3; have a3 := il_nle c_4; have e0 : (0 : Int32).toInt = 0 := (by decide); have e1 : (8 : Int32).toInt = 8 := (by decide); rw [ex_6, il_addE (by omega) (by omega)]; omega
          refine va_iald hx hb hK hP 1 0 rfl rfl (vp_in_iff.mpr (by have a0 := bx_6.1; have a1 := bx_6.2; omega)) dX4_sourceAt_30 ?_
          refine lv_topi (fun x_7 ex_7 => ?_)
          refine lv_goto (tgt := 35) hx hb dX4_sourceAt_31 (by decide) ?_
          have hP9 := hP.sub (ws' := [(h0, .inr (4, [.ref ox4_0, .ref ox4_1, .ref ox4_2, .ref ox4_3, .int xx4_4, .int xx4_5, .int xx4_6, .int xx4_7, .int xx4_8, .ref ax4_9, .int xx4_10, .ref ax4_11])), (ax4_11, .inl (cx4_11, 256, .inl fx4_11))]) [0, 1] rfl
          have hD9 := hD.sub (ws' := [(h0, .inr (4, [.ref ox4_0, .ref ox4_1, .ref ox4_2, .ref ox4_3, .int xx4_4, .int xx4_5, .int xx4_6, .int xx4_7, .int xx4_8, .ref ax4_9, .int xx4_10, .ref ax4_11])), (ax4_11, .inl (cx4_11, 256, .inl fx4_11))]) [0, 1] (by decide) rfl
          have hK9 := hK.sub (tys' := [(cx4_11, .int)]) [0] rfl
          refine W.widen (k := 0) (n := 0) (Nat.le_of_ble_eq_true rfl) (Nat.le_of_ble_eq_true rfl) ?_
          exact W.iret (v := x_7) hx hb hr (fun t ht hW => ⟨⟨x_7, (), rfl, Or.inl (⟨(by rw [ex_7, ex_6, ex_5]), c_1, c_2, c_3, c_4⟩), by rw [ht]; exact hP9, va_K.moved hW.alike hK9, hD9⟩, hS.F ht⟩) hS.2.2 dX4_sourceAt_35

set_option maxRecDepth 100000 in
set_option maxHeartbeats 4000000 in
theorem s_X4_takeByte (l : Launch) (dC : Nat → ClassId) (dI : Nat → Nat → Nat) (h0 : Nat) (ox4_0 : Nat) (ox4_1 : Nat) (ax1_1_0 : Nat) (cx1_1_0 : ClassId) (fx1_1_0 : Nat → Int32) (ax1_1_1 : Nat) (ax1_1_2 : Nat) (ox4_2 : Nat) (ox4_3 : Nat) (xx4_4 : Int32) (xx4_5 : Int32) (xx4_6 : Int32) (xx4_7 : Int32) (xx4_8 : Int32) (ax4_9 : Nat) (xx4_10 : Int32) (ax4_11 : Nat) (sz : Nat) : Met l yX4_takeByte (.code yX4_takeByte cX4_takeByte 2 (some .int) :: pw) ({ frames := 1, cells := 0, slots := 0, locals := 23 }) (va_Pc [.ref h0] (vPre dC dI [(h0, .inr (4, [.ref ox4_0, .ref ox4_1, .ref ox4_2, .ref ox4_3, .int xx4_4, .int xx4_5, .int xx4_6, .int xx4_7, .int xx4_8, .ref ax4_9, .int xx4_10, .ref ax4_11])), (ox4_1, .inr (1, [.ref ax1_1_0, .ref ax1_1_1, .ref ax1_1_2])), (ax1_1_0, .inl (cx1_1_0, 1600, .inl fx1_1_0))] [(cx1_1_0, .byte)] sz)) (va_Qi (fun (r : Int32) (_ : Unit) => (r = ((fx1_1_0 ((xx4_4 * 400) + xx4_5).toNatClampNeg) &&& 255) ∧ xx4_7 = 0 ∧ xx4_5 < xx4_6) ∨ (r = 0)) (fun (_ : Unit) t => ∃ (y0_5 : Int32), ∃ (y0_7 : Int32), ∃ (y0_8 : Int32), ∃ (y0_10 : Int32), vPst dC dI (va_A [(h0, .inr (4, [.ref ox4_0, .ref ox4_1, .ref ox4_2, .ref ox4_3, .int xx4_4, .int xx4_5, .int xx4_6, .int xx4_7, .int xx4_8, .ref ax4_9, .int xx4_10, .ref ax4_11])), (ox4_1, .inr (1, [.ref ax1_1_0, .ref ax1_1_1, .ref ax1_1_2])), (ax1_1_0, .inl (cx1_1_0, 1600, .inl fx1_1_0))] sz) [(h0, .inr (4, [.ref ox4_0, .ref ox4_1, .ref ox4_2, .ref ox4_3, .int xx4_4, .int y0_5, .int xx4_6, .int y0_7, .int y0_8, .ref ax4_9, .int y0_10, .ref ax4_11])), (ox4_1, .inr (1, [.ref ax1_1_0, .ref ax1_1_1, .ref ax1_1_2])), (ax1_1_0, .inl (cx1_1_0, 1600, .inl fx1_1_0))] [(cx1_1_0, .byte)] t) (va_A [(h0, .inr (4, [.ref ox4_0, .ref ox4_1, .ref ox4_2, .ref ox4_3, .int xx4_4, .int xx4_5, .int xx4_6, .int xx4_7, .int xx4_8, .ref ax4_9, .int xx4_10, .ref ax4_11])), (ox4_1, .inr (1, [.ref ax1_1_0, .ref ax1_1_1, .ref ax1_1_2])), (ax1_1_0, .inl (cx1_1_0, 1600, .inl fx1_1_0))] sz)) 0 0 (va_A [(h0, .inr (4, [.ref ox4_0, .ref ox4_1, .ref ox4_2, .ref ox4_3, .int xx4_4, .int xx4_5, .int xx4_6, .int xx4_7, .int xx4_8, .ref ax4_9, .int xx4_10, .ref ax4_11])), (ox4_1, .inr (1, [.ref ax1_1_0, .ref ax1_1_1, .ref ax1_1_2])), (ax1_1_0, .inl (cx1_1_0, 1600, .inl fx1_1_0))] sz) := by
  refine Met.ofW (cc := cX4_takeByte) (maxL := 2) (ret := (some .int)) (by decide) rfl ?_
  intro p e s m args below meth c s₁ B hml hv
  obtain ⟨rfl, hsz, hP, hK, hD0, hN⟩ := hv
  have hx := B.exec
  have hb := B.bytes
  have hr := B.returns
  have hts := atoms_spec (ws := .code yX4_takeByte cX4_takeByte 2 (some .int) :: pw) B.pre
  have hts : ∀ w ∈ pw, w.before _ s = true := fun w h => hts w (List.mem_cons_of_mem _ h)
  have hown : s.vm.findClass RX4 = some m.cls := findClass_of_methodNamed B.named
  have hlocks := B.notSynchronized
  subst hsz
  have hD := hD0.self (sz := s.heap.size)
  generalize hAe : va_A [(h0, .inr (4, [.ref ox4_0, .ref ox4_1, .ref ox4_2, .ref ox4_3, .int xx4_4, .int xx4_5, .int xx4_6, .int xx4_7, .int xx4_8, .ref ax4_9, .int xx4_10, .ref ax4_11])), (ox4_1, .inr (1, [.ref ax1_1_0, .ref ax1_1_1, .ref ax1_1_2])), (ax1_1_0, .inl (cx1_1_0, 1600, .inl fx1_1_0))] s.heap.size = A at hD ⊢
  have hA : ∀ q : Nat, s.heap.size ≤ q → A q := fun q h => by rw [← hAe]; exact Or.inr h
  have hS : va_S A s.heap s.heap [] := va_S.rf
  have hP : va_P (dC, dI) vwCl [(h0, .inr (4, [.ref ox4_0, .ref ox4_1, .ref ox4_2, .ref ox4_3, .int xx4_4, .int xx4_5, .int xx4_6, .int xx4_7, .int xx4_8, .ref ax4_9, .int xx4_10, .ref ax4_11])), (ox4_1, .inr (1, [.ref ax1_1_0, .ref ax1_1_1, .ref ax1_1_2])), (ax1_1_0, .inl (cx1_1_0, 1600, .inl fx1_1_0))] s.heap := hP
  have hl := lv_entry ([.ref h0]) (n := 2) (Nat.le_of_ble_eq_true rfl)
  rw [lg_entry_eq]
  generalize (lg_sl ([.ref h0]) ++ List.replicate (2 - (lg_sl ([.ref h0])).length) Slot.unset).toArray = ls at hl ⊢
  have hl : lv_has ls 2 [(0, .ref h0)] := hl
  refine lv_aload_n hx hb dX4_takeByte_0 rfl (lv_at hl 0 rfl) ?_
  refine va_get (D := (dC, dI)) (ci := 4) (v := .int xx4_7) (C := RX4) (T := TX4) (N := 12) hx hb hts inlX4 hown hK hP 0 rfl rfl 7 (by decide) (hts (.fieldLink RX4 21 "ShapeReader$Reading" "failure" "I") mw_10_18) (fun _ h9 => h9) rfl dX4_takeByte_1 ?_
  refine lv_if_eq (tgt := 9) hx hb dX4_takeByte_4 (by decide) (fun c_1 => ?_) (fun c_1 => ?_)
  · refine lv_aload_n hx hb dX4_takeByte_9 rfl (lv_at hl 0 rfl) ?_
    refine va_get (D := (dC, dI)) (ci := 4) (v := .int xx4_5) (C := RX4) (T := TX4) (N := 12) hx hb hts inlX4 hown hK hP 0 rfl rfl 5 (by decide) (hts (.fieldLink RX4 15 "ShapeReader$Reading" "next" "I") mw_10_16) (fun _ h9 => h9) rfl dX4_takeByte_10 ?_
    refine lv_aload_n hx hb dX4_takeByte_13 rfl (lv_at hl 0 rfl) ?_
    refine va_get (D := (dC, dI)) (ci := 4) (v := .int xx4_6) (C := RX4) (T := TX4) (N := 12) hx hb hts inlX4 hown hK hP 0 rfl rfl 6 (by decide) (hts (.fieldLink RX4 18 "ShapeReader$Reading" "end" "I") mw_10_17) (fun _ h9 => h9) rfl dX4_takeByte_14 ?_
    refine lv_icmp_lt (tgt := 32) hx hb dX4_takeByte_17 (by decide) (fun c_2 => ?_) (fun c_2 => ?_)
    · refine lv_aload_n hx hb dX4_takeByte_32 rfl (lv_at hl 0 rfl) ?_
      refine va_get (D := (dC, dI)) (ci := 4) (v := .ref ox4_1) (C := RX4) (T := TX4) (N := 12) hx hb hts inlX4 hown hK hP 0 rfl rfl 1 (by decide) (hts (.fieldLink RX4 41 "ShapeReader$Reading" "messages" "LShapeReader$Messages;") mw_10_24) (fun _ h9 => h9) rfl dX4_takeByte_33 ?_
      refine lv_aload_n hx hb dX4_takeByte_36 rfl (lv_at hl 0 rfl) ?_
      refine va_get (D := (dC, dI)) (ci := 4) (v := .int xx4_4) (C := RX4) (T := TX4) (N := 12) hx hb hts inlX4 hown hK hP 0 rfl rfl 4 (by decide) (hts (.fieldLink RX4 9 "ShapeReader$Reading" "message" "I") mw_10_15) (fun _ h9 => h9) rfl dX4_takeByte_37 ?_
      refine lv_aload_n hx hb dX4_takeByte_40 rfl (lv_at hl 0 rfl) ?_
      refine va_get (D := (dC, dI)) (ci := 4) (v := .int xx4_5) (C := RX4) (T := TX4) (N := 12) hx hb hts inlX4 hown hK hP 0 rfl rfl 5 (by decide) (hts (.fieldLink RX4 15 "ShapeReader$Reading" "next" "I") mw_10_16) (fun _ h9 => h9) rfl dX4_takeByte_41 ?_
      have hPc := hP.sub (ws' := [(ox4_1, .inr (1, [.ref ax1_1_0, .ref ax1_1_1, .ref ax1_1_2])), (ax1_1_0, .inl (cx1_1_0, 1600, .inl fx1_1_0))]) [1, 2] rfl
      have hDc := hD.sub (ws' := [(ox4_1, .inr (1, [.ref ax1_1_0, .ref ax1_1_1, .ref ax1_1_2])), (ax1_1_0, .inl (cx1_1_0, 1600, .inl fx1_1_0))]) [1, 2] (by decide) rfl
      have hKc := hK.sub (tys' := [(cx1_1_0, .byte)]) [0] rfl
      have hFc := va_free (wc := [(ox4_1, .inr (1, [.ref ax1_1_0, .ref ax1_1_1, .ref ax1_1_2])), (ax1_1_0, .inl (cx1_1_0, 1600, .inl fx1_1_0))]) hD hS hA [1, 2] rfl
      refine va_calli (va_runV (As := [.int xx4_4, .int xx4_5]) (rest := []) ⟨hx, hb, hml, hown, hts⟩ (s_X1_byteOf l dC dI ox4_1 ax1_1_0 cx1_1_0 fx1_1_0 ax1_1_1 ax1_1_2 xx4_4 xx4_5 s.heap.size) (cwV 2 hts (gV mw_14_7 mw_4_14 mw_4_15 mw_0_5 mw_47_4) rfl rfl rfl (by decide +kernel) ⟨(Nat.le_of_ble_eq_true rfl), (Nat.le_of_ble_eq_true rfl)⟩) (vV (ci := 1) (q0 := 0) hKc hPc hDc hN rfl rfl) rfl rfl hl.1 rfl (lv_room (Nat.le_of_ble_eq_true rfl)) dX4_takeByte_44 ⟨(Nat.le_of_ble_eq_true rfl), (Nat.le_of_ble_eq_true rfl)⟩) hS (fun q _ h => hFc q h) hFc (fun r_3 u t H1 locs ht hvm hw hB hz1 hk1 hS => ?_)
      obtain ⟨hP1, hK1, hD1⟩ := hB
      rw [ht] at hP1
      have hK1 := va_K.moved hvm.symm hK1
      obtain ⟨hP, hD⟩ := va_join (wr := [(h0, .inr (4, [.ref ox4_0, .ref ox4_1, .ref ox4_2, .ref ox4_3, .int xx4_4, .int xx4_5, .int xx4_6, .int xx4_7, .int xx4_8, .ref ax4_9, .int xx4_10, .ref ax4_11]))]) (w1 := [(ox4_1, .inr (1, [.ref ax1_1_0, .ref ax1_1_1, .ref ax1_1_2])), (ax1_1_0, .inl (cx1_1_0, 1600, .inl fx1_1_0))]) hP hD [1, 2] [0] rfl rfl (by decide) (by decide) hk1 hFc hP1 hD1
      clear hPc hDc hKc hP1 hK1 hD1 hFc hk1 hz1
      generalize H1 = H at hP hS ⊢
      have hP : va_P (dC, dI) vwCl [(h0, .inr (4, [.ref ox4_0, .ref ox4_1, .ref ox4_2, .ref ox4_3, .int xx4_4, .int xx4_5, .int xx4_6, .int xx4_7, .int xx4_8, .ref ax4_9, .int xx4_10, .ref ax4_11])), (ox4_1, .inr (1, [.ref ax1_1_0, .ref ax1_1_1, .ref ax1_1_2])), (ax1_1_0, .inl (cx1_1_0, 1600, .inl fx1_1_0))] H := hP
      have hD : va_D A [(h0, .inr (4, [.ref ox4_0, .ref ox4_1, .ref ox4_2, .ref ox4_3, .int xx4_4, .int xx4_5, .int xx4_6, .int xx4_7, .int xx4_8, .ref ax4_9, .int xx4_10, .ref ax4_11])), (ox4_1, .inr (1, [.ref ax1_1_0, .ref ax1_1_1, .ref ax1_1_2])), (ax1_1_0, .inl (cx1_1_0, 1600, .inl fx1_1_0))] := hD
      rcases hw with q_4 | rfl
      · refine lv_istore_n (lv' := [(1, .int r_3), (0, .ref h0)]) hx hb dX4_takeByte_47 rfl hl (by decide) rfl (fun ls hl => ?_)
        refine lv_aload_n hx hb dX4_takeByte_48 rfl (lv_at hl 1 rfl) ?_
        refine lv_dup hx hb dX4_takeByte_49 rfl ?_
        refine va_get (D := (dC, dI)) (ci := 4) (v := .int xx4_5) (C := RX4) (T := TX4) (N := 12) hx hb hts inlX4 hown hK hP 0 rfl rfl 5 (by decide) (hts (.fieldLink RX4 15 "ShapeReader$Reading" "next" "I") mw_10_16) (fun _ h9 => h9) rfl dX4_takeByte_50 ?_
        refine lv_iconst (v := 1) hx hb dX4_takeByte_53 (by decide) ?_
        refine lv_iadd hx hb dX4_takeByte_54 ?_
        refine lv_topi (fun x_5 ex_5 => ?_)
        refine va_put (D := (dC, dI)) (ci := 4) (v := .int x_5) (ty := .int) (C := RX4) (T := TX4) (N := 12) hx hb hts inlX4 tyX4 tyX4_ok nmX4 hown hK hP hD hS 0 rfl rfl 5 (by decide) (hts (.fieldLink RX4 15 "ShapeReader$Reading" "next" "I") mw_10_16) (fun _ h9 => h9) rfl (by decide +kernel) rfl rfl (Nat.le_of_ble_eq_true rfl) dX4_takeByte_55 (fun H locs hP hD hS => ?_)
        have hP : va_P (dC, dI) vwCl [(h0, .inr (4, [.ref ox4_0, .ref ox4_1, .ref ox4_2, .ref ox4_3, .int xx4_4, .int x_5, .int xx4_6, .int xx4_7, .int xx4_8, .ref ax4_9, .int xx4_10, .ref ax4_11])), (ox4_1, .inr (1, [.ref ax1_1_0, .ref ax1_1_1, .ref ax1_1_2])), (ax1_1_0, .inl (cx1_1_0, 1600, .inl fx1_1_0))] H := hP
        have hD : va_D A [(h0, .inr (4, [.ref ox4_0, .ref ox4_1, .ref ox4_2, .ref ox4_3, .int xx4_4, .int x_5, .int xx4_6, .int xx4_7, .int xx4_8, .ref ax4_9, .int xx4_10, .ref ax4_11])), (ox4_1, .inr (1, [.ref ax1_1_0, .ref ax1_1_1, .ref ax1_1_2])), (ax1_1_0, .inl (cx1_1_0, 1600, .inl fx1_1_0))] := hD
        refine lv_iload_n hx hb dX4_takeByte_58 rfl (lv_at hl 0 rfl) ?_
        have hP9 := hP.sub (ws' := [(h0, .inr (4, [.ref ox4_0, .ref ox4_1, .ref ox4_2, .ref ox4_3, .int xx4_4, .int x_5, .int xx4_6, .int xx4_7, .int xx4_8, .ref ax4_9, .int xx4_10, .ref ax4_11])), (ox4_1, .inr (1, [.ref ax1_1_0, .ref ax1_1_1, .ref ax1_1_2])), (ax1_1_0, .inl (cx1_1_0, 1600, .inl fx1_1_0))]) [0, 1, 2] rfl
        have hD9 := hD.sub (ws' := [(h0, .inr (4, [.ref ox4_0, .ref ox4_1, .ref ox4_2, .ref ox4_3, .int xx4_4, .int x_5, .int xx4_6, .int xx4_7, .int xx4_8, .ref ax4_9, .int xx4_10, .ref ax4_11])), (ox4_1, .inr (1, [.ref ax1_1_0, .ref ax1_1_1, .ref ax1_1_2])), (ax1_1_0, .inl (cx1_1_0, 1600, .inl fx1_1_0))]) [0, 1, 2] (by decide) rfl
        have hK9 := hK.sub (tys' := [(cx1_1_0, .byte)]) [0] rfl
        refine W.widen (k := 0) (n := 0) (Nat.le_of_ble_eq_true rfl) (Nat.le_of_ble_eq_true rfl) ?_
        exact W.iret (v := r_3) hx hb hr (fun t ht hW => ⟨⟨r_3, (), rfl, Or.inl (⟨(by rw [q_4]), c_1, c_2⟩), x_5, xx4_7, xx4_8, xx4_10, by rw [ht]; exact hP9, va_K.moved hW.alike hK9, hD9⟩, hS.F ht⟩) hS.2.2 dX4_takeByte_59
      · refine lv_istore_n (lv' := [(1, .int 0), (0, .ref h0)]) hx hb dX4_takeByte_47 rfl hl (by decide) rfl (fun ls hl => ?_)
        refine lv_aload_n hx hb dX4_takeByte_48 rfl (lv_at hl 1 rfl) ?_
        refine lv_dup hx hb dX4_takeByte_49 rfl ?_
        refine va_get (D := (dC, dI)) (ci := 4) (v := .int xx4_5) (C := RX4) (T := TX4) (N := 12) hx hb hts inlX4 hown hK hP 0 rfl rfl 5 (by decide) (hts (.fieldLink RX4 15 "ShapeReader$Reading" "next" "I") mw_10_16) (fun _ h9 => h9) rfl dX4_takeByte_50 ?_
        refine lv_iconst (v := 1) hx hb dX4_takeByte_53 (by decide) ?_
        refine lv_iadd hx hb dX4_takeByte_54 ?_
        refine lv_topi (fun x_6 ex_6 => ?_)
        refine va_put (D := (dC, dI)) (ci := 4) (v := .int x_6) (ty := .int) (C := RX4) (T := TX4) (N := 12) hx hb hts inlX4 tyX4 tyX4_ok nmX4 hown hK hP hD hS 0 rfl rfl 5 (by decide) (hts (.fieldLink RX4 15 "ShapeReader$Reading" "next" "I") mw_10_16) (fun _ h9 => h9) rfl (by decide +kernel) rfl rfl (Nat.le_of_ble_eq_true rfl) dX4_takeByte_55 (fun H locs hP hD hS => ?_)
        have hP : va_P (dC, dI) vwCl [(h0, .inr (4, [.ref ox4_0, .ref ox4_1, .ref ox4_2, .ref ox4_3, .int xx4_4, .int x_6, .int xx4_6, .int xx4_7, .int xx4_8, .ref ax4_9, .int xx4_10, .ref ax4_11])), (ox4_1, .inr (1, [.ref ax1_1_0, .ref ax1_1_1, .ref ax1_1_2])), (ax1_1_0, .inl (cx1_1_0, 1600, .inl fx1_1_0))] H := hP
        have hD : va_D A [(h0, .inr (4, [.ref ox4_0, .ref ox4_1, .ref ox4_2, .ref ox4_3, .int xx4_4, .int x_6, .int xx4_6, .int xx4_7, .int xx4_8, .ref ax4_9, .int xx4_10, .ref ax4_11])), (ox4_1, .inr (1, [.ref ax1_1_0, .ref ax1_1_1, .ref ax1_1_2])), (ax1_1_0, .inl (cx1_1_0, 1600, .inl fx1_1_0))] := hD
        refine lv_iload_n hx hb dX4_takeByte_58 rfl (lv_at hl 0 rfl) ?_
        have hP9 := hP.sub (ws' := [(h0, .inr (4, [.ref ox4_0, .ref ox4_1, .ref ox4_2, .ref ox4_3, .int xx4_4, .int x_6, .int xx4_6, .int xx4_7, .int xx4_8, .ref ax4_9, .int xx4_10, .ref ax4_11])), (ox4_1, .inr (1, [.ref ax1_1_0, .ref ax1_1_1, .ref ax1_1_2])), (ax1_1_0, .inl (cx1_1_0, 1600, .inl fx1_1_0))]) [0, 1, 2] rfl
        have hD9 := hD.sub (ws' := [(h0, .inr (4, [.ref ox4_0, .ref ox4_1, .ref ox4_2, .ref ox4_3, .int xx4_4, .int x_6, .int xx4_6, .int xx4_7, .int xx4_8, .ref ax4_9, .int xx4_10, .ref ax4_11])), (ox4_1, .inr (1, [.ref ax1_1_0, .ref ax1_1_1, .ref ax1_1_2])), (ax1_1_0, .inl (cx1_1_0, 1600, .inl fx1_1_0))]) [0, 1, 2] (by decide) rfl
        have hK9 := hK.sub (tys' := [(cx1_1_0, .byte)]) [0] rfl
        refine W.widen (k := 0) (n := 0) (Nat.le_of_ble_eq_true rfl) (Nat.le_of_ble_eq_true rfl) ?_
        exact W.iret (v := 0) hx hb hr (fun t ht hW => ⟨⟨0, (), rfl, Or.inr (rfl), x_6, xx4_7, xx4_8, xx4_10, by rw [ht]; exact hP9, va_K.moved hW.alike hK9, hD9⟩, hS.F ht⟩) hS.2.2 dX4_takeByte_59
    · refine lv_aload_n hx hb dX4_takeByte_20 rfl (lv_at hl 0 rfl) ?_
      refine lv_bipush (v := 11) hx hb dX4_takeByte_21 (by decide) ?_
      refine lv_aload_n hx hb dX4_takeByte_23 rfl (lv_at hl 0 rfl) ?_
      refine va_get (D := (dC, dI)) (ci := 4) (v := .int xx4_6) (C := RX4) (T := TX4) (N := 12) hx hb hts inlX4 hown hK hP 0 rfl rfl 6 (by decide) (hts (.fieldLink RX4 18 "ShapeReader$Reading" "end" "I") mw_10_17) (fun _ h9 => h9) rfl dX4_takeByte_24 ?_
      have hPc := hP.sub (ws' := [(h0, .inr (4, [.ref ox4_0, .ref ox4_1, .ref ox4_2, .ref ox4_3, .int xx4_4, .int xx4_5, .int xx4_6, .int xx4_7, .int xx4_8, .ref ax4_9, .int xx4_10, .ref ax4_11]))]) [0] rfl
      have hDc := hD.sub (ws' := [(h0, .inr (4, [.ref ox4_0, .ref ox4_1, .ref ox4_2, .ref ox4_3, .int xx4_4, .int xx4_5, .int xx4_6, .int xx4_7, .int xx4_8, .ref ax4_9, .int xx4_10, .ref ax4_11]))]) [0] (by decide) rfl
      have hKc := hK.sub (tys' := []) [] rfl
      have hFc := va_free (wc := [(h0, .inr (4, [.ref ox4_0, .ref ox4_1, .ref ox4_2, .ref ox4_3, .int xx4_4, .int xx4_5, .int xx4_6, .int xx4_7, .int xx4_8, .ref ax4_9, .int xx4_10, .ref ax4_11]))]) hD hS hA [0] rfl
      refine va_callv (va_runV (As := [.int 11, .int xx4_6]) (rest := []) ⟨hx, hb, hml, hown, hts⟩ (s_X4_fail l dC dI h0 ox4_0 ox4_1 ox4_2 ox4_3 xx4_4 xx4_5 xx4_6 xx4_7 xx4_8 ax4_9 xx4_10 ax4_11 11 xx4_6 s.heap.size) (cwV 2 hts (gV mw_11_10 mw_11_11 mw_11_12 mw_0_8 mw_48_2) rfl rfl rfl (by decide +kernel) ⟨(Nat.le_of_ble_eq_true rfl), (Nat.le_of_ble_eq_true rfl)⟩) (vV (ci := 4) (q0 := 0) hKc hPc hDc hN rfl rfl) rfl rfl hl.1 rfl (lv_room (Nat.le_of_ble_eq_true rfl)) dX4_takeByte_27 ⟨(Nat.le_of_ble_eq_true rfl), (Nat.le_of_ble_eq_true rfl)⟩) hS (fun q _ h => hFc q h) hFc (fun u t H1 locs ht hvm hw hB hz1 hk1 hS => ?_)
      obtain ⟨y0_7_8, y0_8_9, y0_10_10, hP1, hK1, hD1⟩ := hB
      rw [ht] at hP1
      have hK1 := va_K.moved hvm.symm hK1
      obtain ⟨hP, hD⟩ := va_join (wr := [(ox4_1, .inr (1, [.ref ax1_1_0, .ref ax1_1_1, .ref ax1_1_2])), (ax1_1_0, .inl (cx1_1_0, 1600, .inl fx1_1_0))]) (w1 := [(h0, .inr (4, [.ref ox4_0, .ref ox4_1, .ref ox4_2, .ref ox4_3, .int xx4_4, .int xx4_5, .int xx4_6, .int y0_7_8, .int y0_8_9, .ref ax4_9, .int y0_10_10, .ref ax4_11]))]) hP hD [0] [1, 2] rfl rfl (by decide) (by decide) hk1 hFc hP1 hD1
      clear hPc hDc hKc hP1 hK1 hD1 hFc hk1 hz1
      generalize H1 = H at hP hS ⊢
      have hP : va_P (dC, dI) vwCl [(ox4_1, .inr (1, [.ref ax1_1_0, .ref ax1_1_1, .ref ax1_1_2])), (ax1_1_0, .inl (cx1_1_0, 1600, .inl fx1_1_0)), (h0, .inr (4, [.ref ox4_0, .ref ox4_1, .ref ox4_2, .ref ox4_3, .int xx4_4, .int xx4_5, .int xx4_6, .int y0_7_8, .int y0_8_9, .ref ax4_9, .int y0_10_10, .ref ax4_11]))] H := hP
      have hD : va_D A [(ox4_1, .inr (1, [.ref ax1_1_0, .ref ax1_1_1, .ref ax1_1_2])), (ax1_1_0, .inl (cx1_1_0, 1600, .inl fx1_1_0)), (h0, .inr (4, [.ref ox4_0, .ref ox4_1, .ref ox4_2, .ref ox4_3, .int xx4_4, .int xx4_5, .int xx4_6, .int y0_7_8, .int y0_8_9, .ref ax4_9, .int y0_10_10, .ref ax4_11]))] := hD
      refine lv_iconst (v := 0) hx hb dX4_takeByte_30 (by decide) ?_
      have hP9 := hP.sub (ws' := [(h0, .inr (4, [.ref ox4_0, .ref ox4_1, .ref ox4_2, .ref ox4_3, .int xx4_4, .int xx4_5, .int xx4_6, .int y0_7_8, .int y0_8_9, .ref ax4_9, .int y0_10_10, .ref ax4_11])), (ox4_1, .inr (1, [.ref ax1_1_0, .ref ax1_1_1, .ref ax1_1_2])), (ax1_1_0, .inl (cx1_1_0, 1600, .inl fx1_1_0))]) [2, 0, 1] rfl
      have hD9 := hD.sub (ws' := [(h0, .inr (4, [.ref ox4_0, .ref ox4_1, .ref ox4_2, .ref ox4_3, .int xx4_4, .int xx4_5, .int xx4_6, .int y0_7_8, .int y0_8_9, .ref ax4_9, .int y0_10_10, .ref ax4_11])), (ox4_1, .inr (1, [.ref ax1_1_0, .ref ax1_1_1, .ref ax1_1_2])), (ax1_1_0, .inl (cx1_1_0, 1600, .inl fx1_1_0))]) [2, 0, 1] (by decide) rfl
      have hK9 := hK.sub (tys' := [(cx1_1_0, .byte)]) [0] rfl
      refine W.widen (k := 0) (n := 0) (Nat.le_of_ble_eq_true rfl) (Nat.le_of_ble_eq_true rfl) ?_
      exact W.iret (v := 0) hx hb hr (fun t ht hW => ⟨⟨0, (), rfl, Or.inr (rfl), xx4_5, y0_7_8, y0_8_9, y0_10_10, by rw [ht]; exact hP9, va_K.moved hW.alike hK9, hD9⟩, hS.F ht⟩) hS.2.2 dX4_takeByte_31
  · refine lv_iconst (v := 0) hx hb dX4_takeByte_7 (by decide) ?_
    have hP9 := hP.sub (ws' := [(h0, .inr (4, [.ref ox4_0, .ref ox4_1, .ref ox4_2, .ref ox4_3, .int xx4_4, .int xx4_5, .int xx4_6, .int xx4_7, .int xx4_8, .ref ax4_9, .int xx4_10, .ref ax4_11])), (ox4_1, .inr (1, [.ref ax1_1_0, .ref ax1_1_1, .ref ax1_1_2])), (ax1_1_0, .inl (cx1_1_0, 1600, .inl fx1_1_0))]) [0, 1, 2] rfl
    have hD9 := hD.sub (ws' := [(h0, .inr (4, [.ref ox4_0, .ref ox4_1, .ref ox4_2, .ref ox4_3, .int xx4_4, .int xx4_5, .int xx4_6, .int xx4_7, .int xx4_8, .ref ax4_9, .int xx4_10, .ref ax4_11])), (ox4_1, .inr (1, [.ref ax1_1_0, .ref ax1_1_1, .ref ax1_1_2])), (ax1_1_0, .inl (cx1_1_0, 1600, .inl fx1_1_0))]) [0, 1, 2] (by decide) rfl
    have hK9 := hK.sub (tys' := [(cx1_1_0, .byte)]) [0] rfl
    refine W.widen (k := 0) (n := 0) (Nat.le_of_ble_eq_true rfl) (Nat.le_of_ble_eq_true rfl) ?_
    exact W.iret (v := 0) hx hb hr (fun t ht hW => ⟨⟨0, (), rfl, Or.inr (rfl), xx4_5, xx4_7, xx4_8, xx4_10, by rw [ht]; exact hP9, va_K.moved hW.alike hK9, hD9⟩, hS.F ht⟩) hS.2.2 dX4_takeByte_8

set_option maxRecDepth 100000 in
set_option maxHeartbeats 4000000 in
theorem s_X4_takeNumber_L {p : Program} {e : Env} {s : State} {m : MethodId} {below : List Frame} {meth : Method} {c : Code} (l : Launch) (dC : Nat → ClassId) (dI : Nat → Nat → Nat) (h0 : Nat) (ox4_0 : Nat) (ox4_1 : Nat) (ax1_1_0 : Nat) (cx1_1_0 : ClassId) (fx1_1_0 : Nat → Int32) (ax1_1_1 : Nat) (ax1_1_2 : Nat) (ox4_2 : Nat) (ox4_3 : Nat) (xx4_4 : Int32) (xx4_5 : Int32) (xx4_6 : Int32) (xx4_7 : Int32) (xx4_8 : Int32) (ax4_9 : Nat) (xx4_10 : Int32) (ax4_11 : Nat) (p0 : Int32) (A : Nat → Prop) (hx : p.tables.exec = Jvm.exec) (hb : c.code = cX4_takeNumber) (hr : meth.sig.returnType = (some .long)) (hml : c.maxLocals = 6) (hown : s.vm.findClass RX4 = some m.cls) (hts : ∀ w ∈ pw, w.before (([.ref h0, .int p0] : List Value).toArray) s = true) (hlocks : meth.locks = false) (hA : ∀ q : Nat, s.heap.size ≤ q → A q) (hN : nN s) (hK : va_K (dC, dI) vwCl [(cx1_1_0, .byte)] s) : ∀ (n : Nat) (v4 : Int32) (v2 : Int64) (w5_h0 : Int32) (w7_h0 : Int32) (w8_h0 : Int32) (w10_h0 : Int32) (H : Heap) (locs : List Loc) (ls : Array Slot), (10 - v4.toInt).toNat < n → 0 ≤ v4.toInt ∧ v4.toInt ≤ 10 → va_P (dC, dI) vwCl [(h0, .inr (4, [.ref ox4_0, .ref ox4_1, .ref ox4_2, .ref ox4_3, .int xx4_4, .int w5_h0, .int xx4_6, .int w7_h0, .int w8_h0, .ref ax4_9, .int w10_h0, .ref ax4_11])), (ox4_1, .inr (1, [.ref ax1_1_0, .ref ax1_1_1, .ref ax1_1_2])), (ax1_1_0, .inl (cx1_1_0, 1600, .inl fx1_1_0))] H → va_D A [(h0, .inr (4, [.ref ox4_0, .ref ox4_1, .ref ox4_2, .ref ox4_3, .int xx4_4, .int w5_h0, .int xx4_6, .int w7_h0, .int w8_h0, .ref ax4_9, .int w10_h0, .ref ax4_11])), (ox4_1, .inr (1, [.ref ax1_1_0, .ref ax1_1_1, .ref ax1_1_2])), (ax1_1_0, .inl (cx1_1_0, 1600, .inl fx1_1_0))] → va_S A s.heap H locs → lv_has ls 6 [(4, .int v4), (2, .long v2), (0, .ref h0), (1, .int p0)] → W p l e ({ frames := 2, cells := 0, slots := 0, locals := 44 } : Room) s m (([.ref h0, .int p0] : List Value).toArray) below meth c H locs 0 0 (MQ below (va_Ql (fun (r : Int64) (_ : Unit) => True) (fun (_ : Unit) t => ∃ (y0_5 : Int32), ∃ (y0_7 : Int32), ∃ (y0_8 : Int32), ∃ (y0_10 : Int32), vPst dC dI A [(h0, .inr (4, [.ref ox4_0, .ref ox4_1, .ref ox4_2, .ref ox4_3, .int xx4_4, .int y0_5, .int xx4_6, .int y0_7, .int y0_8, .ref ax4_9, .int y0_10, .ref ax4_11])), (ox4_1, .inr (1, [.ref ax1_1_0, .ref ax1_1_1, .ref ax1_1_2])), (ax1_1_0, .inl (cx1_1_0, 1600, .inl fx1_1_0))] [(cx1_1_0, .byte)] t) A) (([.ref h0, .int p0] : List Value).toArray) s 0 0 A) (F0 m 5 ls []) := by
  intro n
  induction n with
  | zero =>
    intro v4 v2 w5_h0 w7_h0 w8_h0 w10_h0 H locs ls hn
    exact absurd hn (Nat.not_lt_zero _)
  | succ n ih =>
    intro v4 v2 w5_h0 w7_h0 w8_h0 w10_h0 H locs ls hn hb_4 hP hD hS hl
    refine lv_iload hx hb dX4_takeNumber_5 (lv_at hl 0 rfl) ?_
    refine lv_bipush (v := 10) hx hb dX4_takeNumber_7 (by decide) ?_
    refine lv_icmp_ge (tgt := 70) hx hb dX4_takeNumber_9 (by decide) (fun c_101 => ?_) (fun c_101 => ?_)
    · refine lv_aload_n hx hb dX4_takeNumber_70 rfl (lv_at hl 2 rfl) ?_
      refine va_get (D := (dC, dI)) (ci := 4) (v := .int w7_h0) (C := RX4) (T := TX4) (N := 12) hx hb hts inlX4 hown hK hP 0 rfl rfl 7 (by decide) (hts (.fieldLink RX4 21 "ShapeReader$Reading" "failure" "I") mw_10_18) (fun _ h9 => h9) rfl dX4_takeNumber_71 ?_
      refine lv_if_eq (tgt := 81) hx hb dX4_takeNumber_74 (by decide) (fun c_102 => ?_) (fun c_102 => ?_)
      · refine lv_lload_n hx hb dX4_takeNumber_81 rfl (lv_at hl 1 rfl) ?_
        refine lv_iconst (v := 1) hx hb dX4_takeNumber_82 (by decide) ?_
        refine lv_lushr (v := _) hx hb dX4_takeNumber_83 rfl ?_
        refine lv_topl (fun x_103 ex_103 => ?_)
        refine lv_lload_n hx hb dX4_takeNumber_84 rfl (lv_at hl 1 rfl) ?_
        refine lv_lconst (v := 1) hx hb dX4_takeNumber_85 (by decide) ?_
        refine lv_land hx hb dX4_takeNumber_86 ?_
        refine lv_topl (fun x_104 ex_104 => ?_)
        refine lv_lneg hx hb dX4_takeNumber_87 ?_
        refine lv_topl (fun x_105 ex_105 => ?_)
        refine lv_lxor hx hb dX4_takeNumber_88 ?_
        refine lv_topl (fun x_106 ex_106 => ?_)
        have hP9 := hP.sub (ws' := [(h0, .inr (4, [.ref ox4_0, .ref ox4_1, .ref ox4_2, .ref ox4_3, .int xx4_4, .int w5_h0, .int xx4_6, .int w7_h0, .int w8_h0, .ref ax4_9, .int w10_h0, .ref ax4_11])), (ox4_1, .inr (1, [.ref ax1_1_0, .ref ax1_1_1, .ref ax1_1_2])), (ax1_1_0, .inl (cx1_1_0, 1600, .inl fx1_1_0))]) [0, 1, 2] rfl
        have hD9 := hD.sub (ws' := [(h0, .inr (4, [.ref ox4_0, .ref ox4_1, .ref ox4_2, .ref ox4_3, .int xx4_4, .int w5_h0, .int xx4_6, .int w7_h0, .int w8_h0, .ref ax4_9, .int w10_h0, .ref ax4_11])), (ox4_1, .inr (1, [.ref ax1_1_0, .ref ax1_1_1, .ref ax1_1_2])), (ax1_1_0, .inl (cx1_1_0, 1600, .inl fx1_1_0))]) [0, 1, 2] (by decide) rfl
        have hK9 := hK.sub (tys' := [(cx1_1_0, .byte)]) [0] rfl
        refine W.widen (k := 0) (n := 0) (Nat.le_of_ble_eq_true rfl) (Nat.le_of_ble_eq_true rfl) ?_
        exact W.lret (v := x_106) hx hb hr (fun t ht hW => ⟨⟨x_106, (), rfl, trivial, w5_h0, w7_h0, w8_h0, w10_h0, by rw [ht]; exact hP9, va_K.moved hW.alike hK9, hD9⟩, hS.F ht⟩) hS.2.2 dX4_takeNumber_89
      · refine lv_lconst (v := 0) hx hb dX4_takeNumber_77 (by decide) ?_
        refine lv_goto (tgt := 89) hx hb dX4_takeNumber_78 (by decide) ?_
        have hP9 := hP.sub (ws' := [(h0, .inr (4, [.ref ox4_0, .ref ox4_1, .ref ox4_2, .ref ox4_3, .int xx4_4, .int w5_h0, .int xx4_6, .int w7_h0, .int w8_h0, .ref ax4_9, .int w10_h0, .ref ax4_11])), (ox4_1, .inr (1, [.ref ax1_1_0, .ref ax1_1_1, .ref ax1_1_2])), (ax1_1_0, .inl (cx1_1_0, 1600, .inl fx1_1_0))]) [0, 1, 2] rfl
        have hD9 := hD.sub (ws' := [(h0, .inr (4, [.ref ox4_0, .ref ox4_1, .ref ox4_2, .ref ox4_3, .int xx4_4, .int w5_h0, .int xx4_6, .int w7_h0, .int w8_h0, .ref ax4_9, .int w10_h0, .ref ax4_11])), (ox4_1, .inr (1, [.ref ax1_1_0, .ref ax1_1_1, .ref ax1_1_2])), (ax1_1_0, .inl (cx1_1_0, 1600, .inl fx1_1_0))]) [0, 1, 2] (by decide) rfl
        have hK9 := hK.sub (tys' := [(cx1_1_0, .byte)]) [0] rfl
        refine W.widen (k := 0) (n := 0) (Nat.le_of_ble_eq_true rfl) (Nat.le_of_ble_eq_true rfl) ?_
        exact W.lret (v := 0) hx hb hr (fun t ht hW => ⟨⟨0, (), rfl, trivial, w5_h0, w7_h0, w8_h0, w10_h0, by rw [ht]; exact hP9, va_K.moved hW.alike hK9, hD9⟩, hS.F ht⟩) hS.2.2 dX4_takeNumber_89
    · refine lv_aload_n hx hb dX4_takeNumber_12 rfl (lv_at hl 2 rfl) ?_
      have hPc := hP.sub (ws' := [(h0, .inr (4, [.ref ox4_0, .ref ox4_1, .ref ox4_2, .ref ox4_3, .int xx4_4, .int w5_h0, .int xx4_6, .int w7_h0, .int w8_h0, .ref ax4_9, .int w10_h0, .ref ax4_11])), (ox4_1, .inr (1, [.ref ax1_1_0, .ref ax1_1_1, .ref ax1_1_2])), (ax1_1_0, .inl (cx1_1_0, 1600, .inl fx1_1_0))]) [0, 1, 2] rfl
      have hDc := hD.sub (ws' := [(h0, .inr (4, [.ref ox4_0, .ref ox4_1, .ref ox4_2, .ref ox4_3, .int xx4_4, .int w5_h0, .int xx4_6, .int w7_h0, .int w8_h0, .ref ax4_9, .int w10_h0, .ref ax4_11])), (ox4_1, .inr (1, [.ref ax1_1_0, .ref ax1_1_1, .ref ax1_1_2])), (ax1_1_0, .inl (cx1_1_0, 1600, .inl fx1_1_0))]) [0, 1, 2] (by decide) rfl
      have hKc := hK.sub (tys' := [(cx1_1_0, .byte)]) [0] rfl
      have hFc := va_free (wc := [(h0, .inr (4, [.ref ox4_0, .ref ox4_1, .ref ox4_2, .ref ox4_3, .int xx4_4, .int w5_h0, .int xx4_6, .int w7_h0, .int w8_h0, .ref ax4_9, .int w10_h0, .ref ax4_11])), (ox4_1, .inr (1, [.ref ax1_1_0, .ref ax1_1_1, .ref ax1_1_2])), (ax1_1_0, .inl (cx1_1_0, 1600, .inl fx1_1_0))]) hD hS hA [0, 1, 2] rfl
      refine va_calli (va_runV (As := []) (rest := []) ⟨hx, hb, hml, hown, hts⟩ (s_X4_takeByte l dC dI h0 ox4_0 ox4_1 ax1_1_0 cx1_1_0 fx1_1_0 ax1_1_1 ax1_1_2 ox4_2 ox4_3 xx4_4 w5_h0 xx4_6 w7_h0 w8_h0 ax4_9 w10_h0 ax4_11 H.size) (cwV 0 hts (gV mw_13_23 mw_13_24 mw_13_25 mw_0_8 mw_48_16) rfl rfl rfl (by decide +kernel) ⟨(Nat.le_of_ble_eq_true rfl), (Nat.le_of_ble_eq_true rfl)⟩) (vV (ci := 4) (q0 := 0) hKc hPc hDc hN rfl rfl) rfl rfl hl.1 rfl (lv_room (Nat.le_of_ble_eq_true rfl)) dX4_takeNumber_13 ⟨(Nat.le_of_ble_eq_true rfl), (Nat.le_of_ble_eq_true rfl)⟩) hS (fun q _ h => hFc q h) hFc (fun r_107 u t H1 locs ht hvm hw hB hz1 hk1 hS => ?_)
      obtain ⟨y0_5_108, y0_7_109, y0_8_110, y0_10_111, hP1, hK1, hD1⟩ := hB
      rw [ht] at hP1
      have hK1 := va_K.moved hvm.symm hK1
      obtain ⟨hP, hD⟩ := va_join (wr := []) (w1 := [(h0, .inr (4, [.ref ox4_0, .ref ox4_1, .ref ox4_2, .ref ox4_3, .int xx4_4, .int y0_5_108, .int xx4_6, .int y0_7_109, .int y0_8_110, .ref ax4_9, .int y0_10_111, .ref ax4_11])), (ox4_1, .inr (1, [.ref ax1_1_0, .ref ax1_1_1, .ref ax1_1_2])), (ax1_1_0, .inl (cx1_1_0, 1600, .inl fx1_1_0))]) hP hD [0, 1, 2] [] rfl rfl (by decide) (by decide) hk1 hFc hP1 hD1
      clear hPc hDc hKc hP1 hK1 hD1 hFc hk1 hz1
      generalize H1 = H at hP hS ⊢
      have hP : va_P (dC, dI) vwCl [(h0, .inr (4, [.ref ox4_0, .ref ox4_1, .ref ox4_2, .ref ox4_3, .int xx4_4, .int y0_5_108, .int xx4_6, .int y0_7_109, .int y0_8_110, .ref ax4_9, .int y0_10_111, .ref ax4_11])), (ox4_1, .inr (1, [.ref ax1_1_0, .ref ax1_1_1, .ref ax1_1_2])), (ax1_1_0, .inl (cx1_1_0, 1600, .inl fx1_1_0))] H := hP
      have hD : va_D A [(h0, .inr (4, [.ref ox4_0, .ref ox4_1, .ref ox4_2, .ref ox4_3, .int xx4_4, .int y0_5_108, .int xx4_6, .int y0_7_109, .int y0_8_110, .ref ax4_9, .int y0_10_111, .ref ax4_11])), (ox4_1, .inr (1, [.ref ax1_1_0, .ref ax1_1_1, .ref ax1_1_2])), (ax1_1_0, .inl (cx1_1_0, 1600, .inl fx1_1_0))] := hD
      rcases hw with ⟨q_114, g_112, g_113⟩ | rfl
      · refine lv_istore (lv' := [(5, .int r_107), (4, .int v4), (2, .long v2), (0, .ref h0), (1, .int p0)]) hx hb dX4_takeNumber_16 hl (by decide) rfl (fun ls hl => ?_)
        refine lv_iload hx hb dX4_takeNumber_18 (lv_at hl 1 rfl) ?_
        refine lv_bipush (v := 9) hx hb dX4_takeNumber_20 (by decide) ?_
        refine lv_icmp_ne (tgt := 38) hx hb dX4_takeNumber_22 (by decide) (fun c_115 => ?_) (fun c_115 => ?_)
        · refine lv_lload_n hx hb dX4_takeNumber_38 rfl (lv_at hl 2 rfl) ?_
          refine lv_iload hx hb dX4_takeNumber_39 (lv_at hl 0 rfl) ?_
          refine lv_bipush (v := 127) hx hb dX4_takeNumber_41 (by decide) ?_
          refine lv_iand hx hb dX4_takeNumber_43 ?_
          refine lv_topi (fun x_116 ex_116 => ?_)
          refine lv_i2l (v := x_116.toInt64) hx hb dX4_takeNumber_44 rfl ?_
          refine lv_bipush (v := 7) hx hb dX4_takeNumber_45 (by decide) ?_
          refine lv_iload hx hb dX4_takeNumber_47 (lv_at hl 1 rfl) ?_
          refine lv_imul hx hb dX4_takeNumber_49 ?_
          refine lv_topi (fun x_117 ex_117 => ?_)
          have bx_117 : (0 : Int) ≤ x_117.toInt ∧ x_117.toInt ≤ (63 : Int) := by have r1 := il_rng v4; have a0 := hb_4.1; have a1 := hb_4.2; have a2 := il_nle c_101; have e0 : (7 : Int32).toInt = 7 := (by decide); have e1 : (10 : Int32).toInt = 10 := (by decide); rw [ex_117]; have m9 := il_mulE (x := 7) (y := v4) (by rw [e0]; omega) (by rw [e0]; omega); rw [m9, e0]; omega
          refine lv_lshl (v := _) hx hb dX4_takeNumber_50 rfl ?_
          refine lv_topl (fun x_118 ex_118 => ?_)
          refine lv_lor hx hb dX4_takeNumber_51 ?_
          refine lv_topl (fun x_119 ex_119 => ?_)
          refine lv_lstore_n (lv' := [(2, .long x_119), (5, .int r_107), (4, .int v4), (0, .ref h0), (1, .int p0)]) hx hb dX4_takeNumber_52 rfl hl (by decide) rfl (fun ls hl => ?_)
          refine lv_iload hx hb dX4_takeNumber_53 (lv_at hl 1 rfl) ?_
          refine lv_sipush (v := 128) hx hb dX4_takeNumber_55 (by decide) ?_
          refine lv_icmp_ge (tgt := 64) hx hb dX4_takeNumber_58 (by decide) (fun c_120 => ?_) (fun c_120 => ?_)
          · obtain ⟨x_121, ex_121⟩ : ∃ y : Int32, y = v4 + Int32.ofInt 1 := ⟨_, rfl⟩
            have bx_121 : (1 : Int) ≤ x_121.toInt ∧ x_121.toInt ≤ (10 : Int) := by have r0 := il_rng v4; have a0 := hb_4.1; have a1 := hb_4.2; have a2 := il_nle c_101; have e0 : (10 : Int32).toInt = 10 := (by decide); have k9 : (Int32.ofInt 1).toInt = (1 : Int) := (by decide); rw [ex_121, il_addE (by rw [k9]; omega) (by rw [k9]; omega), k9]; omega
            refine lv_iinc (v := x_121) (lv' := [(4, .int x_121), (2, .long x_119), (5, .int r_107), (0, .ref h0), (1, .int p0)]) hx hb dX4_takeNumber_64 hl (k := 2) rfl ex_121.symm (by decide) rfl (fun ls hl => ?_)
            refine lv_goto (tgt := 5) hx hb dX4_takeNumber_67 (by decide) ?_
            exact ih x_121 x_119 y0_5_108 y0_7_109 y0_8_110 y0_10_111 _ _ _ (by have a0 := bx_121.1; have a1 := bx_121.2; have a2 := hb_4.1; have a3 := hb_4.2; have a4 := il_nle c_101; have e0 : (10 : Int32).toInt = 10 := (by decide); have r8 := il_rng v4; have m9 : x_121.toInt = v4.toInt + (1) := (by rw [ex_121]; have k9 : (Int32.ofInt (1)).toInt = (1) := (by decide); rw [il_addE (by rw [k9]; omega) (by rw [k9]; omega), k9]); omega) (by have a0 := bx_121.1; have a1 := bx_121.2; omega) (hP.sub [0, 1, 2] rfl) (hD.sub [0, 1, 2] (by decide) rfl) hS (lv_sub hl [0, 1, 3, 4] rfl)
          · refine lv_goto (tgt := 70) hx hb dX4_takeNumber_61 (by decide) ?_
            refine lv_aload_n hx hb dX4_takeNumber_70 rfl (lv_at hl 3 rfl) ?_
            refine va_get (D := (dC, dI)) (ci := 4) (v := .int y0_7_109) (C := RX4) (T := TX4) (N := 12) hx hb hts inlX4 hown hK hP 0 rfl rfl 7 (by decide) (hts (.fieldLink RX4 21 "ShapeReader$Reading" "failure" "I") mw_10_18) (fun _ h9 => h9) rfl dX4_takeNumber_71 ?_
            refine lv_if_eq (tgt := 81) hx hb dX4_takeNumber_74 (by decide) (fun c_122 => ?_) (fun c_122 => ?_)
            · refine lv_lload_n hx hb dX4_takeNumber_81 rfl (lv_at hl 0 rfl) ?_
              refine lv_iconst (v := 1) hx hb dX4_takeNumber_82 (by decide) ?_
              refine lv_lushr (v := _) hx hb dX4_takeNumber_83 rfl ?_
              refine lv_topl (fun x_123 ex_123 => ?_)
              refine lv_lload_n hx hb dX4_takeNumber_84 rfl (lv_at hl 0 rfl) ?_
              refine lv_lconst (v := 1) hx hb dX4_takeNumber_85 (by decide) ?_
              refine lv_land hx hb dX4_takeNumber_86 ?_
              refine lv_topl (fun x_124 ex_124 => ?_)
              refine lv_lneg hx hb dX4_takeNumber_87 ?_
              refine lv_topl (fun x_125 ex_125 => ?_)
              refine lv_lxor hx hb dX4_takeNumber_88 ?_
              refine lv_topl (fun x_126 ex_126 => ?_)
              have hP9 := hP.sub (ws' := [(h0, .inr (4, [.ref ox4_0, .ref ox4_1, .ref ox4_2, .ref ox4_3, .int xx4_4, .int y0_5_108, .int xx4_6, .int y0_7_109, .int y0_8_110, .ref ax4_9, .int y0_10_111, .ref ax4_11])), (ox4_1, .inr (1, [.ref ax1_1_0, .ref ax1_1_1, .ref ax1_1_2])), (ax1_1_0, .inl (cx1_1_0, 1600, .inl fx1_1_0))]) [0, 1, 2] rfl
              have hD9 := hD.sub (ws' := [(h0, .inr (4, [.ref ox4_0, .ref ox4_1, .ref ox4_2, .ref ox4_3, .int xx4_4, .int y0_5_108, .int xx4_6, .int y0_7_109, .int y0_8_110, .ref ax4_9, .int y0_10_111, .ref ax4_11])), (ox4_1, .inr (1, [.ref ax1_1_0, .ref ax1_1_1, .ref ax1_1_2])), (ax1_1_0, .inl (cx1_1_0, 1600, .inl fx1_1_0))]) [0, 1, 2] (by decide) rfl
              have hK9 := hK.sub (tys' := [(cx1_1_0, .byte)]) [0] rfl
              refine W.widen (k := 0) (n := 0) (Nat.le_of_ble_eq_true rfl) (Nat.le_of_ble_eq_true rfl) ?_
              exact W.lret (v := x_126) hx hb hr (fun t ht hW => ⟨⟨x_126, (), rfl, trivial, y0_5_108, y0_7_109, y0_8_110, y0_10_111, by rw [ht]; exact hP9, va_K.moved hW.alike hK9, hD9⟩, hS.F ht⟩) hS.2.2 dX4_takeNumber_89
            · refine lv_lconst (v := 0) hx hb dX4_takeNumber_77 (by decide) ?_
              refine lv_goto (tgt := 89) hx hb dX4_takeNumber_78 (by decide) ?_
              have hP9 := hP.sub (ws' := [(h0, .inr (4, [.ref ox4_0, .ref ox4_1, .ref ox4_2, .ref ox4_3, .int xx4_4, .int y0_5_108, .int xx4_6, .int y0_7_109, .int y0_8_110, .ref ax4_9, .int y0_10_111, .ref ax4_11])), (ox4_1, .inr (1, [.ref ax1_1_0, .ref ax1_1_1, .ref ax1_1_2])), (ax1_1_0, .inl (cx1_1_0, 1600, .inl fx1_1_0))]) [0, 1, 2] rfl
              have hD9 := hD.sub (ws' := [(h0, .inr (4, [.ref ox4_0, .ref ox4_1, .ref ox4_2, .ref ox4_3, .int xx4_4, .int y0_5_108, .int xx4_6, .int y0_7_109, .int y0_8_110, .ref ax4_9, .int y0_10_111, .ref ax4_11])), (ox4_1, .inr (1, [.ref ax1_1_0, .ref ax1_1_1, .ref ax1_1_2])), (ax1_1_0, .inl (cx1_1_0, 1600, .inl fx1_1_0))]) [0, 1, 2] (by decide) rfl
              have hK9 := hK.sub (tys' := [(cx1_1_0, .byte)]) [0] rfl
              refine W.widen (k := 0) (n := 0) (Nat.le_of_ble_eq_true rfl) (Nat.le_of_ble_eq_true rfl) ?_
              exact W.lret (v := 0) hx hb hr (fun t ht hW => ⟨⟨0, (), rfl, trivial, y0_5_108, y0_7_109, y0_8_110, y0_10_111, by rw [ht]; exact hP9, va_K.moved hW.alike hK9, hD9⟩, hS.F ht⟩) hS.2.2 dX4_takeNumber_89
        · refine lv_iload hx hb dX4_takeNumber_25 (lv_at hl 0 rfl) ?_
          refine lv_iconst (v := 1) hx hb dX4_takeNumber_27 (by decide) ?_
          refine lv_icmp_le (tgt := 38) hx hb dX4_takeNumber_28 (by decide) (fun c_127 => ?_) (fun c_127 => ?_)
          · refine lv_lload_n hx hb dX4_takeNumber_38 rfl (lv_at hl 2 rfl) ?_
            refine lv_iload hx hb dX4_takeNumber_39 (lv_at hl 0 rfl) ?_
            refine lv_bipush (v := 127) hx hb dX4_takeNumber_41 (by decide) ?_
            refine lv_iand hx hb dX4_takeNumber_43 ?_
            refine lv_topi (fun x_128 ex_128 => ?_)
            refine lv_i2l (v := x_128.toInt64) hx hb dX4_takeNumber_44 rfl ?_
            refine lv_bipush (v := 7) hx hb dX4_takeNumber_45 (by decide) ?_
            refine lv_iload hx hb dX4_takeNumber_47 (lv_at hl 1 rfl) ?_
            refine lv_imul hx hb dX4_takeNumber_49 ?_
            refine lv_topi (fun x_129 ex_129 => ?_)
            have bx_129 : (63 : Int) ≤ x_129.toInt ∧ x_129.toInt ≤ (63 : Int) := by have r1 := il_rng v4; have a0 := hb_4.1; have a1 := hb_4.2; have a2 := il_nle c_101; have a3 := il_eq c_115; have e0 : (7 : Int32).toInt = 7 := (by decide); have e1 : (9 : Int32).toInt = 9 := (by decide); have e2 : (10 : Int32).toInt = 10 := (by decide); rw [ex_129]; have m9 := il_mulE (x := 7) (y := v4) (by rw [e0]; omega) (by rw [e0]; omega); rw [m9, e0]; omega
            refine lv_lshl (v := _) hx hb dX4_takeNumber_50 rfl ?_
            refine lv_topl (fun x_130 ex_130 => ?_)
            refine lv_lor hx hb dX4_takeNumber_51 ?_
            refine lv_topl (fun x_131 ex_131 => ?_)
            refine lv_lstore_n (lv' := [(2, .long x_131), (5, .int r_107), (4, .int v4), (0, .ref h0), (1, .int p0)]) hx hb dX4_takeNumber_52 rfl hl (by decide) rfl (fun ls hl => ?_)
            refine lv_iload hx hb dX4_takeNumber_53 (lv_at hl 1 rfl) ?_
            refine lv_sipush (v := 128) hx hb dX4_takeNumber_55 (by decide) ?_
            refine lv_icmp_ge (tgt := 64) hx hb dX4_takeNumber_58 (by decide) (fun c_132 => False.elim (by have a0 := il_le c_127; have a1 := il_le c_132; have e0 : (1 : Int32).toInt = 1 := (by decide); have e1 : (128 : Int32).toInt = 128 := (by decide); omega)) (fun c_132 => ?_)
            refine lv_goto (tgt := 70) hx hb dX4_takeNumber_61 (by decide) ?_
            refine lv_aload_n hx hb dX4_takeNumber_70 rfl (lv_at hl 3 rfl) ?_
            refine va_get (D := (dC, dI)) (ci := 4) (v := .int y0_7_109) (C := RX4) (T := TX4) (N := 12) hx hb hts inlX4 hown hK hP 0 rfl rfl 7 (by decide) (hts (.fieldLink RX4 21 "ShapeReader$Reading" "failure" "I") mw_10_18) (fun _ h9 => h9) rfl dX4_takeNumber_71 ?_
            refine lv_if_eq (tgt := 81) hx hb dX4_takeNumber_74 (by decide) (fun c_133 => ?_) (fun c_133 => ?_)
            · refine lv_lload_n hx hb dX4_takeNumber_81 rfl (lv_at hl 0 rfl) ?_
              refine lv_iconst (v := 1) hx hb dX4_takeNumber_82 (by decide) ?_
              refine lv_lushr (v := _) hx hb dX4_takeNumber_83 rfl ?_
              refine lv_topl (fun x_134 ex_134 => ?_)
              refine lv_lload_n hx hb dX4_takeNumber_84 rfl (lv_at hl 0 rfl) ?_
              refine lv_lconst (v := 1) hx hb dX4_takeNumber_85 (by decide) ?_
              refine lv_land hx hb dX4_takeNumber_86 ?_
              refine lv_topl (fun x_135 ex_135 => ?_)
              refine lv_lneg hx hb dX4_takeNumber_87 ?_
              refine lv_topl (fun x_136 ex_136 => ?_)
              refine lv_lxor hx hb dX4_takeNumber_88 ?_
              refine lv_topl (fun x_137 ex_137 => ?_)
              have hP9 := hP.sub (ws' := [(h0, .inr (4, [.ref ox4_0, .ref ox4_1, .ref ox4_2, .ref ox4_3, .int xx4_4, .int y0_5_108, .int xx4_6, .int y0_7_109, .int y0_8_110, .ref ax4_9, .int y0_10_111, .ref ax4_11])), (ox4_1, .inr (1, [.ref ax1_1_0, .ref ax1_1_1, .ref ax1_1_2])), (ax1_1_0, .inl (cx1_1_0, 1600, .inl fx1_1_0))]) [0, 1, 2] rfl
              have hD9 := hD.sub (ws' := [(h0, .inr (4, [.ref ox4_0, .ref ox4_1, .ref ox4_2, .ref ox4_3, .int xx4_4, .int y0_5_108, .int xx4_6, .int y0_7_109, .int y0_8_110, .ref ax4_9, .int y0_10_111, .ref ax4_11])), (ox4_1, .inr (1, [.ref ax1_1_0, .ref ax1_1_1, .ref ax1_1_2])), (ax1_1_0, .inl (cx1_1_0, 1600, .inl fx1_1_0))]) [0, 1, 2] (by decide) rfl
              have hK9 := hK.sub (tys' := [(cx1_1_0, .byte)]) [0] rfl
              refine W.widen (k := 0) (n := 0) (Nat.le_of_ble_eq_true rfl) (Nat.le_of_ble_eq_true rfl) ?_
              exact W.lret (v := x_137) hx hb hr (fun t ht hW => ⟨⟨x_137, (), rfl, trivial, y0_5_108, y0_7_109, y0_8_110, y0_10_111, by rw [ht]; exact hP9, va_K.moved hW.alike hK9, hD9⟩, hS.F ht⟩) hS.2.2 dX4_takeNumber_89
            · refine lv_lconst (v := 0) hx hb dX4_takeNumber_77 (by decide) ?_
              refine lv_goto (tgt := 89) hx hb dX4_takeNumber_78 (by decide) ?_
              have hP9 := hP.sub (ws' := [(h0, .inr (4, [.ref ox4_0, .ref ox4_1, .ref ox4_2, .ref ox4_3, .int xx4_4, .int y0_5_108, .int xx4_6, .int y0_7_109, .int y0_8_110, .ref ax4_9, .int y0_10_111, .ref ax4_11])), (ox4_1, .inr (1, [.ref ax1_1_0, .ref ax1_1_1, .ref ax1_1_2])), (ax1_1_0, .inl (cx1_1_0, 1600, .inl fx1_1_0))]) [0, 1, 2] rfl
              have hD9 := hD.sub (ws' := [(h0, .inr (4, [.ref ox4_0, .ref ox4_1, .ref ox4_2, .ref ox4_3, .int xx4_4, .int y0_5_108, .int xx4_6, .int y0_7_109, .int y0_8_110, .ref ax4_9, .int y0_10_111, .ref ax4_11])), (ox4_1, .inr (1, [.ref ax1_1_0, .ref ax1_1_1, .ref ax1_1_2])), (ax1_1_0, .inl (cx1_1_0, 1600, .inl fx1_1_0))]) [0, 1, 2] (by decide) rfl
              have hK9 := hK.sub (tys' := [(cx1_1_0, .byte)]) [0] rfl
              refine W.widen (k := 0) (n := 0) (Nat.le_of_ble_eq_true rfl) (Nat.le_of_ble_eq_true rfl) ?_
              exact W.lret (v := 0) hx hb hr (fun t ht hW => ⟨⟨0, (), rfl, trivial, y0_5_108, y0_7_109, y0_8_110, y0_10_111, by rw [ht]; exact hP9, va_K.moved hW.alike hK9, hD9⟩, hS.F ht⟩) hS.2.2 dX4_takeNumber_89
          · refine lv_aload_n hx hb dX4_takeNumber_31 rfl (lv_at hl 3 rfl) ?_
            refine lv_bipush (v := 12) hx hb dX4_takeNumber_32 (by decide) ?_
            refine lv_iload_n hx hb dX4_takeNumber_34 rfl (lv_at hl 4 rfl) ?_
            have hPc := hP.sub (ws' := [(h0, .inr (4, [.ref ox4_0, .ref ox4_1, .ref ox4_2, .ref ox4_3, .int xx4_4, .int y0_5_108, .int xx4_6, .int y0_7_109, .int y0_8_110, .ref ax4_9, .int y0_10_111, .ref ax4_11]))]) [0] rfl
            have hDc := hD.sub (ws' := [(h0, .inr (4, [.ref ox4_0, .ref ox4_1, .ref ox4_2, .ref ox4_3, .int xx4_4, .int y0_5_108, .int xx4_6, .int y0_7_109, .int y0_8_110, .ref ax4_9, .int y0_10_111, .ref ax4_11]))]) [0] (by decide) rfl
            have hKc := hK.sub (tys' := []) [] rfl
            have hFc := va_free (wc := [(h0, .inr (4, [.ref ox4_0, .ref ox4_1, .ref ox4_2, .ref ox4_3, .int xx4_4, .int y0_5_108, .int xx4_6, .int y0_7_109, .int y0_8_110, .ref ax4_9, .int y0_10_111, .ref ax4_11]))]) hD hS hA [0] rfl
            refine va_callv (va_runV (As := [.int 12, .int p0]) (rest := []) ⟨hx, hb, hml, hown, hts⟩ (s_X4_fail l dC dI h0 ox4_0 ox4_1 ox4_2 ox4_3 xx4_4 y0_5_108 xx4_6 y0_7_109 y0_8_110 ax4_9 y0_10_111 ax4_11 12 p0 H.size) (cwV 2 hts (gV mw_11_10 mw_11_11 mw_11_12 mw_0_8 mw_48_2) rfl rfl rfl (by decide +kernel) ⟨(Nat.le_of_ble_eq_true rfl), (Nat.le_of_ble_eq_true rfl)⟩) (vV (ci := 4) (q0 := 0) hKc hPc hDc hN rfl rfl) rfl rfl hl.1 rfl (lv_room (Nat.le_of_ble_eq_true rfl)) dX4_takeNumber_35 ⟨(Nat.le_of_ble_eq_true rfl), (Nat.le_of_ble_eq_true rfl)⟩) hS (fun q _ h => hFc q h) hFc (fun u t H1 locs ht hvm hw hB hz1 hk1 hS => ?_)
            obtain ⟨y0_7_139, y0_8_140, y0_10_141, hP1, hK1, hD1⟩ := hB
            rw [ht] at hP1
            have hK1 := va_K.moved hvm.symm hK1
            obtain ⟨hP, hD⟩ := va_join (wr := [(ox4_1, .inr (1, [.ref ax1_1_0, .ref ax1_1_1, .ref ax1_1_2])), (ax1_1_0, .inl (cx1_1_0, 1600, .inl fx1_1_0))]) (w1 := [(h0, .inr (4, [.ref ox4_0, .ref ox4_1, .ref ox4_2, .ref ox4_3, .int xx4_4, .int y0_5_108, .int xx4_6, .int y0_7_139, .int y0_8_140, .ref ax4_9, .int y0_10_141, .ref ax4_11]))]) hP hD [0] [1, 2] rfl rfl (by decide) (by decide) hk1 hFc hP1 hD1
            clear hPc hDc hKc hP1 hK1 hD1 hFc hk1 hz1
            generalize H1 = H at hP hS ⊢
            have hP : va_P (dC, dI) vwCl [(ox4_1, .inr (1, [.ref ax1_1_0, .ref ax1_1_1, .ref ax1_1_2])), (ax1_1_0, .inl (cx1_1_0, 1600, .inl fx1_1_0)), (h0, .inr (4, [.ref ox4_0, .ref ox4_1, .ref ox4_2, .ref ox4_3, .int xx4_4, .int y0_5_108, .int xx4_6, .int y0_7_139, .int y0_8_140, .ref ax4_9, .int y0_10_141, .ref ax4_11]))] H := hP
            have hD : va_D A [(ox4_1, .inr (1, [.ref ax1_1_0, .ref ax1_1_1, .ref ax1_1_2])), (ax1_1_0, .inl (cx1_1_0, 1600, .inl fx1_1_0)), (h0, .inr (4, [.ref ox4_0, .ref ox4_1, .ref ox4_2, .ref ox4_3, .int xx4_4, .int y0_5_108, .int xx4_6, .int y0_7_139, .int y0_8_140, .ref ax4_9, .int y0_10_141, .ref ax4_11]))] := hD
            refine lv_lload_n hx hb dX4_takeNumber_38 rfl (lv_at hl 2 rfl) ?_
            refine lv_iload hx hb dX4_takeNumber_39 (lv_at hl 0 rfl) ?_
            refine lv_bipush (v := 127) hx hb dX4_takeNumber_41 (by decide) ?_
            refine lv_iand hx hb dX4_takeNumber_43 ?_
            refine lv_topi (fun x_142 ex_142 => ?_)
            refine lv_i2l (v := x_142.toInt64) hx hb dX4_takeNumber_44 rfl ?_
            refine lv_bipush (v := 7) hx hb dX4_takeNumber_45 (by decide) ?_
            refine lv_iload hx hb dX4_takeNumber_47 (lv_at hl 1 rfl) ?_
            refine lv_imul hx hb dX4_takeNumber_49 ?_
            refine lv_topi (fun x_143 ex_143 => ?_)
            have bx_143 : (63 : Int) ≤ x_143.toInt ∧ x_143.toInt ≤ (63 : Int) := by have r1 := il_rng v4; have a0 := hb_4.1; have a1 := hb_4.2; have a2 := il_nle c_101; have a3 := il_eq c_115; have e0 : (7 : Int32).toInt = 7 := (by decide); have e1 : (9 : Int32).toInt = 9 := (by decide); have e2 : (10 : Int32).toInt = 10 := (by decide); rw [ex_143]; have m9 := il_mulE (x := 7) (y := v4) (by rw [e0]; omega) (by rw [e0]; omega); rw [m9, e0]; omega
            refine lv_lshl (v := _) hx hb dX4_takeNumber_50 rfl ?_
            refine lv_topl (fun x_144 ex_144 => ?_)
            refine lv_lor hx hb dX4_takeNumber_51 ?_
            refine lv_topl (fun x_145 ex_145 => ?_)
            refine lv_lstore_n (lv' := [(2, .long x_145), (5, .int r_107), (4, .int v4), (0, .ref h0), (1, .int p0)]) hx hb dX4_takeNumber_52 rfl hl (by decide) rfl (fun ls hl => ?_)
            refine lv_iload hx hb dX4_takeNumber_53 (lv_at hl 1 rfl) ?_
            refine lv_sipush (v := 128) hx hb dX4_takeNumber_55 (by decide) ?_
            refine lv_icmp_ge (tgt := 64) hx hb dX4_takeNumber_58 (by decide) (fun c_146 => ?_) (fun c_146 => ?_)
            · obtain ⟨x_147, ex_147⟩ : ∃ y : Int32, y = v4 + Int32.ofInt 1 := ⟨_, rfl⟩
              have bx_147 : (10 : Int) ≤ x_147.toInt ∧ x_147.toInt ≤ (10 : Int) := by have r0 := il_rng v4; have a0 := hb_4.1; have a1 := hb_4.2; have a2 := il_nle c_101; have a3 := il_eq c_115; have e0 : (9 : Int32).toInt = 9 := (by decide); have e1 : (10 : Int32).toInt = 10 := (by decide); have k9 : (Int32.ofInt 1).toInt = (1 : Int) := (by decide); rw [ex_147, il_addE (by rw [k9]; omega) (by rw [k9]; omega), k9]; omega
              refine lv_iinc (v := x_147) (lv' := [(4, .int x_147), (2, .long x_145), (5, .int r_107), (0, .ref h0), (1, .int p0)]) hx hb dX4_takeNumber_64 hl (k := 2) rfl ex_147.symm (by decide) rfl (fun ls hl => ?_)
              refine lv_goto (tgt := 5) hx hb dX4_takeNumber_67 (by decide) ?_
              exact ih x_147 x_145 y0_5_108 y0_7_139 y0_8_140 y0_10_141 _ _ _ (by have a0 := bx_147.1; have a1 := bx_147.2; have a2 := hb_4.1; have a3 := hb_4.2; have a4 := il_nle c_101; have a5 := il_eq c_115; have e0 : (9 : Int32).toInt = 9 := (by decide); have e1 : (10 : Int32).toInt = 10 := (by decide); have r8 := il_rng v4; have m9 : x_147.toInt = v4.toInt + (1) := (by rw [ex_147]; have k9 : (Int32.ofInt (1)).toInt = (1) := (by decide); rw [il_addE (by rw [k9]; omega) (by rw [k9]; omega), k9]); omega) (by have a0 := bx_147.1; have a1 := bx_147.2; omega) (hP.sub [2, 0, 1] rfl) (hD.sub [2, 0, 1] (by decide) rfl) hS (lv_sub hl [0, 1, 3, 4] rfl)
            · refine lv_goto (tgt := 70) hx hb dX4_takeNumber_61 (by decide) ?_
              refine lv_aload_n hx hb dX4_takeNumber_70 rfl (lv_at hl 3 rfl) ?_
              refine va_get (D := (dC, dI)) (ci := 4) (v := .int y0_7_139) (C := RX4) (T := TX4) (N := 12) hx hb hts inlX4 hown hK hP 2 rfl rfl 7 (by decide) (hts (.fieldLink RX4 21 "ShapeReader$Reading" "failure" "I") mw_10_18) (fun _ h9 => h9) rfl dX4_takeNumber_71 ?_
              refine lv_if_eq (tgt := 81) hx hb dX4_takeNumber_74 (by decide) (fun c_148 => ?_) (fun c_148 => ?_)
              · refine lv_lload_n hx hb dX4_takeNumber_81 rfl (lv_at hl 0 rfl) ?_
                refine lv_iconst (v := 1) hx hb dX4_takeNumber_82 (by decide) ?_
                refine lv_lushr (v := _) hx hb dX4_takeNumber_83 rfl ?_
                refine lv_topl (fun x_149 ex_149 => ?_)
                refine lv_lload_n hx hb dX4_takeNumber_84 rfl (lv_at hl 0 rfl) ?_
                refine lv_lconst (v := 1) hx hb dX4_takeNumber_85 (by decide) ?_
                refine lv_land hx hb dX4_takeNumber_86 ?_
                refine lv_topl (fun x_150 ex_150 => ?_)
                refine lv_lneg hx hb dX4_takeNumber_87 ?_
                refine lv_topl (fun x_151 ex_151 => ?_)
                refine lv_lxor hx hb dX4_takeNumber_88 ?_
                refine lv_topl (fun x_152 ex_152 => ?_)
                have hP9 := hP.sub (ws' := [(h0, .inr (4, [.ref ox4_0, .ref ox4_1, .ref ox4_2, .ref ox4_3, .int xx4_4, .int y0_5_108, .int xx4_6, .int y0_7_139, .int y0_8_140, .ref ax4_9, .int y0_10_141, .ref ax4_11])), (ox4_1, .inr (1, [.ref ax1_1_0, .ref ax1_1_1, .ref ax1_1_2])), (ax1_1_0, .inl (cx1_1_0, 1600, .inl fx1_1_0))]) [2, 0, 1] rfl
                have hD9 := hD.sub (ws' := [(h0, .inr (4, [.ref ox4_0, .ref ox4_1, .ref ox4_2, .ref ox4_3, .int xx4_4, .int y0_5_108, .int xx4_6, .int y0_7_139, .int y0_8_140, .ref ax4_9, .int y0_10_141, .ref ax4_11])), (ox4_1, .inr (1, [.ref ax1_1_0, .ref ax1_1_1, .ref ax1_1_2])), (ax1_1_0, .inl (cx1_1_0, 1600, .inl fx1_1_0))]) [2, 0, 1] (by decide) rfl
                have hK9 := hK.sub (tys' := [(cx1_1_0, .byte)]) [0] rfl
                refine W.widen (k := 0) (n := 0) (Nat.le_of_ble_eq_true rfl) (Nat.le_of_ble_eq_true rfl) ?_
                exact W.lret (v := x_152) hx hb hr (fun t ht hW => ⟨⟨x_152, (), rfl, trivial, y0_5_108, y0_7_139, y0_8_140, y0_10_141, by rw [ht]; exact hP9, va_K.moved hW.alike hK9, hD9⟩, hS.F ht⟩) hS.2.2 dX4_takeNumber_89
              · refine lv_lconst (v := 0) hx hb dX4_takeNumber_77 (by decide) ?_
                refine lv_goto (tgt := 89) hx hb dX4_takeNumber_78 (by decide) ?_
                have hP9 := hP.sub (ws' := [(h0, .inr (4, [.ref ox4_0, .ref ox4_1, .ref ox4_2, .ref ox4_3, .int xx4_4, .int y0_5_108, .int xx4_6, .int y0_7_139, .int y0_8_140, .ref ax4_9, .int y0_10_141, .ref ax4_11])), (ox4_1, .inr (1, [.ref ax1_1_0, .ref ax1_1_1, .ref ax1_1_2])), (ax1_1_0, .inl (cx1_1_0, 1600, .inl fx1_1_0))]) [2, 0, 1] rfl
                have hD9 := hD.sub (ws' := [(h0, .inr (4, [.ref ox4_0, .ref ox4_1, .ref ox4_2, .ref ox4_3, .int xx4_4, .int y0_5_108, .int xx4_6, .int y0_7_139, .int y0_8_140, .ref ax4_9, .int y0_10_141, .ref ax4_11])), (ox4_1, .inr (1, [.ref ax1_1_0, .ref ax1_1_1, .ref ax1_1_2])), (ax1_1_0, .inl (cx1_1_0, 1600, .inl fx1_1_0))]) [2, 0, 1] (by decide) rfl
                have hK9 := hK.sub (tys' := [(cx1_1_0, .byte)]) [0] rfl
                refine W.widen (k := 0) (n := 0) (Nat.le_of_ble_eq_true rfl) (Nat.le_of_ble_eq_true rfl) ?_
                exact W.lret (v := 0) hx hb hr (fun t ht hW => ⟨⟨0, (), rfl, trivial, y0_5_108, y0_7_139, y0_8_140, y0_10_141, by rw [ht]; exact hP9, va_K.moved hW.alike hK9, hD9⟩, hS.F ht⟩) hS.2.2 dX4_takeNumber_89
      · refine lv_istore (lv' := [(5, .int 0), (4, .int v4), (2, .long v2), (0, .ref h0), (1, .int p0)]) hx hb dX4_takeNumber_16 hl (by decide) rfl (fun ls hl => ?_)
        refine lv_iload hx hb dX4_takeNumber_18 (lv_at hl 1 rfl) ?_
        refine lv_bipush (v := 9) hx hb dX4_takeNumber_20 (by decide) ?_
        refine lv_icmp_ne (tgt := 38) hx hb dX4_takeNumber_22 (by decide) (fun c_153 => ?_) (fun c_153 => ?_)
        · refine lv_lload_n hx hb dX4_takeNumber_38 rfl (lv_at hl 2 rfl) ?_
          refine lv_iload hx hb dX4_takeNumber_39 (lv_at hl 0 rfl) ?_
          refine lv_bipush (v := 127) hx hb dX4_takeNumber_41 (by decide) ?_
          refine lv_iand hx hb dX4_takeNumber_43 ?_
          refine lv_topi (fun k_154 ek_154 => ?_)
          obtain rfl : k_154 = 0 := ek_154.trans (by decide)
          refine lv_i2l (v := 0) hx hb dX4_takeNumber_44 (by decide) ?_
          refine lv_bipush (v := 7) hx hb dX4_takeNumber_45 (by decide) ?_
          refine lv_iload hx hb dX4_takeNumber_47 (lv_at hl 1 rfl) ?_
          refine lv_imul hx hb dX4_takeNumber_49 ?_
          refine lv_topi (fun x_155 ex_155 => ?_)
          have bx_155 : (0 : Int) ≤ x_155.toInt ∧ x_155.toInt ≤ (63 : Int) := by have r1 := il_rng v4; have a0 := hb_4.1; have a1 := hb_4.2; have a2 := il_nle c_101; have e0 : (7 : Int32).toInt = 7 := (by decide); have e1 : (10 : Int32).toInt = 10 := (by decide); rw [ex_155]; have m9 := il_mulE (x := 7) (y := v4) (by rw [e0]; omega) (by rw [e0]; omega); rw [m9, e0]; omega
          refine lv_lshl (v := _) hx hb dX4_takeNumber_50 rfl ?_
          refine lv_topl (fun x_156 ex_156 => ?_)
          refine lv_lor hx hb dX4_takeNumber_51 ?_
          refine lv_topl (fun x_157 ex_157 => ?_)
          refine lv_lstore_n (lv' := [(2, .long x_157), (5, .int 0), (4, .int v4), (0, .ref h0), (1, .int p0)]) hx hb dX4_takeNumber_52 rfl hl (by decide) rfl (fun ls hl => ?_)
          refine lv_iload hx hb dX4_takeNumber_53 (lv_at hl 1 rfl) ?_
          refine lv_sipush (v := 128) hx hb dX4_takeNumber_55 (by decide) ?_
          refine lv_icmp_ge (tgt := 64) hx hb dX4_takeNumber_58 (by decide) (fun h => absurd h (by decide)) (fun _ => ?_)
          refine lv_goto (tgt := 70) hx hb dX4_takeNumber_61 (by decide) ?_
          refine lv_aload_n hx hb dX4_takeNumber_70 rfl (lv_at hl 3 rfl) ?_
          refine va_get (D := (dC, dI)) (ci := 4) (v := .int y0_7_109) (C := RX4) (T := TX4) (N := 12) hx hb hts inlX4 hown hK hP 0 rfl rfl 7 (by decide) (hts (.fieldLink RX4 21 "ShapeReader$Reading" "failure" "I") mw_10_18) (fun _ h9 => h9) rfl dX4_takeNumber_71 ?_
          refine lv_if_eq (tgt := 81) hx hb dX4_takeNumber_74 (by decide) (fun c_159 => ?_) (fun c_159 => ?_)
          · refine lv_lload_n hx hb dX4_takeNumber_81 rfl (lv_at hl 0 rfl) ?_
            refine lv_iconst (v := 1) hx hb dX4_takeNumber_82 (by decide) ?_
            refine lv_lushr (v := _) hx hb dX4_takeNumber_83 rfl ?_
            refine lv_topl (fun x_160 ex_160 => ?_)
            refine lv_lload_n hx hb dX4_takeNumber_84 rfl (lv_at hl 0 rfl) ?_
            refine lv_lconst (v := 1) hx hb dX4_takeNumber_85 (by decide) ?_
            refine lv_land hx hb dX4_takeNumber_86 ?_
            refine lv_topl (fun x_161 ex_161 => ?_)
            refine lv_lneg hx hb dX4_takeNumber_87 ?_
            refine lv_topl (fun x_162 ex_162 => ?_)
            refine lv_lxor hx hb dX4_takeNumber_88 ?_
            refine lv_topl (fun x_163 ex_163 => ?_)
            have hP9 := hP.sub (ws' := [(h0, .inr (4, [.ref ox4_0, .ref ox4_1, .ref ox4_2, .ref ox4_3, .int xx4_4, .int y0_5_108, .int xx4_6, .int y0_7_109, .int y0_8_110, .ref ax4_9, .int y0_10_111, .ref ax4_11])), (ox4_1, .inr (1, [.ref ax1_1_0, .ref ax1_1_1, .ref ax1_1_2])), (ax1_1_0, .inl (cx1_1_0, 1600, .inl fx1_1_0))]) [0, 1, 2] rfl
            have hD9 := hD.sub (ws' := [(h0, .inr (4, [.ref ox4_0, .ref ox4_1, .ref ox4_2, .ref ox4_3, .int xx4_4, .int y0_5_108, .int xx4_6, .int y0_7_109, .int y0_8_110, .ref ax4_9, .int y0_10_111, .ref ax4_11])), (ox4_1, .inr (1, [.ref ax1_1_0, .ref ax1_1_1, .ref ax1_1_2])), (ax1_1_0, .inl (cx1_1_0, 1600, .inl fx1_1_0))]) [0, 1, 2] (by decide) rfl
            have hK9 := hK.sub (tys' := [(cx1_1_0, .byte)]) [0] rfl
            refine W.widen (k := 0) (n := 0) (Nat.le_of_ble_eq_true rfl) (Nat.le_of_ble_eq_true rfl) ?_
            exact W.lret (v := x_163) hx hb hr (fun t ht hW => ⟨⟨x_163, (), rfl, trivial, y0_5_108, y0_7_109, y0_8_110, y0_10_111, by rw [ht]; exact hP9, va_K.moved hW.alike hK9, hD9⟩, hS.F ht⟩) hS.2.2 dX4_takeNumber_89
          · refine lv_lconst (v := 0) hx hb dX4_takeNumber_77 (by decide) ?_
            refine lv_goto (tgt := 89) hx hb dX4_takeNumber_78 (by decide) ?_
            have hP9 := hP.sub (ws' := [(h0, .inr (4, [.ref ox4_0, .ref ox4_1, .ref ox4_2, .ref ox4_3, .int xx4_4, .int y0_5_108, .int xx4_6, .int y0_7_109, .int y0_8_110, .ref ax4_9, .int y0_10_111, .ref ax4_11])), (ox4_1, .inr (1, [.ref ax1_1_0, .ref ax1_1_1, .ref ax1_1_2])), (ax1_1_0, .inl (cx1_1_0, 1600, .inl fx1_1_0))]) [0, 1, 2] rfl
            have hD9 := hD.sub (ws' := [(h0, .inr (4, [.ref ox4_0, .ref ox4_1, .ref ox4_2, .ref ox4_3, .int xx4_4, .int y0_5_108, .int xx4_6, .int y0_7_109, .int y0_8_110, .ref ax4_9, .int y0_10_111, .ref ax4_11])), (ox4_1, .inr (1, [.ref ax1_1_0, .ref ax1_1_1, .ref ax1_1_2])), (ax1_1_0, .inl (cx1_1_0, 1600, .inl fx1_1_0))]) [0, 1, 2] (by decide) rfl
            have hK9 := hK.sub (tys' := [(cx1_1_0, .byte)]) [0] rfl
            refine W.widen (k := 0) (n := 0) (Nat.le_of_ble_eq_true rfl) (Nat.le_of_ble_eq_true rfl) ?_
            exact W.lret (v := 0) hx hb hr (fun t ht hW => ⟨⟨0, (), rfl, trivial, y0_5_108, y0_7_109, y0_8_110, y0_10_111, by rw [ht]; exact hP9, va_K.moved hW.alike hK9, hD9⟩, hS.F ht⟩) hS.2.2 dX4_takeNumber_89
        · refine lv_iload hx hb dX4_takeNumber_25 (lv_at hl 0 rfl) ?_
          refine lv_iconst (v := 1) hx hb dX4_takeNumber_27 (by decide) ?_
          refine lv_icmp_le (tgt := 38) hx hb dX4_takeNumber_28 (by decide) (fun _ => ?_) (fun h => absurd (by decide) h)
          refine lv_lload_n hx hb dX4_takeNumber_38 rfl (lv_at hl 2 rfl) ?_
          refine lv_iload hx hb dX4_takeNumber_39 (lv_at hl 0 rfl) ?_
          refine lv_bipush (v := 127) hx hb dX4_takeNumber_41 (by decide) ?_
          refine lv_iand hx hb dX4_takeNumber_43 ?_
          refine lv_topi (fun k_165 ek_165 => ?_)
          obtain rfl : k_165 = 0 := ek_165.trans (by decide)
          refine lv_i2l (v := 0) hx hb dX4_takeNumber_44 (by decide) ?_
          refine lv_bipush (v := 7) hx hb dX4_takeNumber_45 (by decide) ?_
          refine lv_iload hx hb dX4_takeNumber_47 (lv_at hl 1 rfl) ?_
          refine lv_imul hx hb dX4_takeNumber_49 ?_
          refine lv_topi (fun x_166 ex_166 => ?_)
          have bx_166 : (63 : Int) ≤ x_166.toInt ∧ x_166.toInt ≤ (63 : Int) := by have r1 := il_rng v4; have a0 := hb_4.1; have a1 := hb_4.2; have a2 := il_nle c_101; have a3 := il_eq c_153; have e0 : (7 : Int32).toInt = 7 := (by decide); have e1 : (9 : Int32).toInt = 9 := (by decide); have e2 : (10 : Int32).toInt = 10 := (by decide); rw [ex_166]; have m9 := il_mulE (x := 7) (y := v4) (by rw [e0]; omega) (by rw [e0]; omega); rw [m9, e0]; omega
          refine lv_lshl (v := _) hx hb dX4_takeNumber_50 rfl ?_
          refine lv_topl (fun x_167 ex_167 => ?_)
          refine lv_lor hx hb dX4_takeNumber_51 ?_
          refine lv_topl (fun x_168 ex_168 => ?_)
          refine lv_lstore_n (lv' := [(2, .long x_168), (5, .int 0), (4, .int v4), (0, .ref h0), (1, .int p0)]) hx hb dX4_takeNumber_52 rfl hl (by decide) rfl (fun ls hl => ?_)
          refine lv_iload hx hb dX4_takeNumber_53 (lv_at hl 1 rfl) ?_
          refine lv_sipush (v := 128) hx hb dX4_takeNumber_55 (by decide) ?_
          refine lv_icmp_ge (tgt := 64) hx hb dX4_takeNumber_58 (by decide) (fun h => absurd h (by decide)) (fun _ => ?_)
          refine lv_goto (tgt := 70) hx hb dX4_takeNumber_61 (by decide) ?_
          refine lv_aload_n hx hb dX4_takeNumber_70 rfl (lv_at hl 3 rfl) ?_
          refine va_get (D := (dC, dI)) (ci := 4) (v := .int y0_7_109) (C := RX4) (T := TX4) (N := 12) hx hb hts inlX4 hown hK hP 0 rfl rfl 7 (by decide) (hts (.fieldLink RX4 21 "ShapeReader$Reading" "failure" "I") mw_10_18) (fun _ h9 => h9) rfl dX4_takeNumber_71 ?_
          refine lv_if_eq (tgt := 81) hx hb dX4_takeNumber_74 (by decide) (fun c_170 => ?_) (fun c_170 => ?_)
          · refine lv_lload_n hx hb dX4_takeNumber_81 rfl (lv_at hl 0 rfl) ?_
            refine lv_iconst (v := 1) hx hb dX4_takeNumber_82 (by decide) ?_
            refine lv_lushr (v := _) hx hb dX4_takeNumber_83 rfl ?_
            refine lv_topl (fun x_171 ex_171 => ?_)
            refine lv_lload_n hx hb dX4_takeNumber_84 rfl (lv_at hl 0 rfl) ?_
            refine lv_lconst (v := 1) hx hb dX4_takeNumber_85 (by decide) ?_
            refine lv_land hx hb dX4_takeNumber_86 ?_
            refine lv_topl (fun x_172 ex_172 => ?_)
            refine lv_lneg hx hb dX4_takeNumber_87 ?_
            refine lv_topl (fun x_173 ex_173 => ?_)
            refine lv_lxor hx hb dX4_takeNumber_88 ?_
            refine lv_topl (fun x_174 ex_174 => ?_)
            have hP9 := hP.sub (ws' := [(h0, .inr (4, [.ref ox4_0, .ref ox4_1, .ref ox4_2, .ref ox4_3, .int xx4_4, .int y0_5_108, .int xx4_6, .int y0_7_109, .int y0_8_110, .ref ax4_9, .int y0_10_111, .ref ax4_11])), (ox4_1, .inr (1, [.ref ax1_1_0, .ref ax1_1_1, .ref ax1_1_2])), (ax1_1_0, .inl (cx1_1_0, 1600, .inl fx1_1_0))]) [0, 1, 2] rfl
            have hD9 := hD.sub (ws' := [(h0, .inr (4, [.ref ox4_0, .ref ox4_1, .ref ox4_2, .ref ox4_3, .int xx4_4, .int y0_5_108, .int xx4_6, .int y0_7_109, .int y0_8_110, .ref ax4_9, .int y0_10_111, .ref ax4_11])), (ox4_1, .inr (1, [.ref ax1_1_0, .ref ax1_1_1, .ref ax1_1_2])), (ax1_1_0, .inl (cx1_1_0, 1600, .inl fx1_1_0))]) [0, 1, 2] (by decide) rfl
            have hK9 := hK.sub (tys' := [(cx1_1_0, .byte)]) [0] rfl
            refine W.widen (k := 0) (n := 0) (Nat.le_of_ble_eq_true rfl) (Nat.le_of_ble_eq_true rfl) ?_
            exact W.lret (v := x_174) hx hb hr (fun t ht hW => ⟨⟨x_174, (), rfl, trivial, y0_5_108, y0_7_109, y0_8_110, y0_10_111, by rw [ht]; exact hP9, va_K.moved hW.alike hK9, hD9⟩, hS.F ht⟩) hS.2.2 dX4_takeNumber_89
          · refine lv_lconst (v := 0) hx hb dX4_takeNumber_77 (by decide) ?_
            refine lv_goto (tgt := 89) hx hb dX4_takeNumber_78 (by decide) ?_
            have hP9 := hP.sub (ws' := [(h0, .inr (4, [.ref ox4_0, .ref ox4_1, .ref ox4_2, .ref ox4_3, .int xx4_4, .int y0_5_108, .int xx4_6, .int y0_7_109, .int y0_8_110, .ref ax4_9, .int y0_10_111, .ref ax4_11])), (ox4_1, .inr (1, [.ref ax1_1_0, .ref ax1_1_1, .ref ax1_1_2])), (ax1_1_0, .inl (cx1_1_0, 1600, .inl fx1_1_0))]) [0, 1, 2] rfl
            have hD9 := hD.sub (ws' := [(h0, .inr (4, [.ref ox4_0, .ref ox4_1, .ref ox4_2, .ref ox4_3, .int xx4_4, .int y0_5_108, .int xx4_6, .int y0_7_109, .int y0_8_110, .ref ax4_9, .int y0_10_111, .ref ax4_11])), (ox4_1, .inr (1, [.ref ax1_1_0, .ref ax1_1_1, .ref ax1_1_2])), (ax1_1_0, .inl (cx1_1_0, 1600, .inl fx1_1_0))]) [0, 1, 2] (by decide) rfl
            have hK9 := hK.sub (tys' := [(cx1_1_0, .byte)]) [0] rfl
            refine W.widen (k := 0) (n := 0) (Nat.le_of_ble_eq_true rfl) (Nat.le_of_ble_eq_true rfl) ?_
            exact W.lret (v := 0) hx hb hr (fun t ht hW => ⟨⟨0, (), rfl, trivial, y0_5_108, y0_7_109, y0_8_110, y0_10_111, by rw [ht]; exact hP9, va_K.moved hW.alike hK9, hD9⟩, hS.F ht⟩) hS.2.2 dX4_takeNumber_89
set_option maxRecDepth 100000 in
set_option maxHeartbeats 4000000 in
theorem s_X4_takeNumber (l : Launch) (dC : Nat → ClassId) (dI : Nat → Nat → Nat) (h0 : Nat) (ox4_0 : Nat) (ox4_1 : Nat) (ax1_1_0 : Nat) (cx1_1_0 : ClassId) (fx1_1_0 : Nat → Int32) (ax1_1_1 : Nat) (ax1_1_2 : Nat) (ox4_2 : Nat) (ox4_3 : Nat) (xx4_4 : Int32) (xx4_5 : Int32) (xx4_6 : Int32) (xx4_7 : Int32) (xx4_8 : Int32) (ax4_9 : Nat) (xx4_10 : Int32) (ax4_11 : Nat) (p0 : Int32) (sz : Nat) : Met l yX4_takeNumber (.code yX4_takeNumber cX4_takeNumber 6 (some .long) :: pw) ({ frames := 2, cells := 0, slots := 0, locals := 44 }) (va_Pc [.ref h0, .int p0] (vPre dC dI [(h0, .inr (4, [.ref ox4_0, .ref ox4_1, .ref ox4_2, .ref ox4_3, .int xx4_4, .int xx4_5, .int xx4_6, .int xx4_7, .int xx4_8, .ref ax4_9, .int xx4_10, .ref ax4_11])), (ox4_1, .inr (1, [.ref ax1_1_0, .ref ax1_1_1, .ref ax1_1_2])), (ax1_1_0, .inl (cx1_1_0, 1600, .inl fx1_1_0))] [(cx1_1_0, .byte)] sz)) (va_Ql (fun (r : Int64) (_ : Unit) => True) (fun (_ : Unit) t => ∃ (y0_5 : Int32), ∃ (y0_7 : Int32), ∃ (y0_8 : Int32), ∃ (y0_10 : Int32), vPst dC dI (va_A [(h0, .inr (4, [.ref ox4_0, .ref ox4_1, .ref ox4_2, .ref ox4_3, .int xx4_4, .int xx4_5, .int xx4_6, .int xx4_7, .int xx4_8, .ref ax4_9, .int xx4_10, .ref ax4_11])), (ox4_1, .inr (1, [.ref ax1_1_0, .ref ax1_1_1, .ref ax1_1_2])), (ax1_1_0, .inl (cx1_1_0, 1600, .inl fx1_1_0))] sz) [(h0, .inr (4, [.ref ox4_0, .ref ox4_1, .ref ox4_2, .ref ox4_3, .int xx4_4, .int y0_5, .int xx4_6, .int y0_7, .int y0_8, .ref ax4_9, .int y0_10, .ref ax4_11])), (ox4_1, .inr (1, [.ref ax1_1_0, .ref ax1_1_1, .ref ax1_1_2])), (ax1_1_0, .inl (cx1_1_0, 1600, .inl fx1_1_0))] [(cx1_1_0, .byte)] t) (va_A [(h0, .inr (4, [.ref ox4_0, .ref ox4_1, .ref ox4_2, .ref ox4_3, .int xx4_4, .int xx4_5, .int xx4_6, .int xx4_7, .int xx4_8, .ref ax4_9, .int xx4_10, .ref ax4_11])), (ox4_1, .inr (1, [.ref ax1_1_0, .ref ax1_1_1, .ref ax1_1_2])), (ax1_1_0, .inl (cx1_1_0, 1600, .inl fx1_1_0))] sz)) 0 0 (va_A [(h0, .inr (4, [.ref ox4_0, .ref ox4_1, .ref ox4_2, .ref ox4_3, .int xx4_4, .int xx4_5, .int xx4_6, .int xx4_7, .int xx4_8, .ref ax4_9, .int xx4_10, .ref ax4_11])), (ox4_1, .inr (1, [.ref ax1_1_0, .ref ax1_1_1, .ref ax1_1_2])), (ax1_1_0, .inl (cx1_1_0, 1600, .inl fx1_1_0))] sz) := by
  refine Met.ofW (cc := cX4_takeNumber) (maxL := 6) (ret := (some .long)) (by decide) rfl ?_
  intro p e s m args below meth c s₁ B hml hv
  obtain ⟨rfl, hsz, hP, hK, hD0, hN⟩ := hv
  have hx := B.exec
  have hb := B.bytes
  have hr := B.returns
  have hts := atoms_spec (ws := .code yX4_takeNumber cX4_takeNumber 6 (some .long) :: pw) B.pre
  have hts : ∀ w ∈ pw, w.before _ s = true := fun w h => hts w (List.mem_cons_of_mem _ h)
  have hown : s.vm.findClass RX4 = some m.cls := findClass_of_methodNamed B.named
  have hlocks := B.notSynchronized
  subst hsz
  have hD := hD0.self (sz := s.heap.size)
  generalize hAe : va_A [(h0, .inr (4, [.ref ox4_0, .ref ox4_1, .ref ox4_2, .ref ox4_3, .int xx4_4, .int xx4_5, .int xx4_6, .int xx4_7, .int xx4_8, .ref ax4_9, .int xx4_10, .ref ax4_11])), (ox4_1, .inr (1, [.ref ax1_1_0, .ref ax1_1_1, .ref ax1_1_2])), (ax1_1_0, .inl (cx1_1_0, 1600, .inl fx1_1_0))] s.heap.size = A at hD ⊢
  have hA : ∀ q : Nat, s.heap.size ≤ q → A q := fun q h => by rw [← hAe]; exact Or.inr h
  have hS : va_S A s.heap s.heap [] := va_S.rf
  have hP : va_P (dC, dI) vwCl [(h0, .inr (4, [.ref ox4_0, .ref ox4_1, .ref ox4_2, .ref ox4_3, .int xx4_4, .int xx4_5, .int xx4_6, .int xx4_7, .int xx4_8, .ref ax4_9, .int xx4_10, .ref ax4_11])), (ox4_1, .inr (1, [.ref ax1_1_0, .ref ax1_1_1, .ref ax1_1_2])), (ax1_1_0, .inl (cx1_1_0, 1600, .inl fx1_1_0))] s.heap := hP
  have hl := lv_entry ([.ref h0, .int p0]) (n := 6) (Nat.le_of_ble_eq_true rfl)
  rw [lg_entry_eq]
  generalize (lg_sl ([.ref h0, .int p0]) ++ List.replicate (6 - (lg_sl ([.ref h0, .int p0])).length) Slot.unset).toArray = ls at hl ⊢
  have hl : lv_has ls 6 [(0, .ref h0), (1, .int p0)] := hl
  refine lv_lconst (v := 0) hx hb dX4_takeNumber_0 (by decide) ?_
  refine lv_lstore_n (lv' := [(2, .long 0), (0, .ref h0), (1, .int p0)]) hx hb dX4_takeNumber_1 rfl hl (by decide) rfl (fun ls hl => ?_)
  refine lv_iconst (v := 0) hx hb dX4_takeNumber_2 (by decide) ?_
  refine lv_istore (lv' := [(4, .int 0), (2, .long 0), (0, .ref h0), (1, .int p0)]) hx hb dX4_takeNumber_3 hl (by decide) rfl (fun ls hl => ?_)
  exact s_X4_takeNumber_L l dC dI h0 ox4_0 ox4_1 ax1_1_0 cx1_1_0 fx1_1_0 ax1_1_1 ax1_1_2 ox4_2 ox4_3 xx4_4 xx4_5 xx4_6 xx4_7 xx4_8 ax4_9 xx4_10 ax4_11 p0 A hx hb hr hml hown hts hlocks hA hN (hK.sub [0] rfl) _ (0 : Int32) (0 : Int64) xx4_5 xx4_7 xx4_8 xx4_10 _ _ _ (Nat.lt_succ_self _) ⟨by decide, by decide⟩ (hP.sub [0, 1, 2] rfl) (hD.sub [0, 1, 2] (by decide) rfl) hS (lv_sub hl [0, 1, 2, 3] rfl)

set_option maxRecDepth 100000 in
set_option maxHeartbeats 4000000 in
theorem s_X4_takeCount (l : Launch) (dC : Nat → ClassId) (dI : Nat → Nat → Nat) (h0 : Nat) (ox4_0 : Nat) (ox4_1 : Nat) (ax1_1_0 : Nat) (cx1_1_0 : ClassId) (fx1_1_0 : Nat → Int32) (ax1_1_1 : Nat) (ax1_1_2 : Nat) (ox4_2 : Nat) (ox4_3 : Nat) (xx4_4 : Int32) (xx4_5 : Int32) (xx4_6 : Int32) (xx4_7 : Int32) (xx4_8 : Int32) (ax4_9 : Nat) (xx4_10 : Int32) (ax4_11 : Nat) (p0 : Int32) (p1 : Int32) (sz : Nat) : Met l yX4_takeCount (.code yX4_takeCount cX4_takeCount 5 (some .int) :: pw) ({ frames := 3, cells := 0, slots := 0, locals := 69 }) (va_Pc [.ref h0, .int p0, .int p1] (vPre dC dI [(h0, .inr (4, [.ref ox4_0, .ref ox4_1, .ref ox4_2, .ref ox4_3, .int xx4_4, .int xx4_5, .int xx4_6, .int xx4_7, .int xx4_8, .ref ax4_9, .int xx4_10, .ref ax4_11])), (ox4_1, .inr (1, [.ref ax1_1_0, .ref ax1_1_1, .ref ax1_1_2])), (ax1_1_0, .inl (cx1_1_0, 1600, .inl fx1_1_0))] [(cx1_1_0, .byte)] sz)) (va_Qi (fun (r : Int32) (_ : Unit) => True) (fun (_ : Unit) t => ∃ (y0_5 : Int32), ∃ (y0_7 : Int32), ∃ (y0_8 : Int32), ∃ (y0_10 : Int32), vPst dC dI (va_A [(h0, .inr (4, [.ref ox4_0, .ref ox4_1, .ref ox4_2, .ref ox4_3, .int xx4_4, .int xx4_5, .int xx4_6, .int xx4_7, .int xx4_8, .ref ax4_9, .int xx4_10, .ref ax4_11])), (ox4_1, .inr (1, [.ref ax1_1_0, .ref ax1_1_1, .ref ax1_1_2])), (ax1_1_0, .inl (cx1_1_0, 1600, .inl fx1_1_0))] sz) [(h0, .inr (4, [.ref ox4_0, .ref ox4_1, .ref ox4_2, .ref ox4_3, .int xx4_4, .int y0_5, .int xx4_6, .int y0_7, .int y0_8, .ref ax4_9, .int y0_10, .ref ax4_11])), (ox4_1, .inr (1, [.ref ax1_1_0, .ref ax1_1_1, .ref ax1_1_2])), (ax1_1_0, .inl (cx1_1_0, 1600, .inl fx1_1_0))] [(cx1_1_0, .byte)] t) (va_A [(h0, .inr (4, [.ref ox4_0, .ref ox4_1, .ref ox4_2, .ref ox4_3, .int xx4_4, .int xx4_5, .int xx4_6, .int xx4_7, .int xx4_8, .ref ax4_9, .int xx4_10, .ref ax4_11])), (ox4_1, .inr (1, [.ref ax1_1_0, .ref ax1_1_1, .ref ax1_1_2])), (ax1_1_0, .inl (cx1_1_0, 1600, .inl fx1_1_0))] sz)) 0 0 (va_A [(h0, .inr (4, [.ref ox4_0, .ref ox4_1, .ref ox4_2, .ref ox4_3, .int xx4_4, .int xx4_5, .int xx4_6, .int xx4_7, .int xx4_8, .ref ax4_9, .int xx4_10, .ref ax4_11])), (ox4_1, .inr (1, [.ref ax1_1_0, .ref ax1_1_1, .ref ax1_1_2])), (ax1_1_0, .inl (cx1_1_0, 1600, .inl fx1_1_0))] sz) := by
  refine Met.ofW (cc := cX4_takeCount) (maxL := 5) (ret := (some .int)) (by decide) rfl ?_
  intro p e s m args below meth c s₁ B hml hv
  obtain ⟨rfl, hsz, hP, hK, hD0, hN⟩ := hv
  have hx := B.exec
  have hb := B.bytes
  have hr := B.returns
  have hts := atoms_spec (ws := .code yX4_takeCount cX4_takeCount 5 (some .int) :: pw) B.pre
  have hts : ∀ w ∈ pw, w.before _ s = true := fun w h => hts w (List.mem_cons_of_mem _ h)
  have hown : s.vm.findClass RX4 = some m.cls := findClass_of_methodNamed B.named
  have hlocks := B.notSynchronized
  subst hsz
  have hD := hD0.self (sz := s.heap.size)
  generalize hAe : va_A [(h0, .inr (4, [.ref ox4_0, .ref ox4_1, .ref ox4_2, .ref ox4_3, .int xx4_4, .int xx4_5, .int xx4_6, .int xx4_7, .int xx4_8, .ref ax4_9, .int xx4_10, .ref ax4_11])), (ox4_1, .inr (1, [.ref ax1_1_0, .ref ax1_1_1, .ref ax1_1_2])), (ax1_1_0, .inl (cx1_1_0, 1600, .inl fx1_1_0))] s.heap.size = A at hD ⊢
  have hA : ∀ q : Nat, s.heap.size ≤ q → A q := fun q h => by rw [← hAe]; exact Or.inr h
  have hS : va_S A s.heap s.heap [] := va_S.rf
  have hP : va_P (dC, dI) vwCl [(h0, .inr (4, [.ref ox4_0, .ref ox4_1, .ref ox4_2, .ref ox4_3, .int xx4_4, .int xx4_5, .int xx4_6, .int xx4_7, .int xx4_8, .ref ax4_9, .int xx4_10, .ref ax4_11])), (ox4_1, .inr (1, [.ref ax1_1_0, .ref ax1_1_1, .ref ax1_1_2])), (ax1_1_0, .inl (cx1_1_0, 1600, .inl fx1_1_0))] s.heap := hP
  have hl := lv_entry ([.ref h0, .int p0, .int p1]) (n := 5) (Nat.le_of_ble_eq_true rfl)
  rw [lg_entry_eq]
  generalize (lg_sl ([.ref h0, .int p0, .int p1]) ++ List.replicate (5 - (lg_sl ([.ref h0, .int p0, .int p1])).length) Slot.unset).toArray = ls at hl ⊢
  have hl : lv_has ls 5 [(0, .ref h0), (1, .int p0), (2, .int p1)] := hl
  refine lv_aload_n hx hb dX4_takeCount_0 rfl (lv_at hl 0 rfl) ?_
  refine lv_iload_n hx hb dX4_takeCount_1 rfl (lv_at hl 1 rfl) ?_
  have hPc := hP.sub (ws' := [(h0, .inr (4, [.ref ox4_0, .ref ox4_1, .ref ox4_2, .ref ox4_3, .int xx4_4, .int xx4_5, .int xx4_6, .int xx4_7, .int xx4_8, .ref ax4_9, .int xx4_10, .ref ax4_11])), (ox4_1, .inr (1, [.ref ax1_1_0, .ref ax1_1_1, .ref ax1_1_2])), (ax1_1_0, .inl (cx1_1_0, 1600, .inl fx1_1_0))]) [0, 1, 2] rfl
  have hDc := hD.sub (ws' := [(h0, .inr (4, [.ref ox4_0, .ref ox4_1, .ref ox4_2, .ref ox4_3, .int xx4_4, .int xx4_5, .int xx4_6, .int xx4_7, .int xx4_8, .ref ax4_9, .int xx4_10, .ref ax4_11])), (ox4_1, .inr (1, [.ref ax1_1_0, .ref ax1_1_1, .ref ax1_1_2])), (ax1_1_0, .inl (cx1_1_0, 1600, .inl fx1_1_0))]) [0, 1, 2] (by decide) rfl
  have hKc := hK.sub (tys' := [(cx1_1_0, .byte)]) [0] rfl
  have hFc := va_free (wc := [(h0, .inr (4, [.ref ox4_0, .ref ox4_1, .ref ox4_2, .ref ox4_3, .int xx4_4, .int xx4_5, .int xx4_6, .int xx4_7, .int xx4_8, .ref ax4_9, .int xx4_10, .ref ax4_11])), (ox4_1, .inr (1, [.ref ax1_1_0, .ref ax1_1_1, .ref ax1_1_2])), (ax1_1_0, .inl (cx1_1_0, 1600, .inl fx1_1_0))]) hD hS hA [0, 1, 2] rfl
  refine va_calll (va_runV (As := [.int p0]) (rest := []) ⟨hx, hb, hml, hown, hts⟩ (s_X4_takeNumber l dC dI h0 ox4_0 ox4_1 ax1_1_0 cx1_1_0 fx1_1_0 ax1_1_1 ax1_1_2 ox4_2 ox4_3 xx4_4 xx4_5 xx4_6 xx4_7 xx4_8 ax4_9 xx4_10 ax4_11 p0 s.heap.size) (cwV 1 hts (gV mw_13_26 mw_13_27 mw_13_28 mw_0_8 mw_48_17) rfl rfl rfl (by decide +kernel) ⟨(Nat.le_of_ble_eq_true rfl), (Nat.le_of_ble_eq_true rfl)⟩) (vV (ci := 4) (q0 := 0) hKc hPc hDc hN rfl rfl) rfl rfl hl.1 rfl (lv_room (Nat.le_of_ble_eq_true rfl)) dX4_takeCount_2 ⟨(Nat.le_of_ble_eq_true rfl), (Nat.le_of_ble_eq_true rfl)⟩) hS (fun q _ h => hFc q h) hFc (fun r_1 u t H1 locs ht hvm hw hB hz1 hk1 hS => ?_)
  obtain ⟨y0_5_2, y0_7_3, y0_8_4, y0_10_5, hP1, hK1, hD1⟩ := hB
  rw [ht] at hP1
  have hK1 := va_K.moved hvm.symm hK1
  obtain ⟨hP, hD⟩ := va_join (wr := []) (w1 := [(h0, .inr (4, [.ref ox4_0, .ref ox4_1, .ref ox4_2, .ref ox4_3, .int xx4_4, .int y0_5_2, .int xx4_6, .int y0_7_3, .int y0_8_4, .ref ax4_9, .int y0_10_5, .ref ax4_11])), (ox4_1, .inr (1, [.ref ax1_1_0, .ref ax1_1_1, .ref ax1_1_2])), (ax1_1_0, .inl (cx1_1_0, 1600, .inl fx1_1_0))]) hP hD [0, 1, 2] [] rfl rfl (by decide) (by decide) hk1 hFc hP1 hD1
  clear hPc hDc hKc hP1 hK1 hD1 hFc hk1 hz1
  generalize H1 = H at hP hS ⊢
  have hP : va_P (dC, dI) vwCl [(h0, .inr (4, [.ref ox4_0, .ref ox4_1, .ref ox4_2, .ref ox4_3, .int xx4_4, .int y0_5_2, .int xx4_6, .int y0_7_3, .int y0_8_4, .ref ax4_9, .int y0_10_5, .ref ax4_11])), (ox4_1, .inr (1, [.ref ax1_1_0, .ref ax1_1_1, .ref ax1_1_2])), (ax1_1_0, .inl (cx1_1_0, 1600, .inl fx1_1_0))] H := hP
  have hD : va_D A [(h0, .inr (4, [.ref ox4_0, .ref ox4_1, .ref ox4_2, .ref ox4_3, .int xx4_4, .int y0_5_2, .int xx4_6, .int y0_7_3, .int y0_8_4, .ref ax4_9, .int y0_10_5, .ref ax4_11])), (ox4_1, .inr (1, [.ref ax1_1_0, .ref ax1_1_1, .ref ax1_1_2])), (ax1_1_0, .inl (cx1_1_0, 1600, .inl fx1_1_0))] := hD
  have hr_1 := hw
  refine lv_lstore_n (lv' := [(3, .long r_1), (0, .ref h0), (1, .int p0), (2, .int p1)]) hx hb dX4_takeCount_5 rfl hl (by decide) rfl (fun ls hl => ?_)
  refine lv_lload_n hx hb dX4_takeCount_6 rfl (lv_at hl 0 rfl) ?_
  refine lv_lconst (v := 0) hx hb dX4_takeCount_7 (by decide) ?_
  refine W.lcmp hx hb dX4_takeCount_8 ?_
  refine lv_topi (fun x_6 ex_6 => ?_)
  refine lv_if_lt (tgt := 19) hx hb dX4_takeCount_9 (by decide) (fun c_7 => ?_) (fun c_7 => ?_)
  · refine lv_aload_n hx hb dX4_takeCount_19 rfl (lv_at hl 1 rfl) ?_
    refine lv_bipush (v := 12) hx hb dX4_takeCount_20 (by decide) ?_
    refine lv_iload_n hx hb dX4_takeCount_22 rfl (lv_at hl 2 rfl) ?_
    have hPc := hP.sub (ws' := [(h0, .inr (4, [.ref ox4_0, .ref ox4_1, .ref ox4_2, .ref ox4_3, .int xx4_4, .int y0_5_2, .int xx4_6, .int y0_7_3, .int y0_8_4, .ref ax4_9, .int y0_10_5, .ref ax4_11]))]) [0] rfl
    have hDc := hD.sub (ws' := [(h0, .inr (4, [.ref ox4_0, .ref ox4_1, .ref ox4_2, .ref ox4_3, .int xx4_4, .int y0_5_2, .int xx4_6, .int y0_7_3, .int y0_8_4, .ref ax4_9, .int y0_10_5, .ref ax4_11]))]) [0] (by decide) rfl
    have hKc := hK.sub (tys' := []) [] rfl
    have hFc := va_free (wc := [(h0, .inr (4, [.ref ox4_0, .ref ox4_1, .ref ox4_2, .ref ox4_3, .int xx4_4, .int y0_5_2, .int xx4_6, .int y0_7_3, .int y0_8_4, .ref ax4_9, .int y0_10_5, .ref ax4_11]))]) hD hS hA [0] rfl
    refine va_callv (va_runV (As := [.int 12, .int p0]) (rest := []) ⟨hx, hb, hml, hown, hts⟩ (s_X4_fail l dC dI h0 ox4_0 ox4_1 ox4_2 ox4_3 xx4_4 y0_5_2 xx4_6 y0_7_3 y0_8_4 ax4_9 y0_10_5 ax4_11 12 p0 H.size) (cwV 2 hts (gV mw_11_10 mw_11_11 mw_11_12 mw_0_8 mw_48_2) rfl rfl rfl (by decide +kernel) ⟨(Nat.le_of_ble_eq_true rfl), (Nat.le_of_ble_eq_true rfl)⟩) (vV (ci := 4) (q0 := 0) hKc hPc hDc hN rfl rfl) rfl rfl hl.1 rfl (lv_room (Nat.le_of_ble_eq_true rfl)) dX4_takeCount_23 ⟨(Nat.le_of_ble_eq_true rfl), (Nat.le_of_ble_eq_true rfl)⟩) hS (fun q _ h => hFc q h) hFc (fun u t H1 locs ht hvm hw hB hz1 hk1 hS => ?_)
    obtain ⟨y0_7_9, y0_8_10, y0_10_11, hP1, hK1, hD1⟩ := hB
    rw [ht] at hP1
    have hK1 := va_K.moved hvm.symm hK1
    obtain ⟨hP, hD⟩ := va_join (wr := [(ox4_1, .inr (1, [.ref ax1_1_0, .ref ax1_1_1, .ref ax1_1_2])), (ax1_1_0, .inl (cx1_1_0, 1600, .inl fx1_1_0))]) (w1 := [(h0, .inr (4, [.ref ox4_0, .ref ox4_1, .ref ox4_2, .ref ox4_3, .int xx4_4, .int y0_5_2, .int xx4_6, .int y0_7_9, .int y0_8_10, .ref ax4_9, .int y0_10_11, .ref ax4_11]))]) hP hD [0] [1, 2] rfl rfl (by decide) (by decide) hk1 hFc hP1 hD1
    clear hPc hDc hKc hP1 hK1 hD1 hFc hk1 hz1
    generalize H1 = H at hP hS ⊢
    have hP : va_P (dC, dI) vwCl [(ox4_1, .inr (1, [.ref ax1_1_0, .ref ax1_1_1, .ref ax1_1_2])), (ax1_1_0, .inl (cx1_1_0, 1600, .inl fx1_1_0)), (h0, .inr (4, [.ref ox4_0, .ref ox4_1, .ref ox4_2, .ref ox4_3, .int xx4_4, .int y0_5_2, .int xx4_6, .int y0_7_9, .int y0_8_10, .ref ax4_9, .int y0_10_11, .ref ax4_11]))] H := hP
    have hD : va_D A [(ox4_1, .inr (1, [.ref ax1_1_0, .ref ax1_1_1, .ref ax1_1_2])), (ax1_1_0, .inl (cx1_1_0, 1600, .inl fx1_1_0)), (h0, .inr (4, [.ref ox4_0, .ref ox4_1, .ref ox4_2, .ref ox4_3, .int xx4_4, .int y0_5_2, .int xx4_6, .int y0_7_9, .int y0_8_10, .ref ax4_9, .int y0_10_11, .ref ax4_11]))] := hD
    refine lv_aload_n hx hb dX4_takeCount_26 rfl (lv_at hl 1 rfl) ?_
    refine va_get (D := (dC, dI)) (ci := 4) (v := .int y0_7_9) (C := RX4) (T := TX4) (N := 12) hx hb hts inlX4 hown hK hP 2 rfl rfl 7 (by decide) (hts (.fieldLink RX4 21 "ShapeReader$Reading" "failure" "I") mw_10_18) (fun _ h9 => h9) rfl dX4_takeCount_27 ?_
    refine lv_if_eq (tgt := 37) hx hb dX4_takeCount_30 (by decide) (fun c_12 => ?_) (fun c_12 => ?_)
    · refine lv_lload_n hx hb dX4_takeCount_37 rfl (lv_at hl 0 rfl) ?_
      refine lv_l2i (v := _) hx hb dX4_takeCount_38 rfl ?_
      refine lv_topi (fun x_13 ex_13 => ?_)
      have hP9 := hP.sub (ws' := [(h0, .inr (4, [.ref ox4_0, .ref ox4_1, .ref ox4_2, .ref ox4_3, .int xx4_4, .int y0_5_2, .int xx4_6, .int y0_7_9, .int y0_8_10, .ref ax4_9, .int y0_10_11, .ref ax4_11])), (ox4_1, .inr (1, [.ref ax1_1_0, .ref ax1_1_1, .ref ax1_1_2])), (ax1_1_0, .inl (cx1_1_0, 1600, .inl fx1_1_0))]) [2, 0, 1] rfl
      have hD9 := hD.sub (ws' := [(h0, .inr (4, [.ref ox4_0, .ref ox4_1, .ref ox4_2, .ref ox4_3, .int xx4_4, .int y0_5_2, .int xx4_6, .int y0_7_9, .int y0_8_10, .ref ax4_9, .int y0_10_11, .ref ax4_11])), (ox4_1, .inr (1, [.ref ax1_1_0, .ref ax1_1_1, .ref ax1_1_2])), (ax1_1_0, .inl (cx1_1_0, 1600, .inl fx1_1_0))]) [2, 0, 1] (by decide) rfl
      have hK9 := hK.sub (tys' := [(cx1_1_0, .byte)]) [0] rfl
      refine W.widen (k := 0) (n := 0) (Nat.le_of_ble_eq_true rfl) (Nat.le_of_ble_eq_true rfl) ?_
      exact W.iret (v := x_13) hx hb hr (fun t ht hW => ⟨⟨x_13, (), rfl, trivial, y0_5_2, y0_7_9, y0_8_10, y0_10_11, by rw [ht]; exact hP9, va_K.moved hW.alike hK9, hD9⟩, hS.F ht⟩) hS.2.2 dX4_takeCount_39
    · refine lv_iconst (v := 0) hx hb dX4_takeCount_33 (by decide) ?_
      refine lv_goto (tgt := 39) hx hb dX4_takeCount_34 (by decide) ?_
      have hP9 := hP.sub (ws' := [(h0, .inr (4, [.ref ox4_0, .ref ox4_1, .ref ox4_2, .ref ox4_3, .int xx4_4, .int y0_5_2, .int xx4_6, .int y0_7_9, .int y0_8_10, .ref ax4_9, .int y0_10_11, .ref ax4_11])), (ox4_1, .inr (1, [.ref ax1_1_0, .ref ax1_1_1, .ref ax1_1_2])), (ax1_1_0, .inl (cx1_1_0, 1600, .inl fx1_1_0))]) [2, 0, 1] rfl
      have hD9 := hD.sub (ws' := [(h0, .inr (4, [.ref ox4_0, .ref ox4_1, .ref ox4_2, .ref ox4_3, .int xx4_4, .int y0_5_2, .int xx4_6, .int y0_7_9, .int y0_8_10, .ref ax4_9, .int y0_10_11, .ref ax4_11])), (ox4_1, .inr (1, [.ref ax1_1_0, .ref ax1_1_1, .ref ax1_1_2])), (ax1_1_0, .inl (cx1_1_0, 1600, .inl fx1_1_0))]) [2, 0, 1] (by decide) rfl
      have hK9 := hK.sub (tys' := [(cx1_1_0, .byte)]) [0] rfl
      refine W.widen (k := 0) (n := 0) (Nat.le_of_ble_eq_true rfl) (Nat.le_of_ble_eq_true rfl) ?_
      exact W.iret (v := 0) hx hb hr (fun t ht hW => ⟨⟨0, (), rfl, trivial, y0_5_2, y0_7_9, y0_8_10, y0_10_11, by rw [ht]; exact hP9, va_K.moved hW.alike hK9, hD9⟩, hS.F ht⟩) hS.2.2 dX4_takeCount_39
  · refine lv_lload_n hx hb dX4_takeCount_12 rfl (lv_at hl 0 rfl) ?_
    refine lv_iload_n hx hb dX4_takeCount_13 rfl (lv_at hl 3 rfl) ?_
    refine lv_i2l (v := p1.toInt64) hx hb dX4_takeCount_14 rfl ?_
    refine W.lcmp hx hb dX4_takeCount_15 ?_
    refine lv_topi (fun x_14 ex_14 => ?_)
    refine lv_if_le (tgt := 26) hx hb dX4_takeCount_16 (by decide) (fun c_15 => ?_) (fun c_15 => ?_)
    · refine lv_aload_n hx hb dX4_takeCount_26 rfl (lv_at hl 1 rfl) ?_
      refine va_get (D := (dC, dI)) (ci := 4) (v := .int y0_7_3) (C := RX4) (T := TX4) (N := 12) hx hb hts inlX4 hown hK hP 0 rfl rfl 7 (by decide) (hts (.fieldLink RX4 21 "ShapeReader$Reading" "failure" "I") mw_10_18) (fun _ h9 => h9) rfl dX4_takeCount_27 ?_
      refine lv_if_eq (tgt := 37) hx hb dX4_takeCount_30 (by decide) (fun c_16 => ?_) (fun c_16 => ?_)
      · refine lv_lload_n hx hb dX4_takeCount_37 rfl (lv_at hl 0 rfl) ?_
        refine lv_l2i (v := _) hx hb dX4_takeCount_38 rfl ?_
        refine lv_topi (fun x_17 ex_17 => ?_)
        have hP9 := hP.sub (ws' := [(h0, .inr (4, [.ref ox4_0, .ref ox4_1, .ref ox4_2, .ref ox4_3, .int xx4_4, .int y0_5_2, .int xx4_6, .int y0_7_3, .int y0_8_4, .ref ax4_9, .int y0_10_5, .ref ax4_11])), (ox4_1, .inr (1, [.ref ax1_1_0, .ref ax1_1_1, .ref ax1_1_2])), (ax1_1_0, .inl (cx1_1_0, 1600, .inl fx1_1_0))]) [0, 1, 2] rfl
        have hD9 := hD.sub (ws' := [(h0, .inr (4, [.ref ox4_0, .ref ox4_1, .ref ox4_2, .ref ox4_3, .int xx4_4, .int y0_5_2, .int xx4_6, .int y0_7_3, .int y0_8_4, .ref ax4_9, .int y0_10_5, .ref ax4_11])), (ox4_1, .inr (1, [.ref ax1_1_0, .ref ax1_1_1, .ref ax1_1_2])), (ax1_1_0, .inl (cx1_1_0, 1600, .inl fx1_1_0))]) [0, 1, 2] (by decide) rfl
        have hK9 := hK.sub (tys' := [(cx1_1_0, .byte)]) [0] rfl
        refine W.widen (k := 0) (n := 0) (Nat.le_of_ble_eq_true rfl) (Nat.le_of_ble_eq_true rfl) ?_
        exact W.iret (v := x_17) hx hb hr (fun t ht hW => ⟨⟨x_17, (), rfl, trivial, y0_5_2, y0_7_3, y0_8_4, y0_10_5, by rw [ht]; exact hP9, va_K.moved hW.alike hK9, hD9⟩, hS.F ht⟩) hS.2.2 dX4_takeCount_39
      · refine lv_iconst (v := 0) hx hb dX4_takeCount_33 (by decide) ?_
        refine lv_goto (tgt := 39) hx hb dX4_takeCount_34 (by decide) ?_
        have hP9 := hP.sub (ws' := [(h0, .inr (4, [.ref ox4_0, .ref ox4_1, .ref ox4_2, .ref ox4_3, .int xx4_4, .int y0_5_2, .int xx4_6, .int y0_7_3, .int y0_8_4, .ref ax4_9, .int y0_10_5, .ref ax4_11])), (ox4_1, .inr (1, [.ref ax1_1_0, .ref ax1_1_1, .ref ax1_1_2])), (ax1_1_0, .inl (cx1_1_0, 1600, .inl fx1_1_0))]) [0, 1, 2] rfl
        have hD9 := hD.sub (ws' := [(h0, .inr (4, [.ref ox4_0, .ref ox4_1, .ref ox4_2, .ref ox4_3, .int xx4_4, .int y0_5_2, .int xx4_6, .int y0_7_3, .int y0_8_4, .ref ax4_9, .int y0_10_5, .ref ax4_11])), (ox4_1, .inr (1, [.ref ax1_1_0, .ref ax1_1_1, .ref ax1_1_2])), (ax1_1_0, .inl (cx1_1_0, 1600, .inl fx1_1_0))]) [0, 1, 2] (by decide) rfl
        have hK9 := hK.sub (tys' := [(cx1_1_0, .byte)]) [0] rfl
        refine W.widen (k := 0) (n := 0) (Nat.le_of_ble_eq_true rfl) (Nat.le_of_ble_eq_true rfl) ?_
        exact W.iret (v := 0) hx hb hr (fun t ht hW => ⟨⟨0, (), rfl, trivial, y0_5_2, y0_7_3, y0_8_4, y0_10_5, by rw [ht]; exact hP9, va_K.moved hW.alike hK9, hD9⟩, hS.F ht⟩) hS.2.2 dX4_takeCount_39
    · refine lv_aload_n hx hb dX4_takeCount_19 rfl (lv_at hl 1 rfl) ?_
      refine lv_bipush (v := 12) hx hb dX4_takeCount_20 (by decide) ?_
      refine lv_iload_n hx hb dX4_takeCount_22 rfl (lv_at hl 2 rfl) ?_
      have hPc := hP.sub (ws' := [(h0, .inr (4, [.ref ox4_0, .ref ox4_1, .ref ox4_2, .ref ox4_3, .int xx4_4, .int y0_5_2, .int xx4_6, .int y0_7_3, .int y0_8_4, .ref ax4_9, .int y0_10_5, .ref ax4_11]))]) [0] rfl
      have hDc := hD.sub (ws' := [(h0, .inr (4, [.ref ox4_0, .ref ox4_1, .ref ox4_2, .ref ox4_3, .int xx4_4, .int y0_5_2, .int xx4_6, .int y0_7_3, .int y0_8_4, .ref ax4_9, .int y0_10_5, .ref ax4_11]))]) [0] (by decide) rfl
      have hKc := hK.sub (tys' := []) [] rfl
      have hFc := va_free (wc := [(h0, .inr (4, [.ref ox4_0, .ref ox4_1, .ref ox4_2, .ref ox4_3, .int xx4_4, .int y0_5_2, .int xx4_6, .int y0_7_3, .int y0_8_4, .ref ax4_9, .int y0_10_5, .ref ax4_11]))]) hD hS hA [0] rfl
      refine va_callv (va_runV (As := [.int 12, .int p0]) (rest := []) ⟨hx, hb, hml, hown, hts⟩ (s_X4_fail l dC dI h0 ox4_0 ox4_1 ox4_2 ox4_3 xx4_4 y0_5_2 xx4_6 y0_7_3 y0_8_4 ax4_9 y0_10_5 ax4_11 12 p0 H.size) (cwV 2 hts (gV mw_11_10 mw_11_11 mw_11_12 mw_0_8 mw_48_2) rfl rfl rfl (by decide +kernel) ⟨(Nat.le_of_ble_eq_true rfl), (Nat.le_of_ble_eq_true rfl)⟩) (vV (ci := 4) (q0 := 0) hKc hPc hDc hN rfl rfl) rfl rfl hl.1 rfl (lv_room (Nat.le_of_ble_eq_true rfl)) dX4_takeCount_23 ⟨(Nat.le_of_ble_eq_true rfl), (Nat.le_of_ble_eq_true rfl)⟩) hS (fun q _ h => hFc q h) hFc (fun u t H1 locs ht hvm hw hB hz1 hk1 hS => ?_)
      obtain ⟨y0_7_19, y0_8_20, y0_10_21, hP1, hK1, hD1⟩ := hB
      rw [ht] at hP1
      have hK1 := va_K.moved hvm.symm hK1
      obtain ⟨hP, hD⟩ := va_join (wr := [(ox4_1, .inr (1, [.ref ax1_1_0, .ref ax1_1_1, .ref ax1_1_2])), (ax1_1_0, .inl (cx1_1_0, 1600, .inl fx1_1_0))]) (w1 := [(h0, .inr (4, [.ref ox4_0, .ref ox4_1, .ref ox4_2, .ref ox4_3, .int xx4_4, .int y0_5_2, .int xx4_6, .int y0_7_19, .int y0_8_20, .ref ax4_9, .int y0_10_21, .ref ax4_11]))]) hP hD [0] [1, 2] rfl rfl (by decide) (by decide) hk1 hFc hP1 hD1
      clear hPc hDc hKc hP1 hK1 hD1 hFc hk1 hz1
      generalize H1 = H at hP hS ⊢
      have hP : va_P (dC, dI) vwCl [(ox4_1, .inr (1, [.ref ax1_1_0, .ref ax1_1_1, .ref ax1_1_2])), (ax1_1_0, .inl (cx1_1_0, 1600, .inl fx1_1_0)), (h0, .inr (4, [.ref ox4_0, .ref ox4_1, .ref ox4_2, .ref ox4_3, .int xx4_4, .int y0_5_2, .int xx4_6, .int y0_7_19, .int y0_8_20, .ref ax4_9, .int y0_10_21, .ref ax4_11]))] H := hP
      have hD : va_D A [(ox4_1, .inr (1, [.ref ax1_1_0, .ref ax1_1_1, .ref ax1_1_2])), (ax1_1_0, .inl (cx1_1_0, 1600, .inl fx1_1_0)), (h0, .inr (4, [.ref ox4_0, .ref ox4_1, .ref ox4_2, .ref ox4_3, .int xx4_4, .int y0_5_2, .int xx4_6, .int y0_7_19, .int y0_8_20, .ref ax4_9, .int y0_10_21, .ref ax4_11]))] := hD
      refine lv_aload_n hx hb dX4_takeCount_26 rfl (lv_at hl 1 rfl) ?_
      refine va_get (D := (dC, dI)) (ci := 4) (v := .int y0_7_19) (C := RX4) (T := TX4) (N := 12) hx hb hts inlX4 hown hK hP 2 rfl rfl 7 (by decide) (hts (.fieldLink RX4 21 "ShapeReader$Reading" "failure" "I") mw_10_18) (fun _ h9 => h9) rfl dX4_takeCount_27 ?_
      refine lv_if_eq (tgt := 37) hx hb dX4_takeCount_30 (by decide) (fun c_22 => ?_) (fun c_22 => ?_)
      · refine lv_lload_n hx hb dX4_takeCount_37 rfl (lv_at hl 0 rfl) ?_
        refine lv_l2i (v := _) hx hb dX4_takeCount_38 rfl ?_
        refine lv_topi (fun x_23 ex_23 => ?_)
        have hP9 := hP.sub (ws' := [(h0, .inr (4, [.ref ox4_0, .ref ox4_1, .ref ox4_2, .ref ox4_3, .int xx4_4, .int y0_5_2, .int xx4_6, .int y0_7_19, .int y0_8_20, .ref ax4_9, .int y0_10_21, .ref ax4_11])), (ox4_1, .inr (1, [.ref ax1_1_0, .ref ax1_1_1, .ref ax1_1_2])), (ax1_1_0, .inl (cx1_1_0, 1600, .inl fx1_1_0))]) [2, 0, 1] rfl
        have hD9 := hD.sub (ws' := [(h0, .inr (4, [.ref ox4_0, .ref ox4_1, .ref ox4_2, .ref ox4_3, .int xx4_4, .int y0_5_2, .int xx4_6, .int y0_7_19, .int y0_8_20, .ref ax4_9, .int y0_10_21, .ref ax4_11])), (ox4_1, .inr (1, [.ref ax1_1_0, .ref ax1_1_1, .ref ax1_1_2])), (ax1_1_0, .inl (cx1_1_0, 1600, .inl fx1_1_0))]) [2, 0, 1] (by decide) rfl
        have hK9 := hK.sub (tys' := [(cx1_1_0, .byte)]) [0] rfl
        refine W.widen (k := 0) (n := 0) (Nat.le_of_ble_eq_true rfl) (Nat.le_of_ble_eq_true rfl) ?_
        exact W.iret (v := x_23) hx hb hr (fun t ht hW => ⟨⟨x_23, (), rfl, trivial, y0_5_2, y0_7_19, y0_8_20, y0_10_21, by rw [ht]; exact hP9, va_K.moved hW.alike hK9, hD9⟩, hS.F ht⟩) hS.2.2 dX4_takeCount_39
      · refine lv_iconst (v := 0) hx hb dX4_takeCount_33 (by decide) ?_
        refine lv_goto (tgt := 39) hx hb dX4_takeCount_34 (by decide) ?_
        have hP9 := hP.sub (ws' := [(h0, .inr (4, [.ref ox4_0, .ref ox4_1, .ref ox4_2, .ref ox4_3, .int xx4_4, .int y0_5_2, .int xx4_6, .int y0_7_19, .int y0_8_20, .ref ax4_9, .int y0_10_21, .ref ax4_11])), (ox4_1, .inr (1, [.ref ax1_1_0, .ref ax1_1_1, .ref ax1_1_2])), (ax1_1_0, .inl (cx1_1_0, 1600, .inl fx1_1_0))]) [2, 0, 1] rfl
        have hD9 := hD.sub (ws' := [(h0, .inr (4, [.ref ox4_0, .ref ox4_1, .ref ox4_2, .ref ox4_3, .int xx4_4, .int y0_5_2, .int xx4_6, .int y0_7_19, .int y0_8_20, .ref ax4_9, .int y0_10_21, .ref ax4_11])), (ox4_1, .inr (1, [.ref ax1_1_0, .ref ax1_1_1, .ref ax1_1_2])), (ax1_1_0, .inl (cx1_1_0, 1600, .inl fx1_1_0))]) [2, 0, 1] (by decide) rfl
        have hK9 := hK.sub (tys' := [(cx1_1_0, .byte)]) [0] rfl
        refine W.widen (k := 0) (n := 0) (Nat.le_of_ble_eq_true rfl) (Nat.le_of_ble_eq_true rfl) ?_
        exact W.iret (v := 0) hx hb hr (fun t ht hW => ⟨⟨0, (), rfl, trivial, y0_5_2, y0_7_19, y0_8_20, y0_10_21, by rw [ht]; exact hP9, va_K.moved hW.alike hK9, hD9⟩, hS.F ht⟩) hS.2.2 dX4_takeCount_39
