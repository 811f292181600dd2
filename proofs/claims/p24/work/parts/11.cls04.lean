theorem dX0_findMisses_0 : decode cX0_findMisses 0 = .ok (.aload_n 0, 1) := by decide +kernel
theorem dX0_findMisses_1 : decode cX0_findMisses 1 = .ok (.iload_n 1, 1) := by decide +kernel
theorem dX0_findMisses_2 : decode cX0_findMisses 2 = .ok (.iload_n 2, 1) := by decide +kernel
theorem dX0_findMisses_3 : decode cX0_findMisses 3 = .ok (.invokevirtual 129, 3) := by decide +kernel
theorem dX0_findMisses_6 : decode cX0_findMisses 6 = .ok (.aload_n 0, 1) := by decide +kernel
theorem dX0_findMisses_7 : decode cX0_findMisses 7 = .ok (.iload_n 1, 1) := by decide +kernel
theorem dX0_findMisses_8 : decode cX0_findMisses 8 = .ok (.iload_n 2, 1) := by decide +kernel
theorem dX0_findMisses_9 : decode cX0_findMisses 9 = .ok (.invokevirtual 132, 3) := by decide +kernel
theorem dX0_findMisses_12 : decode cX0_findMisses 12 = .ok (.return_, 1) := by decide +kernel
theorem dX0_isMiss_0 : decode cX0_isMiss 0 = .ok (.iload_n 1, 1) := by decide +kernel
theorem dX0_isMiss_1 : decode cX0_isMiss 1 = .ok (.ifCond .lt 21, 3) := by decide +kernel
theorem dX0_isMiss_4 : decode cX0_isMiss 4 = .ok (.iload_n 1, 1) := by decide +kernel
theorem dX0_isMiss_5 : decode cX0_isMiss 5 = .ok (.aload_n 0, 1) := by decide +kernel
theorem dX0_isMiss_6 : decode cX0_isMiss 6 = .ok (.getfield 30, 3) := by decide +kernel
theorem dX0_isMiss_9 : decode cX0_isMiss 9 = .ok (.if_icmp .ge 13, 3) := by decide +kernel
theorem dX0_isMiss_12 : decode cX0_isMiss 12 = .ok (.iload_n 1, 1) := by decide +kernel
theorem dX0_isMiss_13 : decode cX0_isMiss 13 = .ok (.bipush 20, 2) := by decide +kernel
theorem dX0_isMiss_15 : decode cX0_isMiss 15 = .ok (.if_icmp .ge 7, 3) := by decide +kernel
theorem dX0_isMiss_18 : decode cX0_isMiss 18 = .ok (.iconst 1, 1) := by decide +kernel
theorem dX0_isMiss_19 : decode cX0_isMiss 19 = .ok (.goto 4, 3) := by decide +kernel
theorem dX0_isMiss_22 : decode cX0_isMiss 22 = .ok (.iconst 0, 1) := by decide +kernel
theorem dX0_isMiss_23 : decode cX0_isMiss 23 = .ok (.ireturn, 1) := by decide +kernel
theorem dX0_missKind_0 : decode cX0_missKind 0 = .ok (.aload_n 0, 1) := by decide +kernel
theorem dX0_missKind_1 : decode cX0_missKind 1 = .ok (.iload_n 1, 1) := by decide +kernel
theorem dX0_missKind_2 : decode cX0_missKind 2 = .ok (.invokevirtual 171, 3) := by decide +kernel
theorem dX0_missKind_5 : decode cX0_missKind 5 = .ok (.ifCond .eq 12, 3) := by decide +kernel
theorem dX0_missKind_8 : decode cX0_missKind 8 = .ok (.aload_n 0, 1) := by decide +kernel
theorem dX0_missKind_9 : decode cX0_missKind 9 = .ok (.getfield 33, 3) := by decide +kernel
theorem dX0_missKind_12 : decode cX0_missKind 12 = .ok (.iload_n 1, 1) := by decide +kernel
theorem dX0_missKind_13 : decode cX0_missKind 13 = .ok (.iaload, 1) := by decide +kernel
theorem dX0_missKind_14 : decode cX0_missKind 14 = .ok (.goto 4, 3) := by decide +kernel
theorem dX0_missKind_17 : decode cX0_missKind 17 = .ok (.iconst (-1), 1) := by decide +kernel
theorem dX0_missKind_18 : decode cX0_missKind 18 = .ok (.ireturn, 1) := by decide +kernel
theorem dX0_missSteps_0 : decode cX0_missSteps 0 = .ok (.aload_n 0, 1) := by decide +kernel
theorem dX0_missSteps_1 : decode cX0_missSteps 1 = .ok (.iload_n 1, 1) := by decide +kernel
theorem dX0_missSteps_2 : decode cX0_missSteps 2 = .ok (.invokevirtual 171, 3) := by decide +kernel
theorem dX0_missSteps_5 : decode cX0_missSteps 5 = .ok (.ifCond .eq 12, 3) := by decide +kernel
theorem dX0_missSteps_8 : decode cX0_missSteps 8 = .ok (.aload_n 0, 1) := by decide +kernel
theorem dX0_missSteps_9 : decode cX0_missSteps 9 = .ok (.getfield 36, 3) := by decide +kernel
theorem dX0_missSteps_12 : decode cX0_missSteps 12 = .ok (.iload_n 1, 1) := by decide +kernel
theorem dX0_missSteps_13 : decode cX0_missSteps 13 = .ok (.iaload, 1) := by decide +kernel
theorem dX0_missSteps_14 : decode cX0_missSteps 14 = .ok (.goto 4, 3) := by decide +kernel
theorem dX0_missSteps_17 : decode cX0_missSteps 17 = .ok (.iconst (-1), 1) := by decide +kernel
theorem dX0_missSteps_18 : decode cX0_missSteps 18 = .ok (.ireturn, 1) := by decide +kernel
theorem dX0_rootsFit_0 : decode cX0_rootsFit 0 = .ok (.aload_n 0, 1) := by decide +kernel
theorem dX0_rootsFit_1 : decode cX0_rootsFit 1 = .ok (.getfield 23, 3) := by decide +kernel
theorem dX0_rootsFit_4 : decode cX0_rootsFit 4 = .ok (.iconst 0, 1) := by decide +kernel
theorem dX0_rootsFit_5 : decode cX0_rootsFit 5 = .ok (.iconst 0, 1) := by decide +kernel
theorem dX0_rootsFit_6 : decode cX0_rootsFit 6 = .ok (.invokestatic 84, 3) := by decide +kernel
theorem dX0_rootsFit_9 : decode cX0_rootsFit 9 = .ok (.land, 1) := by decide +kernel
theorem dX0_rootsFit_10 : decode cX0_rootsFit 10 = .ok (.lconst 0, 1) := by decide +kernel
theorem dX0_rootsFit_11 : decode cX0_rootsFit 11 = .ok (.lcmp, 1) := by decide +kernel
theorem dX0_rootsFit_12 : decode cX0_rootsFit 12 = .ok (.ifCond .eq 7, 3) := by decide +kernel
theorem dX0_rootsFit_15 : decode cX0_rootsFit 15 = .ok (.iconst 1, 1) := by decide +kernel
theorem dX0_rootsFit_16 : decode cX0_rootsFit 16 = .ok (.goto 4, 3) := by decide +kernel
theorem dX0_rootsFit_19 : decode cX0_rootsFit 19 = .ok (.iconst 0, 1) := by decide +kernel
theorem dX0_rootsFit_20 : decode cX0_rootsFit 20 = .ok (.ireturn, 1) := by decide +kernel
theorem dX0_stepOfMiss_0 : decode cX0_stepOfMiss 0 = .ok (.aload_n 0, 1) := by decide +kernel
theorem dX0_stepOfMiss_1 : decode cX0_stepOfMiss 1 = .ok (.iload_n 1, 1) := by decide +kernel
theorem dX0_stepOfMiss_2 : decode cX0_stepOfMiss 2 = .ok (.invokevirtual 171, 3) := by decide +kernel
theorem dX0_stepOfMiss_5 : decode cX0_stepOfMiss 5 = .ok (.ifCond .eq 37, 3) := by decide +kernel
theorem dX0_stepOfMiss_8 : decode cX0_stepOfMiss 8 = .ok (.iload_n 2, 1) := by decide +kernel
theorem dX0_stepOfMiss_9 : decode cX0_stepOfMiss 9 = .ok (.ifCond .lt 33, 3) := by decide +kernel
theorem dX0_stepOfMiss_12 : decode cX0_stepOfMiss 12 = .ok (.iload_n 2, 1) := by decide +kernel
theorem dX0_stepOfMiss_13 : decode cX0_stepOfMiss 13 = .ok (.aload_n 0, 1) := by decide +kernel
theorem dX0_stepOfMiss_14 : decode cX0_stepOfMiss 14 = .ok (.getfield 36, 3) := by decide +kernel
theorem dX0_stepOfMiss_17 : decode cX0_stepOfMiss 17 = .ok (.iload_n 1, 1) := by decide +kernel
theorem dX0_stepOfMiss_18 : decode cX0_stepOfMiss 18 = .ok (.iaload, 1) := by decide +kernel
theorem dX0_stepOfMiss_19 : decode cX0_stepOfMiss 19 = .ok (.if_icmp .ge 23, 3) := by decide +kernel
theorem dX0_stepOfMiss_22 : decode cX0_stepOfMiss 22 = .ok (.iload_n 2, 1) := by decide +kernel
theorem dX0_stepOfMiss_23 : decode cX0_stepOfMiss 23 = .ok (.bipush 32, 2) := by decide +kernel
theorem dX0_stepOfMiss_25 : decode cX0_stepOfMiss 25 = .ok (.if_icmp .ge 17, 3) := by decide +kernel
theorem dX0_stepOfMiss_28 : decode cX0_stepOfMiss 28 = .ok (.aload_n 0, 1) := by decide +kernel
theorem dX0_stepOfMiss_29 : decode cX0_stepOfMiss 29 = .ok (.getfield 39, 3) := by decide +kernel
theorem dX0_stepOfMiss_32 : decode cX0_stepOfMiss 32 = .ok (.iload_n 1, 1) := by decide +kernel
theorem dX0_stepOfMiss_33 : decode cX0_stepOfMiss 33 = .ok (.bipush 32, 2) := by decide +kernel
theorem dX0_stepOfMiss_35 : decode cX0_stepOfMiss 35 = .ok (.imul, 1) := by decide +kernel
theorem dX0_stepOfMiss_36 : decode cX0_stepOfMiss 36 = .ok (.iload_n 2, 1) := by decide +kernel
theorem dX0_stepOfMiss_37 : decode cX0_stepOfMiss 37 = .ok (.iadd, 1) := by decide +kernel
theorem dX0_stepOfMiss_38 : decode cX0_stepOfMiss 38 = .ok (.iaload, 1) := by decide +kernel
theorem dX0_stepOfMiss_39 : decode cX0_stepOfMiss 39 = .ok (.goto 4, 3) := by decide +kernel
theorem dX0_stepOfMiss_42 : decode cX0_stepOfMiss 42 = .ok (.iconst (-1), 1) := by decide +kernel
theorem dX0_stepOfMiss_43 : decode cX0_stepOfMiss 43 = .ok (.ireturn, 1) := by decide +kernel
theorem dX0_turnTo_0 : decode cX0_turnTo 0 = .ok (.iload_n 1, 1) := by decide +kernel
theorem dX0_turnTo_1 : decode cX0_turnTo 1 = .ok (.iload_n 2, 1) := by decide +kernel
theorem dX0_turnTo_2 : decode cX0_turnTo 2 = .ok (.invokestatic 67, 3) := by decide +kernel
theorem dX0_turnTo_5 : decode cX0_turnTo 5 = .ok (.istore_n 3, 1) := by decide +kernel
theorem dX0_turnTo_6 : decode cX0_turnTo 6 = .ok (.aload_n 0, 1) := by decide +kernel
theorem dX0_turnTo_7 : decode cX0_turnTo 7 = .ok (.getfield 15, 3) := by decide +kernel
theorem dX0_turnTo_10 : decode cX0_turnTo 10 = .ok (.iload_n 3, 1) := by decide +kernel
theorem dX0_turnTo_11 : decode cX0_turnTo 11 = .ok (.lshr, 1) := by decide +kernel
theorem dX0_turnTo_12 : decode cX0_turnTo 12 = .ok (.lconst 1, 1) := by decide +kernel
theorem dX0_turnTo_13 : decode cX0_turnTo 13 = .ok (.land, 1) := by decide +kernel
theorem dX0_turnTo_14 : decode cX0_turnTo 14 = .ok (.lconst 0, 1) := by decide +kernel
theorem dX0_turnTo_15 : decode cX0_turnTo 15 = .ok (.lcmp, 1) := by decide +kernel
theorem dX0_turnTo_16 : decode cX0_turnTo 16 = .ok (.ifCond .ne 31, 3) := by decide +kernel
theorem dX0_turnTo_19 : decode cX0_turnTo 19 = .ok (.aload_n 0, 1) := by decide +kernel
theorem dX0_turnTo_20 : decode cX0_turnTo 20 = .ok (.iload_n 1, 1) := by decide +kernel
theorem dX0_turnTo_21 : decode cX0_turnTo 21 = .ok (.iload_n 2, 1) := by decide +kernel
theorem dX0_turnTo_22 : decode cX0_turnTo 22 = .ok (.invokevirtual 70, 3) := by decide +kernel
theorem dX0_turnTo_25 : decode cX0_turnTo 25 = .ok (.aload_n 0, 1) := by decide +kernel
theorem dX0_turnTo_26 : decode cX0_turnTo 26 = .ok (.getfield 9, 3) := by decide +kernel
theorem dX0_turnTo_29 : decode cX0_turnTo 29 = .ok (.iload_n 3, 1) := by decide +kernel
theorem dX0_turnTo_30 : decode cX0_turnTo 30 = .ok (.aload_n 0, 1) := by decide +kernel
theorem dX0_turnTo_31 : decode cX0_turnTo 31 = .ok (.getfield 23, 3) := by decide +kernel
theorem dX0_turnTo_34 : decode cX0_turnTo 34 = .ok (.lastore, 1) := by decide +kernel
theorem dX0_turnTo_35 : decode cX0_turnTo 35 = .ok (.aload_n 0, 1) := by decide +kernel
theorem dX0_turnTo_36 : decode cX0_turnTo 36 = .ok (.dup, 1) := by decide +kernel
theorem dX0_turnTo_37 : decode cX0_turnTo 37 = .ok (.getfield 15, 3) := by decide +kernel
theorem dX0_turnTo_40 : decode cX0_turnTo 40 = .ok (.lconst 1, 1) := by decide +kernel
theorem dX0_turnTo_41 : decode cX0_turnTo 41 = .ok (.iload_n 3, 1) := by decide +kernel
theorem dX0_turnTo_42 : decode cX0_turnTo 42 = .ok (.lshl, 1) := by decide +kernel
theorem dX0_turnTo_43 : decode cX0_turnTo 43 = .ok (.lor, 1) := by decide +kernel
theorem dX0_turnTo_44 : decode cX0_turnTo 44 = .ok (.putfield 15, 3) := by decide +kernel
theorem dX0_turnTo_47 : decode cX0_turnTo 47 = .ok (.aload_n 0, 1) := by decide +kernel
theorem dX0_turnTo_48 : decode cX0_turnTo 48 = .ok (.aload_n 0, 1) := by decide +kernel
theorem dX0_turnTo_49 : decode cX0_turnTo 49 = .ok (.getfield 9, 3) := by decide +kernel
theorem dX0_turnTo_52 : decode cX0_turnTo 52 = .ok (.iload_n 3, 1) := by decide +kernel
theorem dX0_turnTo_53 : decode cX0_turnTo 53 = .ok (.laload, 1) := by decide +kernel
theorem dX0_turnTo_54 : decode cX0_turnTo 54 = .ok (.putfield 23, 3) := by decide +kernel
theorem dX0_turnTo_57 : decode cX0_turnTo 57 = .ok (.return_, 1) := by decide +kernel
theorem dX0_verdict_0 : decode cX0_verdict 0 = .ok (.iload_n 1, 1) := by decide +kernel
theorem dX0_verdict_1 : decode cX0_verdict 1 = .ok (.iload_n 2, 1) := by decide +kernel
theorem dX0_verdict_2 : decode cX0_verdict 2 = .ok (.invokestatic 67, 3) := by decide +kernel
theorem dX0_verdict_5 : decode cX0_verdict 5 = .ok (.istore_n 3, 1) := by decide +kernel
theorem dX0_verdict_6 : decode cX0_verdict 6 = .ok (.aload_n 0, 1) := by decide +kernel
theorem dX0_verdict_7 : decode cX0_verdict 7 = .ok (.getfield 19, 3) := by decide +kernel
theorem dX0_verdict_10 : decode cX0_verdict 10 = .ok (.iload_n 3, 1) := by decide +kernel
theorem dX0_verdict_11 : decode cX0_verdict 11 = .ok (.iaload, 1) := by decide +kernel
theorem dX0_verdict_12 : decode cX0_verdict 12 = .ok (.iconst (-1), 1) := by decide +kernel
theorem dX0_verdict_13 : decode cX0_verdict 13 = .ok (.if_icmp .ne 48, 3) := by decide +kernel
theorem dX0_verdict_16 : decode cX0_verdict 16 = .ok (.aload_n 0, 1) := by decide +kernel
theorem dX0_verdict_17 : decode cX0_verdict 17 = .ok (.iload_n 1, 1) := by decide +kernel
theorem dX0_verdict_18 : decode cX0_verdict 18 = .ok (.iload_n 2, 1) := by decide +kernel
theorem dX0_verdict_19 : decode cX0_verdict 19 = .ok (.invokevirtual 129, 3) := by decide +kernel
theorem dX0_verdict_22 : decode cX0_verdict 22 = .ok (.aload_n 0, 1) := by decide +kernel
theorem dX0_verdict_23 : decode cX0_verdict 23 = .ok (.iload_n 1, 1) := by decide +kernel
theorem dX0_verdict_24 : decode cX0_verdict 24 = .ok (.iload_n 2, 1) := by decide +kernel
theorem dX0_verdict_25 : decode cX0_verdict 25 = .ok (.invokevirtual 132, 3) := by decide +kernel
theorem dX0_verdict_28 : decode cX0_verdict 28 = .ok (.aload_n 0, 1) := by decide +kernel
theorem dX0_verdict_29 : decode cX0_verdict 29 = .ok (.getfield 30, 3) := by decide +kernel
theorem dX0_verdict_32 : decode cX0_verdict 32 = .ok (.ifCond .le 7, 3) := by decide +kernel
theorem dX0_verdict_35 : decode cX0_verdict 35 = .ok (.iconst 1, 1) := by decide +kernel
theorem dX0_verdict_36 : decode cX0_verdict 36 = .ok (.goto 4, 3) := by decide +kernel
theorem dX0_verdict_39 : decode cX0_verdict 39 = .ok (.iconst 0, 1) := by decide +kernel
theorem dX0_verdict_40 : decode cX0_verdict 40 = .ok (.istore 4, 2) := by decide +kernel
theorem dX0_verdict_42 : decode cX0_verdict 42 = .ok (.aload_n 0, 1) := by decide +kernel
theorem dX0_verdict_43 : decode cX0_verdict 43 = .ok (.getfield 19, 3) := by decide +kernel
theorem dX0_verdict_46 : decode cX0_verdict 46 = .ok (.iload_n 3, 1) := by decide +kernel
theorem dX0_verdict_47 : decode cX0_verdict 47 = .ok (.aload_n 0, 1) := by decide +kernel
theorem dX0_verdict_48 : decode cX0_verdict 48 = .ok (.invokevirtual 135, 3) := by decide +kernel
theorem dX0_verdict_51 : decode cX0_verdict 51 = .ok (.ifCond .eq 8, 3) := by decide +kernel
theorem dX0_verdict_54 : decode cX0_verdict 54 = .ok (.iload 4, 2) := by decide +kernel
theorem dX0_verdict_56 : decode cX0_verdict 56 = .ok (.goto 4, 3) := by decide +kernel
theorem dX0_verdict_59 : decode cX0_verdict 59 = .ok (.iconst 2, 1) := by decide +kernel
theorem dX0_verdict_60 : decode cX0_verdict 60 = .ok (.iastore, 1) := by decide +kernel
theorem dX0_verdict_61 : decode cX0_verdict 61 = .ok (.aload_n 0, 1) := by decide +kernel
theorem dX0_verdict_62 : decode cX0_verdict 62 = .ok (.getfield 19, 3) := by decide +kernel
theorem dX0_verdict_65 : decode cX0_verdict 65 = .ok (.iload_n 3, 1) := by decide +kernel
theorem dX0_verdict_66 : decode cX0_verdict 66 = .ok (.iaload, 1) := by decide +kernel
theorem dX0_verdict_67 : decode cX0_verdict 67 = .ok (.ireturn, 1) := by decide +kernel
theorem dX10_isPlan_0 : decode cX10_isPlan 0 = .ok (.iload_n 1, 1) := by decide +kernel
theorem dX10_isPlan_1 : decode cX10_isPlan 1 = .ok (.ifCond .lt 18, 3) := by decide +kernel
theorem dX10_isPlan_4 : decode cX10_isPlan 4 = .ok (.iload_n 1, 1) := by decide +kernel
theorem dX10_isPlan_5 : decode cX10_isPlan 5 = .ok (.aload_n 0, 1) := by decide +kernel
theorem dX10_isPlan_6 : decode cX10_isPlan 6 = .ok (.getfield 29, 3) := by decide +kernel
theorem dX10_isPlan_9 : decode cX10_isPlan 9 = .ok (.getfield 137, 3) := by decide +kernel
theorem dX10_isPlan_12 : decode cX10_isPlan 12 = .ok (.if_icmp .ge 7, 3) := by decide +kernel
theorem dX10_isPlan_15 : decode cX10_isPlan 15 = .ok (.iconst 1, 1) := by decide +kernel
theorem dX10_isPlan_16 : decode cX10_isPlan 16 = .ok (.goto 4, 3) := by decide +kernel
theorem dX10_isPlan_19 : decode cX10_isPlan 19 = .ok (.iconst 0, 1) := by decide +kernel
theorem dX10_isPlan_20 : decode cX10_isPlan 20 = .ok (.ireturn, 1) := by decide +kernel
theorem dX1_isNumber_0 : decode cX1_isNumber 0 = .ok (.iload_n 1, 1) := by decide +kernel
theorem dX1_isNumber_1 : decode cX1_isNumber 1 = .ok (.ifCond .lt 12, 3) := by decide +kernel
theorem dX1_isNumber_4 : decode cX1_isNumber 4 = .ok (.iload_n 1, 1) := by decide +kernel
theorem dX1_isNumber_5 : decode cX1_isNumber 5 = .ok (.iconst 4, 1) := by decide +kernel
theorem dX1_isNumber_6 : decode cX1_isNumber 6 = .ok (.if_icmp .ge 7, 3) := by decide +kernel
theorem dX1_isNumber_9 : decode cX1_isNumber 9 = .ok (.iconst 1, 1) := by decide +kernel
theorem dX1_isNumber_10 : decode cX1_isNumber 10 = .ok (.goto 4, 3) := by decide +kernel
theorem dX1_isNumber_13 : decode cX1_isNumber 13 = .ok (.iconst 0, 1) := by decide +kernel
theorem dX1_isNumber_14 : decode cX1_isNumber 14 = .ok (.ireturn, 1) := by decide +kernel
theorem dX1_isWritten_0 : decode cX1_isWritten 0 = .ok (.aload_n 0, 1) := by decide +kernel
theorem dX1_isWritten_1 : decode cX1_isWritten 1 = .ok (.iload_n 1, 1) := by decide +kernel
theorem dX1_isWritten_2 : decode cX1_isWritten 2 = .ok (.invokevirtual 28, 3) := by decide +kernel
theorem dX1_isWritten_5 : decode cX1_isWritten 5 = .ok (.ifCond .eq 17, 3) := by decide +kernel
theorem dX1_isWritten_8 : decode cX1_isWritten 8 = .ok (.aload_n 0, 1) := by decide +kernel
theorem dX1_isWritten_9 : decode cX1_isWritten 9 = .ok (.getfield 19, 3) := by decide +kernel
theorem dX1_isWritten_12 : decode cX1_isWritten 12 = .ok (.iload_n 1, 1) := by decide +kernel
theorem dX1_isWritten_13 : decode cX1_isWritten 13 = .ok (.iaload, 1) := by decide +kernel
theorem dX1_isWritten_14 : decode cX1_isWritten 14 = .ok (.iconst (-1), 1) := by decide +kernel
theorem dX1_isWritten_15 : decode cX1_isWritten 15 = .ok (.if_icmp .eq 7, 3) := by decide +kernel
theorem dX1_isWritten_18 : decode cX1_isWritten 18 = .ok (.iconst 1, 1) := by decide +kernel
theorem dX1_isWritten_19 : decode cX1_isWritten 19 = .ok (.goto 4, 3) := by decide +kernel
theorem dX1_isWritten_22 : decode cX1_isWritten 22 = .ok (.iconst 0, 1) := by decide +kernel
theorem dX1_isWritten_23 : decode cX1_isWritten 23 = .ok (.ireturn, 1) := by decide +kernel
theorem dX1_planOf_0 : decode cX1_planOf 0 = .ok (.aload_n 0, 1) := by decide +kernel
theorem dX1_planOf_1 : decode cX1_planOf 1 = .ok (.iload_n 1, 1) := by decide +kernel
theorem dX1_planOf_2 : decode cX1_planOf 2 = .ok (.invokevirtual 28, 3) := by decide +kernel
theorem dX1_planOf_5 : decode cX1_planOf 5 = .ok (.ifCond .eq 12, 3) := by decide +kernel
theorem dX1_planOf_8 : decode cX1_planOf 8 = .ok (.aload_n 0, 1) := by decide +kernel
theorem dX1_planOf_9 : decode cX1_planOf 9 = .ok (.getfield 19, 3) := by decide +kernel
theorem dX1_planOf_12 : decode cX1_planOf 12 = .ok (.iload_n 1, 1) := by decide +kernel
theorem dX1_planOf_13 : decode cX1_planOf 13 = .ok (.iaload, 1) := by decide +kernel
theorem dX1_planOf_14 : decode cX1_planOf 14 = .ok (.goto 4, 3) := by decide +kernel
theorem dX1_planOf_17 : decode cX1_planOf 17 = .ok (.iconst (-1), 1) := by decide +kernel
theorem dX1_planOf_18 : decode cX1_planOf 18 = .ok (.ireturn, 1) := by decide +kernel
theorem dX1_sizeOf_0 : decode cX1_sizeOf 0 = .ok (.aload_n 0, 1) := by decide +kernel
theorem dX1_sizeOf_1 : decode cX1_sizeOf 1 = .ok (.iload_n 1, 1) := by decide +kernel
theorem dX1_sizeOf_2 : decode cX1_sizeOf 2 = .ok (.invokevirtual 28, 3) := by decide +kernel
theorem dX1_sizeOf_5 : decode cX1_sizeOf 5 = .ok (.ifCond .eq 12, 3) := by decide +kernel
theorem dX1_sizeOf_8 : decode cX1_sizeOf 8 = .ok (.aload_n 0, 1) := by decide +kernel
theorem dX1_sizeOf_9 : decode cX1_sizeOf 9 = .ok (.getfield 15, 3) := by decide +kernel
theorem dX1_sizeOf_12 : decode cX1_sizeOf 12 = .ok (.iload_n 1, 1) := by decide +kernel
theorem dX1_sizeOf_13 : decode cX1_sizeOf 13 = .ok (.iaload, 1) := by decide +kernel
theorem dX1_sizeOf_14 : decode cX1_sizeOf 14 = .ok (.goto 4, 3) := by decide +kernel
theorem dX1_sizeOf_17 : decode cX1_sizeOf 17 = .ok (.iconst 0, 1) := by decide +kernel
theorem dX1_sizeOf_18 : decode cX1_sizeOf 18 = .ok (.ireturn, 1) := by decide +kernel
theorem dX4_fail_0 : decode cX4_fail 0 = .ok (.aload_n 0, 1) := by decide +kernel
theorem dX4_fail_1 : decode cX4_fail 1 = .ok (.getfield 21, 3) := by decide +kernel
theorem dX4_fail_4 : decode cX4_fail 4 = .ok (.ifCond .ne 30, 3) := by decide +kernel
theorem dX4_fail_7 : decode cX4_fail 7 = .ok (.aload_n 0, 1) := by decide +kernel
theorem dX4_fail_8 : decode cX4_fail 8 = .ok (.iload_n 1, 1) := by decide +kernel
theorem dX4_fail_9 : decode cX4_fail 9 = .ok (.putfield 21, 3) := by decide +kernel
theorem dX4_fail_12 : decode cX4_fail 12 = .ok (.aload_n 0, 1) := by decide +kernel
theorem dX4_fail_13 : decode cX4_fail 13 = .ok (.iload_n 2, 1) := by decide +kernel
theorem dX4_fail_14 : decode cX4_fail 14 = .ok (.putfield 24, 3) := by decide +kernel
theorem dX4_fail_17 : decode cX4_fail 17 = .ok (.iload_n 1, 1) := by decide +kernel
theorem dX4_fail_18 : decode cX4_fail 18 = .ok (.bipush 14, 2) := by decide +kernel
theorem dX4_fail_20 : decode cX4_fail 20 = .ok (.if_icmp .eq 9, 3) := by decide +kernel
theorem dX4_fail_23 : decode cX4_fail 23 = .ok (.iload_n 1, 1) := by decide +kernel
theorem dX4_fail_24 : decode cX4_fail 24 = .ok (.bipush 15, 2) := by decide +kernel
theorem dX4_fail_26 : decode cX4_fail 26 = .ok (.if_icmp .ne 8, 3) := by decide +kernel
theorem dX4_fail_29 : decode cX4_fail 29 = .ok (.aload_n 0, 1) := by decide +kernel
theorem dX4_fail_30 : decode cX4_fail 30 = .ok (.iconst 0, 1) := by decide +kernel
theorem dX4_fail_31 : decode cX4_fail 31 = .ok (.putfield 31, 3) := by decide +kernel
theorem dX4_fail_34 : decode cX4_fail 34 = .ok (.return_, 1) := by decide +kernel
theorem dX4_isEmptyThere_0 : decode cX4_isEmptyThere 0 = .ok (.aload_n 0, 1) := by decide +kernel
theorem dX4_isEmptyThere_1 : decode cX4_isEmptyThere 1 = .ok (.getfield 37, 3) := by decide +kernel
theorem dX4_isEmptyThere_4 : decode cX4_isEmptyThere 4 = .ok (.iload_n 1, 1) := by decide +kernel
theorem dX4_isEmptyThere_5 : decode cX4_isEmptyThere 5 = .ok (.invokevirtual 125, 3) := by decide +kernel
theorem dX4_isEmptyThere_8 : decode cX4_isEmptyThere 8 = .ok (.istore_n 3, 1) := by decide +kernel
theorem dX4_isEmptyThere_9 : decode cX4_isEmptyThere 9 = .ok (.iload_n 3, 1) := by decide +kernel
theorem dX4_isEmptyThere_10 : decode cX4_isEmptyThere 10 = .ok (.iconst (-1), 1) := by decide +kernel
theorem dX4_isEmptyThere_11 : decode cX4_isEmptyThere 11 = .ok (.if_icmp .eq 15, 3) := by decide +kernel
theorem dX4_isEmptyThere_14 : decode cX4_isEmptyThere 14 = .ok (.iload_n 2, 1) := by decide +kernel
theorem dX4_isEmptyThere_15 : decode cX4_isEmptyThere 15 = .ok (.iload_n 3, 1) := by decide +kernel
theorem dX4_isEmptyThere_16 : decode cX4_isEmptyThere 16 = .ok (.iadd, 1) := by decide +kernel
theorem dX4_isEmptyThere_17 : decode cX4_isEmptyThere 17 = .ok (.bipush 31, 2) := by decide +kernel
theorem dX4_isEmptyThere_19 : decode cX4_isEmptyThere 19 = .ok (.if_icmp .ge 7, 3) := by decide +kernel
theorem dX4_isEmptyThere_22 : decode cX4_isEmptyThere 22 = .ok (.iconst 1, 1) := by decide +kernel
theorem dX4_isEmptyThere_23 : decode cX4_isEmptyThere 23 = .ok (.goto 4, 3) := by decide +kernel
theorem dX4_isEmptyThere_26 : decode cX4_isEmptyThere 26 = .ok (.iconst 0, 1) := by decide +kernel
theorem dX4_isEmptyThere_27 : decode cX4_isEmptyThere 27 = .ok (.ireturn, 1) := by decide +kernel
theorem dX4_step_0 : decode cX4_step 0 = .ok (.aload_n 0, 1) := by decide +kernel
theorem dX4_step_1 : decode cX4_step 1 = .ok (.getfield 31, 3) := by decide +kernel
theorem dX4_step_4 : decode cX4_step 4 = .ok (.ifCond .lt 22, 3) := by decide +kernel
theorem dX4_step_7 : decode cX4_step 7 = .ok (.aload_n 0, 1) := by decide +kernel
theorem dX4_step_8 : decode cX4_step 8 = .ok (.getfield 31, 3) := by decide +kernel
theorem dX4_step_11 : decode cX4_step 11 = .ok (.bipush 64, 2) := by decide +kernel
theorem dX4_step_13 : decode cX4_step 13 = .ok (.if_icmp .ge 13, 3) := by decide +kernel
theorem dX4_step_16 : decode cX4_step 16 = .ok (.aload_n 0, 1) := by decide +kernel
theorem dX4_step_17 : decode cX4_step 17 = .ok (.getfield 27, 3) := by decide +kernel
theorem dX4_step_20 : decode cX4_step 20 = .ok (.aload_n 0, 1) := by decide +kernel
theorem dX4_step_21 : decode cX4_step 21 = .ok (.getfield 31, 3) := by decide +kernel
theorem dX4_step_24 : decode cX4_step 24 = .ok (.iload_n 1, 1) := by decide +kernel
theorem dX4_step_25 : decode cX4_step 25 = .ok (.iastore, 1) := by decide +kernel
theorem dX4_step_26 : decode cX4_step 26 = .ok (.aload_n 0, 1) := by decide +kernel
theorem dX4_step_27 : decode cX4_step 27 = .ok (.dup, 1) := by decide +kernel
theorem dX4_step_28 : decode cX4_step 28 = .ok (.getfield 31, 3) := by decide +kernel
theorem dX4_step_31 : decode cX4_step 31 = .ok (.iconst 1, 1) := by decide +kernel
theorem dX4_step_32 : decode cX4_step 32 = .ok (.iadd, 1) := by decide +kernel
theorem dX4_step_33 : decode cX4_step 33 = .ok (.putfield 31, 3) := by decide +kernel
theorem dX4_step_36 : decode cX4_step 36 = .ok (.return_, 1) := by decide +kernel
theorem dX5_emptyHeight_0 : decode cX5_emptyHeight 0 = .ok (.aload_n 0, 1) := by decide +kernel
theorem dX5_emptyHeight_1 : decode cX5_emptyHeight 1 = .ok (.iload_n 1, 1) := by decide +kernel
theorem dX5_emptyHeight_2 : decode cX5_emptyHeight 2 = .ok (.invokevirtual 82, 3) := by decide +kernel
theorem dX5_emptyHeight_5 : decode cX5_emptyHeight 5 = .ok (.ifCond .ne 5, 3) := by decide +kernel
theorem dX5_emptyHeight_8 : decode cX5_emptyHeight 8 = .ok (.iconst 0, 1) := by decide +kernel
theorem dX5_emptyHeight_9 : decode cX5_emptyHeight 9 = .ok (.ireturn, 1) := by decide +kernel
theorem dX5_emptyHeight_10 : decode cX5_emptyHeight 10 = .ok (.aload_n 0, 1) := by decide +kernel
theorem dX5_emptyHeight_11 : decode cX5_emptyHeight 11 = .ok (.iload_n 1, 1) := by decide +kernel
theorem dX5_emptyHeight_12 : decode cX5_emptyHeight 12 = .ok (.invokevirtual 86, 3) := by decide +kernel
theorem dX5_emptyHeight_15 : decode cX5_emptyHeight 15 = .ok (.istore_n 2, 1) := by decide +kernel
theorem dX5_emptyHeight_16 : decode cX5_emptyHeight 16 = .ok (.aload_n 0, 1) := by decide +kernel
theorem dX5_emptyHeight_17 : decode cX5_emptyHeight 17 = .ok (.iload_n 1, 1) := by decide +kernel
theorem dX5_emptyHeight_18 : decode cX5_emptyHeight 18 = .ok (.invokevirtual 82, 3) := by decide +kernel
theorem dX5_emptyHeight_21 : decode cX5_emptyHeight 21 = .ok (.bipush 7, 2) := by decide +kernel
theorem dX5_emptyHeight_23 : decode cX5_emptyHeight 23 = .ok (.if_icmp .ne 19, 3) := by decide +kernel
theorem dX5_emptyHeight_26 : decode cX5_emptyHeight 26 = .ok (.iload_n 2, 1) := by decide +kernel
theorem dX5_emptyHeight_27 : decode cX5_emptyHeight 27 = .ok (.invokestatic 71, 3) := by decide +kernel
theorem dX5_emptyHeight_30 : decode cX5_emptyHeight 30 = .ok (.ifCond .eq 12, 3) := by decide +kernel
theorem dX5_emptyHeight_33 : decode cX5_emptyHeight 33 = .ok (.aload_n 0, 1) := by decide +kernel
theorem dX5_emptyHeight_34 : decode cX5_emptyHeight 34 = .ok (.getfield 35, 3) := by decide +kernel
theorem dX5_emptyHeight_37 : decode cX5_emptyHeight 37 = .ok (.iload_n 2, 1) := by decide +kernel
theorem dX5_emptyHeight_38 : decode cX5_emptyHeight 38 = .ok (.iaload, 1) := by decide +kernel
theorem dX5_emptyHeight_39 : decode cX5_emptyHeight 39 = .ok (.goto 4, 3) := by decide +kernel
theorem dX5_emptyHeight_42 : decode cX5_emptyHeight 42 = .ok (.iconst (-1), 1) := by decide +kernel
theorem dX5_emptyHeight_43 : decode cX5_emptyHeight 43 = .ok (.ireturn, 1) := by decide +kernel
def f_X0_relate_70 (k7 : Int32 → Int32 → Int32 → ST → Option (ST)) (k22 : Int32 → Int32 → Int32 → Int32 → ST → Option (ST)) (x1 : Int32) (x2 : Int32) (x3 : Int32) (x4 : Int32) (σ : ST) : Option (ST) := k22 x1 x2 x3 (x4 + 1) σ
def f_X0_relate_22 (k7 : Int32 → Int32 → Int32 → ST → Option (ST)) : Nat → Int32 → Int32 → Int32 → Int32 → ST → Option (ST)
  | 0, _, _, _, _, _ => none
  | n + 1, x1, x2, x3, x4, σ => (f_X5_recordsOf 4 x2 σ).bind fun q1 => if q1.1 ≤ x4 then (k7 x1 x2 (x3 + 1) q1.2) else ((f_X0_mayPair  ((x1 * 6) + x3) ((x2 * 6) + x4) q1.2).bind fun q3 => if q3.1 = 0 then (f_X0_relate_70 k7 (f_X0_relate_22 k7 n) x1 x2 x3 x4 q3.2) else ((f_X0_bitOf  x3 x4 q3.2).bind fun q5 => f_X0_relate_70 k7 (f_X0_relate_22 k7 n) x1 x2 x3 x4 (stL q5.2 41 4 ((q3.2.2.1 41 4) ||| q5.1))))
def f_X0_relate_186 (k87 : Int32 → Int32 → Int64 → Int32 → ST → Option (ST)) (k111 : Int32 → Int32 → Int64 → Int32 → Int32 → ST → Option (ST)) (k121 : Int32 → Int32 → Int64 → Int32 → Int32 → Int32 → ST → Option (ST)) (x1 : Int32) (x2 : Int32) (x3 : Int64) (x5 : Int32) (x6 : Int32) (x7 : Int32) (σ : ST) : Option (ST) := k121 x1 x2 x3 x5 x6 (x7 + 1) σ
def f_X0_relate_121 (k87 : Int32 → Int32 → Int64 → Int32 → ST → Option (ST)) (k111 : Int32 → Int32 → Int64 → Int32 → Int32 → ST → Option (ST)) : Nat → Int32 → Int32 → Int64 → Int32 → Int32 → Int32 → ST → Option (ST)
  | 0, _, _, _, _, _, _, _ => none
  | n + 1, x1, x2, x3, x5, x6, x7, σ => if 6 ≤ x7 then (k111 x1 x2 x3 x5 (x6 + 1) σ) else ((f_X0_bitOf  x6 x7 σ).bind fun q1 => if (lg_cmp ((σ.2.1 41 4) &&& q1.1) 0) = 0 then (f_X0_relate_186 k87 k111 (f_X0_relate_121 k87 k111 n) x1 x2 x3 x5 x6 x7 q1.2) else ((f_X0_fieldsFit  ((x1 * 6) + x6) ((x2 * 6) + x7) q1.2).bind fun q3 => if q3.1 = 0 then ((f_X0_bitOf  x6 x7 q3.2).bind fun q5 => f_X0_relate_186 k87 k111 (f_X0_relate_121 k87 k111 n) x1 x2 x3 x5 x6 x7 (stL q5.2 41 4 ((q3.2.2.1 41 4) &&& (q5.1 ^^^ (-1))))) else (f_X0_relate_186 k87 k111 (f_X0_relate_121 k87 k111 n) x1 x2 x3 x5 x6 x7 q3.2)))
def f_X0_relate_111 (k87 : Int32 → Int32 → Int64 → Int32 → ST → Option (ST)) : Nat → Int32 → Int32 → Int64 → Int32 → Int32 → ST → Option (ST)
  | 0, _, _, _, _, _, _ => none
  | n + 1, x1, x2, x3, x5, x6, σ => if 6 ≤ x6 then (k87 x1 x2 x3 (x5 + 1) σ) else (f_X0_relate_121 k87 (f_X0_relate_111 k87 n) FU x1 x2 x3 x5 x6 0 σ)
def f_X0_relate_87  : Nat → Int32 → Int32 → Int64 → Int32 → ST → Option (ST)
  | 0, _, _, _, _, _ => none
  | n + 1, x1, x2, x3, x5, σ => if 36 < x5 then (some σ) else (if (lg_cmp (σ.2.1 41 4) x3) = 0 then (some σ) else (f_X0_relate_111 (f_X0_relate_87  n) FU x1 x2 (σ.2.1 41 4) x5 0 σ))
def f_X0_relate_7  : Nat → Int32 → Int32 → Int32 → ST → Option (ST)
  | 0, _, _, _, _ => none
  | n + 1, x1, x2, x3, σ => (f_X5_recordsOf 4 x1 σ).bind fun q1 => if q1.1 ≤ x3 then (f_X0_relate_87  FU x1 x2 0 0 q1.2) else (f_X0_relate_22 (f_X0_relate_7  n) FU x1 x2 x3 0 q1.2)
def f_X0_relate (p0 : Int32) (p1 : Int32) (σ : ST) : Option (ST) := f_X0_relate_7  FU p0 p1 0 (stL σ 41 4 0)

set_option maxRecDepth 100000 in
set_option maxHeartbeats 4000000 in
theorem b_X0_relate_70 {p : Program} {l : Launch} {e : Env} {s : State} {m : MethodId} {args : Array Value} {below : List Frame} {meth : Method} {c : Code} {dC : Nat → ClassId} {dI : Nat → Nat → Nat} {a : Nat → Nat} {k : Nat → ClassId} {A : Nat → Prop} {q : ST} (hC : CxA p s m args meth c dC dI k A cX0_relate RX0 none 8)  {k7 : Int32 → Int32 → Int32 → ST → Option (ST)} (hk7 : ∀ (x1 : Int32) (x2 : Int32) (x3 : Int32) (σ : ST), k7 x1 x2 x3 σ = some q → GoA p l e ({ frames := 164, cells := 0, slots := 0, locals := 4415 } : Room) s m args below meth c (MQ below (qAv dC dI a k A q) args s 0 0 A) dC dI a k A 8 7 σ [(0, .ref (a 41)), (1, .int x1), (2, .int x2), (3, .int x3)] []) {k22 : Int32 → Int32 → Int32 → Int32 → ST → Option (ST)} (hk22 : ∀ (x1 : Int32) (x2 : Int32) (x3 : Int32) (x4 : Int32) (σ : ST), k22 x1 x2 x3 x4 σ = some q → GoA p l e ({ frames := 164, cells := 0, slots := 0, locals := 4415 } : Room) s m args below meth c (MQ below (qAv dC dI a k A q) args s 0 0 A) dC dI a k A 8 22 σ [(0, .ref (a 41)), (1, .int x1), (2, .int x2), (3, .int x3), (4, .int x4)] []) {x1 : Int32} {x2 : Int32} {x3 : Int32} {x4 : Int32} {σ : ST} (h : f_X0_relate_70 k7 k22 x1 x2 x3 x4 σ = some q) : GoA p l e ({ frames := 164, cells := 0, slots := 0, locals := 4415 } : Room) s m args below meth c (MQ below (qAv dC dI a k A q) args s 0 0 A) dC dI a k A 8 70 σ [(0, .ref (a 41)), (1, .int x1), (2, .int x2), (3, .int x3), (4, .int x4)] [] := by
  have hC0 := hC
  obtain ⟨hx, hb, hr, hml, hown, hts, hlocks, hA, hN, hK⟩ := hC0
  intro H locs ls hP hD hS hl
  have hD0 : ∀ σ1 : ST, va_D A (wA a k σ1) := fun σ1 => wA_D hD
  unfold f_X0_relate_70 at h
  refine lv_iinc (v := (x4 + 1)) (lv' := [(4, .int (x4 + 1)), (0, .ref (a 41)), (1, .int x1), (2, .int x2), (3, .int x3)]) hx hb dX0_relate_70 hl (k := 4) rfl rfl (by decide) rfl (fun ls hl => ?_)
  refine lv_goto (tgt := 22) hx hb dX0_relate_73 (by decide) ?_
  exact hk22 _ _ _ _ _ h _ _ _ hP hD hS (lv_sub hl [1, 2, 3, 4, 0] rfl)

set_option maxRecDepth 100000 in
set_option maxHeartbeats 4000000 in
theorem b_X0_relate_22 {p : Program} {l : Launch} {e : Env} {s : State} {m : MethodId} {args : Array Value} {below : List Frame} {meth : Method} {c : Code} {dC : Nat → ClassId} {dI : Nat → Nat → Nat} {a : Nat → Nat} {k : Nat → ClassId} {A : Nat → Prop} {q : ST} (hC : CxA p s m args meth c dC dI k A cX0_relate RX0 none 8)  {k7 : Int32 → Int32 → Int32 → ST → Option (ST)} (hk7 : ∀ (x1 : Int32) (x2 : Int32) (x3 : Int32) (σ : ST), k7 x1 x2 x3 σ = some q → GoA p l e ({ frames := 164, cells := 0, slots := 0, locals := 4415 } : Room) s m args below meth c (MQ below (qAv dC dI a k A q) args s 0 0 A) dC dI a k A 8 7 σ [(0, .ref (a 41)), (1, .int x1), (2, .int x2), (3, .int x3)] []) : ∀ (n : Nat) (x1 : Int32) (x2 : Int32) (x3 : Int32) (x4 : Int32) (σ : ST), f_X0_relate_22 k7 n x1 x2 x3 x4 σ = some q → GoA p l e ({ frames := 164, cells := 0, slots := 0, locals := 4415 } : Room) s m args below meth c (MQ below (qAv dC dI a k A q) args s 0 0 A) dC dI a k A 8 22 σ [(0, .ref (a 41)), (1, .int x1), (2, .int x2), (3, .int x3), (4, .int x4)] [] := by
  intro n
  induction n with
  | zero =>
    intro x1 x2 x3 x4 σ h
    rw [f_X0_relate_22] at h
    cases h
  | succ n ih =>
    intro x1 x2 x3 x4 σ h
    have hC0 := hC
    obtain ⟨hx, hb, hr, hml, hown, hts, hlocks, hA, hN, hK⟩ := hC0
    intro H locs ls hP hD hS hl
    have hD0 : ∀ σ1 : ST, va_D A (wA a k σ1) := fun σ1 => wA_D hD
    rw [f_X0_relate_22] at h
    refine lv_iload hx hb dX0_relate_22 (lv_at hl 4 rfl) ?_
    refine lv_aload_n hx hb dX0_relate_24 rfl (lv_at hl 0 rfl) ?_
    refine va_get (D := (dC, dI)) (ci := 0) (C := RX0) (T := TX0) (N := 13) hx hb hts inlX0 hown hK hP 41 gA_41 rfl 0 (by decide) (hts (.fieldLink RX0 51 "ShapeReader$Matcher" "shapes" "LShapeReader$Shapes;") mw_1_0) (fun _ h9 => h9) rfl dX0_relate_25 ?_
    refine lv_iload_n hx hb dX0_relate_28 rfl (lv_at hl 2 rfl) ?_
    obtain ⟨q1, hc, h⟩ := ib h
    have hF := va_frees hD hS hA
    refine va_calli (va_runV (As := [.int x2]) (rest := [.int x4]) ⟨hx, hb, hml, hown, hts⟩ (s_X5_recordsOf_4 hc) (cwV 1 hts (gV mw_1_12 mw_1_13 mw_1_14 mw_0_9 mw_49_27) rfl rfl rfl (by decide +kernel) ⟨(Nat.le_of_ble_eq_true rfl), (Nat.le_of_ble_eq_true rfl)⟩) (vV (ci := 5) (q0 := 4) hK hP hD hN rfl gA_4) rfl rfl hl.1 rfl (lv_room (Nat.le_of_ble_eq_true rfl)) dX0_relate_29 ⟨(Nat.le_of_ble_eq_true rfl), (Nat.le_of_ble_eq_true rfl)⟩) hS (fun q _ h => hF q h) hF (fun r2 u t H locs ht hvm hw hB _ _ hS => ?_)
    obtain rfl : r2 = q1.1 := hw
    replace hP : va_P (dC, dI) vwCl (wA a k q1.2) H := by rw [← ht]; exact hB.1
    replace hD := hD0 (q1.2)
    clear hB hF
    refine lv_icmp_ge (tgt := 76) hx hb dX0_relate_32 (by decide) (fun hc => ?_) (fun hc => ?_)
    · replace h := ip hc h
      refine lv_iinc (v := (x3 + 1)) (lv' := [(3, .int (x3 + 1)), (0, .ref (a 41)), (1, .int x1), (2, .int x2), (4, .int x4)]) hx hb dX0_relate_76 hl (k := 3) rfl rfl (by decide) rfl (fun ls hl => ?_)
      refine lv_goto (tgt := 7) hx hb dX0_relate_79 (by decide) ?_
      exact hk7 _ _ _ _ h _ _ _ hP hD hS (lv_sub hl [1, 2, 3, 0] rfl)
    · replace h := iq hc h
      refine lv_aload_n hx hb dX0_relate_35 rfl (lv_at hl 0 rfl) ?_
      refine lv_iload_n hx hb dX0_relate_36 rfl (lv_at hl 1 rfl) ?_
      refine lv_bipush (v := 6) hx hb dX0_relate_37 (by decide) ?_
      refine lv_imul hx hb dX0_relate_39 ?_
      refine lv_iload_n hx hb dX0_relate_40 rfl (lv_at hl 3 rfl) ?_
      refine lv_iadd hx hb dX0_relate_41 ?_
      refine lv_iload_n hx hb dX0_relate_42 rfl (lv_at hl 2 rfl) ?_
      refine lv_bipush (v := 6) hx hb dX0_relate_43 (by decide) ?_
      refine lv_imul hx hb dX0_relate_45 ?_
      refine lv_iload hx hb dX0_relate_46 (lv_at hl 4 rfl) ?_
      refine lv_iadd hx hb dX0_relate_48 ?_
      obtain ⟨q3, hc, h⟩ := ib h
      have hF := va_frees hD hS hA
      refine va_calli (va_runV (As := [.int ((x1 * 6) + x3), .int ((x2 * 6) + x4)]) (rest := []) ⟨hx, hb, hml, hown, hts⟩ (s_X0_mayPair hc) (cwV 2 hts (gV mw_1_15 mw_1_16 mw_1_17 mw_0_4 mw_47_7) rfl rfl rfl (by decide +kernel) ⟨(Nat.le_of_ble_eq_true rfl), (Nat.le_of_ble_eq_true rfl)⟩) (vV (ci := 0) (q0 := 41) hK hP hD hN rfl gA_41) rfl rfl hl.1 rfl (lv_room (Nat.le_of_ble_eq_true rfl)) dX0_relate_49 ⟨(Nat.le_of_ble_eq_true rfl), (Nat.le_of_ble_eq_true rfl)⟩) hS (fun q _ h => hF q h) hF (fun r4 u t H locs ht hvm hw hB _ _ hS => ?_)
      obtain rfl : r4 = q3.1 := hw
      replace hP : va_P (dC, dI) vwCl (wA a k q3.2) H := by rw [← ht]; exact hB.1
      replace hD := hD0 (q3.2)
      clear hB hF
      refine lv_if_eq (tgt := 70) hx hb dX0_relate_52 (by decide) (fun hc => ?_) (fun hc => ?_)
      · replace h := ip hc h
        exact b_X0_relate_70 hC hk7 ih h _ _ _ hP hD hS (lv_sub hl [0, 1, 2, 3, 4] rfl)
      · replace h := iq hc h
        refine lv_aload_n hx hb dX0_relate_55 rfl (lv_at hl 0 rfl) ?_
        refine lv_dup hx hb dX0_relate_56 rfl ?_
        refine va_get (D := (dC, dI)) (ci := 0) (C := RX0) (T := TX0) (N := 13) hx hb hts inlX0 hown hK hP 41 gA_41 rfl 4 (by decide) (hts (.fieldLink RX0 23 "ShapeReader$Matcher" "relation" "J") mw_0_21) (fun _ h9 => h9) rfl dX0_relate_57 ?_
        refine lv_iload_n hx hb dX0_relate_60 rfl (lv_at hl 3 rfl) ?_
        refine lv_iload hx hb dX0_relate_61 (lv_at hl 4 rfl) ?_
        obtain ⟨q5, hc, h⟩ := ib h
        have hF := va_frees hD hS hA
        refine va_calll (va_runS (As := [.int x3, .int x4]) (rest := [.long (q3.2.2.1 41 4), .ref (a 41)]) ⟨hx, hb, hml, hown, hts⟩ (s_X0_bitOf hc) (va_cwS 2 hts (gS mw_1_18 mw_1_19 mw_0_4 mw_47_4) rfl rfl rfl (by decide +kernel) ⟨(Nat.le_of_ble_eq_true rfl), (Nat.le_of_ble_eq_true rfl)⟩) (vS hK hP hD hN) rfl rfl hl.1 rfl (lv_room (Nat.le_of_ble_eq_true rfl)) dX0_relate_63 ⟨(Nat.le_of_ble_eq_true rfl), (Nat.le_of_ble_eq_true rfl)⟩) hS (fun q _ h => hF q h) hF (fun r6 u t H locs ht hvm hw hB _ _ hS => ?_)
        obtain rfl : r6 = q5.1 := hw
        replace hP : va_P (dC, dI) vwCl (wA a k q5.2) H := by rw [← ht]; exact hB.1
        replace hD := hD0 (q5.2)
        clear hB hF
        refine lv_lor hx hb dX0_relate_66 ?_
        refine va_put (D := (dC, dI)) (ci := 0) (ty := .long) (C := RX0) (T := TX0) (N := 13) hx hb hts inlX0 tyX0 tyX0_ok nmX0 hown hK hP hD hS 41 gA_41 rfl 4 (by decide) (hts (.fieldLink RX0 23 "ShapeReader$Matcher" "relation" "J") mw_0_21) (fun _ h9 => h9) rfl (by decide +kernel) rfl rfl (Nat.le_of_ble_eq_true rfl) dX0_relate_67 (fun H locs hP hD hS => ?_)
        replace hP := uA_41_4 hP
        replace hD := hD0 ((stL q5.2 41 4 ((q3.2.2.1 41 4) ||| q5.1)))
        exact b_X0_relate_70 hC hk7 ih h _ _ _ hP hD hS (lv_sub hl [0, 1, 2, 3, 4] rfl)

set_option maxRecDepth 100000 in
set_option maxHeartbeats 4000000 in
theorem b_X0_relate_186 {p : Program} {l : Launch} {e : Env} {s : State} {m : MethodId} {args : Array Value} {below : List Frame} {meth : Method} {c : Code} {dC : Nat → ClassId} {dI : Nat → Nat → Nat} {a : Nat → Nat} {k : Nat → ClassId} {A : Nat → Prop} {q : ST} (hC : CxA p s m args meth c dC dI k A cX0_relate RX0 none 8)  {k87 : Int32 → Int32 → Int64 → Int32 → ST → Option (ST)} (hk87 : ∀ (x1 : Int32) (x2 : Int32) (x3 : Int64) (x5 : Int32) (σ : ST), k87 x1 x2 x3 x5 σ = some q → GoA p l e ({ frames := 164, cells := 0, slots := 0, locals := 4415 } : Room) s m args below meth c (MQ below (qAv dC dI a k A q) args s 0 0 A) dC dI a k A 8 87 σ [(0, .ref (a 41)), (1, .int x1), (2, .int x2), (3, .long x3), (5, .int x5)] []) {k111 : Int32 → Int32 → Int64 → Int32 → Int32 → ST → Option (ST)} (hk111 : ∀ (x1 : Int32) (x2 : Int32) (x3 : Int64) (x5 : Int32) (x6 : Int32) (σ : ST), k111 x1 x2 x3 x5 x6 σ = some q → GoA p l e ({ frames := 164, cells := 0, slots := 0, locals := 4415 } : Room) s m args below meth c (MQ below (qAv dC dI a k A q) args s 0 0 A) dC dI a k A 8 111 σ [(0, .ref (a 41)), (1, .int x1), (2, .int x2), (3, .long x3), (5, .int x5), (6, .int x6)] []) {k121 : Int32 → Int32 → Int64 → Int32 → Int32 → Int32 → ST → Option (ST)} (hk121 : ∀ (x1 : Int32) (x2 : Int32) (x3 : Int64) (x5 : Int32) (x6 : Int32) (x7 : Int32) (σ : ST), k121 x1 x2 x3 x5 x6 x7 σ = some q → GoA p l e ({ frames := 164, cells := 0, slots := 0, locals := 4415 } : Room) s m args below meth c (MQ below (qAv dC dI a k A q) args s 0 0 A) dC dI a k A 8 121 σ [(0, .ref (a 41)), (1, .int x1), (2, .int x2), (3, .long x3), (5, .int x5), (6, .int x6), (7, .int x7)] []) {x1 : Int32} {x2 : Int32} {x3 : Int64} {x5 : Int32} {x6 : Int32} {x7 : Int32} {σ : ST} (h : f_X0_relate_186 k87 k111 k121 x1 x2 x3 x5 x6 x7 σ = some q) : GoA p l e ({ frames := 164, cells := 0, slots := 0, locals := 4415 } : Room) s m args below meth c (MQ below (qAv dC dI a k A q) args s 0 0 A) dC dI a k A 8 186 σ [(0, .ref (a 41)), (1, .int x1), (2, .int x2), (3, .long x3), (5, .int x5), (6, .int x6), (7, .int x7)] [] := by
  have hC0 := hC
  obtain ⟨hx, hb, hr, hml, hown, hts, hlocks, hA, hN, hK⟩ := hC0
  intro H locs ls hP hD hS hl
  have hD0 : ∀ σ1 : ST, va_D A (wA a k σ1) := fun σ1 => wA_D hD
  unfold f_X0_relate_186 at h
  refine lv_iinc (v := (x7 + 1)) (lv' := [(7, .int (x7 + 1)), (0, .ref (a 41)), (1, .int x1), (2, .int x2), (3, .long x3), (5, .int x5), (6, .int x6)]) hx hb dX0_relate_186 hl (k := 6) rfl rfl (by decide) rfl (fun ls hl => ?_)
  refine lv_goto (tgt := 121) hx hb dX0_relate_189 (by decide) ?_
  exact hk121 _ _ _ _ _ _ _ h _ _ _ hP hD hS (lv_sub hl [1, 2, 3, 4, 5, 6, 0] rfl)

set_option maxRecDepth 100000 in
set_option maxHeartbeats 4000000 in
theorem b_X0_relate_121 {p : Program} {l : Launch} {e : Env} {s : State} {m : MethodId} {args : Array Value} {below : List Frame} {meth : Method} {c : Code} {dC : Nat → ClassId} {dI : Nat → Nat → Nat} {a : Nat → Nat} {k : Nat → ClassId} {A : Nat → Prop} {q : ST} (hC : CxA p s m args meth c dC dI k A cX0_relate RX0 none 8)  {k87 : Int32 → Int32 → Int64 → Int32 → ST → Option (ST)} (hk87 : ∀ (x1 : Int32) (x2 : Int32) (x3 : Int64) (x5 : Int32) (σ : ST), k87 x1 x2 x3 x5 σ = some q → GoA p l e ({ frames := 164, cells := 0, slots := 0, locals := 4415 } : Room) s m args below meth c (MQ below (qAv dC dI a k A q) args s 0 0 A) dC dI a k A 8 87 σ [(0, .ref (a 41)), (1, .int x1), (2, .int x2), (3, .long x3), (5, .int x5)] []) {k111 : Int32 → Int32 → Int64 → Int32 → Int32 → ST → Option (ST)} (hk111 : ∀ (x1 : Int32) (x2 : Int32) (x3 : Int64) (x5 : Int32) (x6 : Int32) (σ : ST), k111 x1 x2 x3 x5 x6 σ = some q → GoA p l e ({ frames := 164, cells := 0, slots := 0, locals := 4415 } : Room) s m args below meth c (MQ below (qAv dC dI a k A q) args s 0 0 A) dC dI a k A 8 111 σ [(0, .ref (a 41)), (1, .int x1), (2, .int x2), (3, .long x3), (5, .int x5), (6, .int x6)] []) : ∀ (n : Nat) (x1 : Int32) (x2 : Int32) (x3 : Int64) (x5 : Int32) (x6 : Int32) (x7 : Int32) (σ : ST), f_X0_relate_121 k87 k111 n x1 x2 x3 x5 x6 x7 σ = some q → GoA p l e ({ frames := 164, cells := 0, slots := 0, locals := 4415 } : Room) s m args below meth c (MQ below (qAv dC dI a k A q) args s 0 0 A) dC dI a k A 8 121 σ [(0, .ref (a 41)), (1, .int x1), (2, .int x2), (3, .long x3), (5, .int x5), (6, .int x6), (7, .int x7)] [] := by
  intro n
  induction n with
  | zero =>
    intro x1 x2 x3 x5 x6 x7 σ h
    rw [f_X0_relate_121] at h
    cases h
  | succ n ih =>
    intro x1 x2 x3 x5 x6 x7 σ h
    have hC0 := hC
    obtain ⟨hx, hb, hr, hml, hown, hts, hlocks, hA, hN, hK⟩ := hC0
    intro H locs ls hP hD hS hl
    have hD0 : ∀ σ1 : ST, va_D A (wA a k σ1) := fun σ1 => wA_D hD
    rw [f_X0_relate_121] at h
    refine lv_iload hx hb dX0_relate_121 (lv_at hl 6 rfl) ?_
    refine lv_bipush (v := 6) hx hb dX0_relate_123 (by decide) ?_
    refine lv_icmp_ge (tgt := 192) hx hb dX0_relate_125 (by decide) (fun hc => ?_) (fun hc => ?_)
    · replace h := ip hc h
      refine lv_iinc (v := (x6 + 1)) (lv' := [(6, .int (x6 + 1)), (0, .ref (a 41)), (1, .int x1), (2, .int x2), (3, .long x3), (5, .int x5), (7, .int x7)]) hx hb dX0_relate_192 hl (k := 5) rfl rfl (by decide) rfl (fun ls hl => ?_)
      refine lv_goto (tgt := 111) hx hb dX0_relate_195 (by decide) ?_
      exact hk111 _ _ _ _ _ _ h _ _ _ hP hD hS (lv_sub hl [1, 2, 3, 4, 5, 0] rfl)
    · replace h := iq hc h
      refine lv_aload_n hx hb dX0_relate_128 rfl (lv_at hl 0 rfl) ?_
      refine va_get (D := (dC, dI)) (ci := 0) (C := RX0) (T := TX0) (N := 13) hx hb hts inlX0 hown hK hP 41 gA_41 rfl 4 (by decide) (hts (.fieldLink RX0 23 "ShapeReader$Matcher" "relation" "J") mw_0_21) (fun _ h9 => h9) rfl dX0_relate_129 ?_
      refine lv_iload hx hb dX0_relate_132 (lv_at hl 5 rfl) ?_
      refine lv_iload hx hb dX0_relate_134 (lv_at hl 6 rfl) ?_
      obtain ⟨q1, hc, h⟩ := ib h
      have hF := va_frees hD hS hA
      refine va_calll (va_runS (As := [.int x6, .int x7]) (rest := [.long (σ.2.1 41 4)]) ⟨hx, hb, hml, hown, hts⟩ (s_X0_bitOf hc) (va_cwS 2 hts (gS mw_1_18 mw_1_19 mw_0_4 mw_47_4) rfl rfl rfl (by decide +kernel) ⟨(Nat.le_of_ble_eq_true rfl), (Nat.le_of_ble_eq_true rfl)⟩) (vS hK hP hD hN) rfl rfl hl.1 rfl (lv_room (Nat.le_of_ble_eq_true rfl)) dX0_relate_136 ⟨(Nat.le_of_ble_eq_true rfl), (Nat.le_of_ble_eq_true rfl)⟩) hS (fun q _ h => hF q h) hF (fun r2 u t H locs ht hvm hw hB _ _ hS => ?_)
      obtain rfl : r2 = q1.1 := hw
      replace hP : va_P (dC, dI) vwCl (wA a k q1.2) H := by rw [← ht]; exact hB.1
      replace hD := hD0 (q1.2)
      clear hB hF
      refine lv_land hx hb dX0_relate_139 ?_
      refine lv_lconst (v := 0) hx hb dX0_relate_140 (by decide) ?_
      refine W.lcmp hx hb dX0_relate_141 ?_
      refine lv_if_eq (tgt := 186) hx hb dX0_relate_142 (by decide) (fun hc => ?_) (fun hc => ?_)
      · replace h := ip hc h
        exact b_X0_relate_186 hC hk87 hk111 ih h _ _ _ hP hD hS (lv_sub hl [0, 1, 2, 3, 4, 5, 6] rfl)
      · replace h := iq hc h
        refine lv_aload_n hx hb dX0_relate_145 rfl (lv_at hl 0 rfl) ?_
        refine lv_iload_n hx hb dX0_relate_146 rfl (lv_at hl 1 rfl) ?_
        refine lv_bipush (v := 6) hx hb dX0_relate_147 (by decide) ?_
        refine lv_imul hx hb dX0_relate_149 ?_
        refine lv_iload hx hb dX0_relate_150 (lv_at hl 5 rfl) ?_
        refine lv_iadd hx hb dX0_relate_152 ?_
        refine lv_iload_n hx hb dX0_relate_153 rfl (lv_at hl 2 rfl) ?_
        refine lv_bipush (v := 6) hx hb dX0_relate_154 (by decide) ?_
        refine lv_imul hx hb dX0_relate_156 ?_
        refine lv_iload hx hb dX0_relate_157 (lv_at hl 6 rfl) ?_
        refine lv_iadd hx hb dX0_relate_159 ?_
        obtain ⟨q3, hc, h⟩ := ib h
        have hF := va_frees hD hS hA
        refine va_calli (va_runV (As := [.int ((x1 * 6) + x6), .int ((x2 * 6) + x7)]) (rest := []) ⟨hx, hb, hml, hown, hts⟩ (s_X0_fieldsFit hc) (cwV 2 hts (gV mw_1_20 mw_1_21 mw_1_22 mw_0_4 mw_47_8) rfl rfl rfl (by decide +kernel) ⟨(Nat.le_of_ble_eq_true rfl), (Nat.le_of_ble_eq_true rfl)⟩) (vV (ci := 0) (q0 := 41) hK hP hD hN rfl gA_41) rfl rfl hl.1 rfl (lv_room (Nat.le_of_ble_eq_true rfl)) dX0_relate_160 ⟨(Nat.le_of_ble_eq_true rfl), (Nat.le_of_ble_eq_true rfl)⟩) hS (fun q _ h => hF q h) hF (fun r4 u t H locs ht hvm hw hB _ _ hS => ?_)
        obtain rfl : r4 = q3.1 := hw
        replace hP : va_P (dC, dI) vwCl (wA a k q3.2) H := by rw [← ht]; exact hB.1
        replace hD := hD0 (q3.2)
        clear hB hF
        refine lv_if_ne (tgt := 186) hx hb dX0_relate_163 (by decide) (fun hc => ?_) (fun hc => ?_)
        · replace h := iq hc h
          exact b_X0_relate_186 hC hk87 hk111 ih h _ _ _ hP hD hS (lv_sub hl [0, 1, 2, 3, 4, 5, 6] rfl)
        · replace h := ip hc h
          refine lv_aload_n hx hb dX0_relate_166 rfl (lv_at hl 0 rfl) ?_
          refine lv_dup hx hb dX0_relate_167 rfl ?_
          refine va_get (D := (dC, dI)) (ci := 0) (C := RX0) (T := TX0) (N := 13) hx hb hts inlX0 hown hK hP 41 gA_41 rfl 4 (by decide) (hts (.fieldLink RX0 23 "ShapeReader$Matcher" "relation" "J") mw_0_21) (fun _ h9 => h9) rfl dX0_relate_168 ?_
          refine lv_iload hx hb dX0_relate_171 (lv_at hl 5 rfl) ?_
          refine lv_iload hx hb dX0_relate_173 (lv_at hl 6 rfl) ?_
          obtain ⟨q5, hc, h⟩ := ib h
          have hF := va_frees hD hS hA
          refine va_calll (va_runS (As := [.int x6, .int x7]) (rest := [.long (q3.2.2.1 41 4), .ref (a 41)]) ⟨hx, hb, hml, hown, hts⟩ (s_X0_bitOf hc) (va_cwS 2 hts (gS mw_1_18 mw_1_19 mw_0_4 mw_47_4) rfl rfl rfl (by decide +kernel) ⟨(Nat.le_of_ble_eq_true rfl), (Nat.le_of_ble_eq_true rfl)⟩) (vS hK hP hD hN) rfl rfl hl.1 rfl (lv_room (Nat.le_of_ble_eq_true rfl)) dX0_relate_175 ⟨(Nat.le_of_ble_eq_true rfl), (Nat.le_of_ble_eq_true rfl)⟩) hS (fun q _ h => hF q h) hF (fun r6 u t H locs ht hvm hw hB _ _ hS => ?_)
          obtain rfl : r6 = q5.1 := hw
          replace hP : va_P (dC, dI) vwCl (wA a k q5.2) H := by rw [← ht]; exact hB.1
          replace hD := hD0 (q5.2)
          clear hB hF
          refine lv_ldc2 (v := (-1)) hx hb hown (hts (.constantLong RX0 91 (-1)) mw_1_23) dX0_relate_178 ?_
          refine lv_lxor hx hb dX0_relate_181 ?_
          refine lv_land hx hb dX0_relate_182 ?_
          refine va_put (D := (dC, dI)) (ci := 0) (ty := .long) (C := RX0) (T := TX0) (N := 13) hx hb hts inlX0 tyX0 tyX0_ok nmX0 hown hK hP hD hS 41 gA_41 rfl 4 (by decide) (hts (.fieldLink RX0 23 "ShapeReader$Matcher" "relation" "J") mw_0_21) (fun _ h9 => h9) rfl (by decide +kernel) rfl rfl (Nat.le_of_ble_eq_true rfl) dX0_relate_183 (fun H locs hP hD hS => ?_)
          replace hP := uA_41_4 hP
          replace hD := hD0 ((stL q5.2 41 4 ((q3.2.2.1 41 4) &&& (q5.1 ^^^ (-1)))))
          exact b_X0_relate_186 hC hk87 hk111 ih h _ _ _ hP hD hS (lv_sub hl [0, 1, 2, 3, 4, 5, 6] rfl)

set_option maxRecDepth 100000 in
set_option maxHeartbeats 4000000 in
theorem b_X0_relate_111 {p : Program} {l : Launch} {e : Env} {s : State} {m : MethodId} {args : Array Value} {below : List Frame} {meth : Method} {c : Code} {dC : Nat → ClassId} {dI : Nat → Nat → Nat} {a : Nat → Nat} {k : Nat → ClassId} {A : Nat → Prop} {q : ST} (hC : CxA p s m args meth c dC dI k A cX0_relate RX0 none 8)  {k87 : Int32 → Int32 → Int64 → Int32 → ST → Option (ST)} (hk87 : ∀ (x1 : Int32) (x2 : Int32) (x3 : Int64) (x5 : Int32) (σ : ST), k87 x1 x2 x3 x5 σ = some q → GoA p l e ({ frames := 164, cells := 0, slots := 0, locals := 4415 } : Room) s m args below meth c (MQ below (qAv dC dI a k A q) args s 0 0 A) dC dI a k A 8 87 σ [(0, .ref (a 41)), (1, .int x1), (2, .int x2), (3, .long x3), (5, .int x5)] []) : ∀ (n : Nat) (x1 : Int32) (x2 : Int32) (x3 : Int64) (x5 : Int32) (x6 : Int32) (σ : ST), f_X0_relate_111 k87 n x1 x2 x3 x5 x6 σ = some q → GoA p l e ({ frames := 164, cells := 0, slots := 0, locals := 4415 } : Room) s m args below meth c (MQ below (qAv dC dI a k A q) args s 0 0 A) dC dI a k A 8 111 σ [(0, .ref (a 41)), (1, .int x1), (2, .int x2), (3, .long x3), (5, .int x5), (6, .int x6)] [] := by
  intro n
  induction n with
  | zero =>
    intro x1 x2 x3 x5 x6 σ h
    rw [f_X0_relate_111] at h
    cases h
  | succ n ih =>
    intro x1 x2 x3 x5 x6 σ h
    have hC0 := hC
    obtain ⟨hx, hb, hr, hml, hown, hts, hlocks, hA, hN, hK⟩ := hC0
    intro H locs ls hP hD hS hl
    have hD0 : ∀ σ1 : ST, va_D A (wA a k σ1) := fun σ1 => wA_D hD
    rw [f_X0_relate_111] at h
    refine lv_iload hx hb dX0_relate_111 (lv_at hl 5 rfl) ?_
    refine lv_bipush (v := 6) hx hb dX0_relate_113 (by decide) ?_
    refine lv_icmp_ge (tgt := 198) hx hb dX0_relate_115 (by decide) (fun hc => ?_) (fun hc => ?_)
    · replace h := ip hc h
      refine lv_iinc (v := (x5 + 1)) (lv' := [(5, .int (x5 + 1)), (0, .ref (a 41)), (1, .int x1), (2, .int x2), (3, .long x3), (6, .int x6)]) hx hb dX0_relate_198 hl (k := 4) rfl rfl (by decide) rfl (fun ls hl => ?_)
      refine lv_goto (tgt := 87) hx hb dX0_relate_201 (by decide) ?_
      exact hk87 _ _ _ _ _ h _ _ _ hP hD hS (lv_sub hl [1, 2, 3, 4, 0] rfl)
    · replace h := iq hc h
      refine lv_iconst (v := 0) hx hb dX0_relate_118 (by decide) ?_
      refine lv_istore (lv' := [(7, .int 0), (0, .ref (a 41)), (1, .int x1), (2, .int x2), (3, .long x3), (5, .int x5), (6, .int x6)]) hx hb dX0_relate_119 hl (by decide) rfl (fun ls hl => ?_)
      exact b_X0_relate_121 hC hk87 ih FU _ _ _ _ _ _ _ h _ _ _ hP hD hS (lv_sub hl [1, 2, 3, 4, 5, 6, 0] rfl)

set_option maxRecDepth 100000 in
set_option maxHeartbeats 4000000 in
theorem b_X0_relate_87 {p : Program} {l : Launch} {e : Env} {s : State} {m : MethodId} {args : Array Value} {below : List Frame} {meth : Method} {c : Code} {dC : Nat → ClassId} {dI : Nat → Nat → Nat} {a : Nat → Nat} {k : Nat → ClassId} {A : Nat → Prop} {q : ST} (hC : CxA p s m args meth c dC dI k A cX0_relate RX0 none 8)   : ∀ (n : Nat) (x1 : Int32) (x2 : Int32) (x3 : Int64) (x5 : Int32) (σ : ST), f_X0_relate_87  n x1 x2 x3 x5 σ = some q → GoA p l e ({ frames := 164, cells := 0, slots := 0, locals := 4415 } : Room) s m args below meth c (MQ below (qAv dC dI a k A q) args s 0 0 A) dC dI a k A 8 87 σ [(0, .ref (a 41)), (1, .int x1), (2, .int x2), (3, .long x3), (5, .int x5)] [] := by
  intro n
  induction n with
  | zero =>
    intro x1 x2 x3 x5 σ h
    rw [f_X0_relate_87] at h
    cases h
  | succ n ih =>
    intro x1 x2 x3 x5 σ h
    have hC0 := hC
    obtain ⟨hx, hb, hr, hml, hown, hts, hlocks, hA, hN, hK⟩ := hC0
    intro H locs ls hP hD hS hl
    have hD0 : ∀ σ1 : ST, va_D A (wA a k σ1) := fun σ1 => wA_D hD
    rw [f_X0_relate_87] at h
    refine lv_iload hx hb dX0_relate_87 (lv_at hl 4 rfl) ?_
    refine lv_bipush (v := 36) hx hb dX0_relate_89 (by decide) ?_
    refine lv_icmp_gt (tgt := 204) hx hb dX0_relate_91 (by decide) (fun hc => ?_) (fun hc => ?_)
    · replace h := ip hc h
      obtain rfl := Option.some.inj h
      exact W.vret hx hb hr (fun t ht hW => ⟨⟨(), rfl, trivial, ⟨by rw [ht]; exact hP, va_K.moved hW.alike hK, hD⟩⟩, hS.F ht⟩) hS.2.2 dX0_relate_204
    · replace h := iq hc h
      refine lv_aload_n hx hb dX0_relate_94 rfl (lv_at hl 0 rfl) ?_
      refine va_get (D := (dC, dI)) (ci := 0) (C := RX0) (T := TX0) (N := 13) hx hb hts inlX0 hown hK hP 41 gA_41 rfl 4 (by decide) (hts (.fieldLink RX0 23 "ShapeReader$Matcher" "relation" "J") mw_0_21) (fun _ h9 => h9) rfl dX0_relate_95 ?_
      refine lv_lload_n hx hb dX0_relate_98 rfl (lv_at hl 3 rfl) ?_
      refine W.lcmp hx hb dX0_relate_99 ?_
      refine lv_if_eq (tgt := 204) hx hb dX0_relate_100 (by decide) (fun hc => ?_) (fun hc => ?_)
      · replace h := ip hc h
        obtain rfl := Option.some.inj h
        exact W.vret hx hb hr (fun t ht hW => ⟨⟨(), rfl, trivial, ⟨by rw [ht]; exact hP, va_K.moved hW.alike hK, hD⟩⟩, hS.F ht⟩) hS.2.2 dX0_relate_204
      · replace h := iq hc h
        refine lv_aload_n hx hb dX0_relate_103 rfl (lv_at hl 0 rfl) ?_
        refine va_get (D := (dC, dI)) (ci := 0) (C := RX0) (T := TX0) (N := 13) hx hb hts inlX0 hown hK hP 41 gA_41 rfl 4 (by decide) (hts (.fieldLink RX0 23 "ShapeReader$Matcher" "relation" "J") mw_0_21) (fun _ h9 => h9) rfl dX0_relate_104 ?_
        refine lv_lstore_n (lv' := [(3, .long (σ.2.1 41 4)), (0, .ref (a 41)), (1, .int x1), (2, .int x2), (5, .int x5)]) hx hb dX0_relate_107 rfl hl (by decide) rfl (fun ls hl => ?_)
        refine lv_iconst (v := 0) hx hb dX0_relate_108 (by decide) ?_
        refine lv_istore (lv' := [(6, .int 0), (3, .long (σ.2.1 41 4)), (0, .ref (a 41)), (1, .int x1), (2, .int x2), (5, .int x5)]) hx hb dX0_relate_109 hl (by decide) rfl (fun ls hl => ?_)
        exact b_X0_relate_111 hC ih FU _ _ _ _ _ _ h _ _ _ hP hD hS (lv_sub hl [2, 3, 4, 1, 5, 0] rfl)

set_option maxRecDepth 100000 in
set_option maxHeartbeats 4000000 in
theorem b_X0_relate_7 {p : Program} {l : Launch} {e : Env} {s : State} {m : MethodId} {args : Array Value} {below : List Frame} {meth : Method} {c : Code} {dC : Nat → ClassId} {dI : Nat → Nat → Nat} {a : Nat → Nat} {k : Nat → ClassId} {A : Nat → Prop} {q : ST} (hC : CxA p s m args meth c dC dI k A cX0_relate RX0 none 8)   : ∀ (n : Nat) (x1 : Int32) (x2 : Int32) (x3 : Int32) (σ : ST), f_X0_relate_7  n x1 x2 x3 σ = some q → GoA p l e ({ frames := 164, cells := 0, slots := 0, locals := 4415 } : Room) s m args below meth c (MQ below (qAv dC dI a k A q) args s 0 0 A) dC dI a k A 8 7 σ [(0, .ref (a 41)), (1, .int x1), (2, .int x2), (3, .int x3)] [] := by
  intro n
  induction n with
  | zero =>
    intro x1 x2 x3 σ h
    rw [f_X0_relate_7] at h
    cases h
  | succ n ih =>
    intro x1 x2 x3 σ h
    have hC0 := hC
    obtain ⟨hx, hb, hr, hml, hown, hts, hlocks, hA, hN, hK⟩ := hC0
    intro H locs ls hP hD hS hl
    have hD0 : ∀ σ1 : ST, va_D A (wA a k σ1) := fun σ1 => wA_D hD
    rw [f_X0_relate_7] at h
    refine lv_iload_n hx hb dX0_relate_7 rfl (lv_at hl 3 rfl) ?_
    refine lv_aload_n hx hb dX0_relate_8 rfl (lv_at hl 0 rfl) ?_
    refine va_get (D := (dC, dI)) (ci := 0) (C := RX0) (T := TX0) (N := 13) hx hb hts inlX0 hown hK hP 41 gA_41 rfl 0 (by decide) (hts (.fieldLink RX0 51 "ShapeReader$Matcher" "shapes" "LShapeReader$Shapes;") mw_1_0) (fun _ h9 => h9) rfl dX0_relate_9 ?_
    refine lv_iload_n hx hb dX0_relate_12 rfl (lv_at hl 1 rfl) ?_
    obtain ⟨q1, hc, h⟩ := ib h
    have hF := va_frees hD hS hA
    refine va_calli (va_runV (As := [.int x1]) (rest := [.int x3]) ⟨hx, hb, hml, hown, hts⟩ (s_X5_recordsOf_4 hc) (cwV 1 hts (gV mw_1_12 mw_1_13 mw_1_14 mw_0_9 mw_49_27) rfl rfl rfl (by decide +kernel) ⟨(Nat.le_of_ble_eq_true rfl), (Nat.le_of_ble_eq_true rfl)⟩) (vV (ci := 5) (q0 := 4) hK hP hD hN rfl gA_4) rfl rfl hl.1 rfl (lv_room (Nat.le_of_ble_eq_true rfl)) dX0_relate_13 ⟨(Nat.le_of_ble_eq_true rfl), (Nat.le_of_ble_eq_true rfl)⟩) hS (fun q _ h => hF q h) hF (fun r2 u t H locs ht hvm hw hB _ _ hS => ?_)
    obtain rfl : r2 = q1.1 := hw
    replace hP : va_P (dC, dI) vwCl (wA a k q1.2) H := by rw [← ht]; exact hB.1
    replace hD := hD0 (q1.2)
    clear hB hF
    refine lv_icmp_ge (tgt := 82) hx hb dX0_relate_16 (by decide) (fun hc => ?_) (fun hc => ?_)
    · replace h := ip hc h
      refine lv_lconst (v := 0) hx hb dX0_relate_82 (by decide) ?_
      refine lv_lstore_n (lv' := [(3, .long 0), (0, .ref (a 41)), (1, .int x1), (2, .int x2)]) hx hb dX0_relate_83 rfl hl (by decide) rfl (fun ls hl => ?_)
      refine lv_iconst (v := 0) hx hb dX0_relate_84 (by decide) ?_
      refine lv_istore (lv' := [(5, .int 0), (3, .long 0), (0, .ref (a 41)), (1, .int x1), (2, .int x2)]) hx hb dX0_relate_85 hl (by decide) rfl (fun ls hl => ?_)
      exact b_X0_relate_87 hC FU _ _ _ _ _ h _ _ _ hP hD hS (lv_sub hl [2, 3, 4, 1, 0] rfl)
    · replace h := iq hc h
      refine lv_iconst (v := 0) hx hb dX0_relate_19 (by decide) ?_
      refine lv_istore (lv' := [(4, .int 0), (0, .ref (a 41)), (1, .int x1), (2, .int x2), (3, .int x3)]) hx hb dX0_relate_20 hl (by decide) rfl (fun ls hl => ?_)
      exact b_X0_relate_22 hC ih FU _ _ _ _ _ h _ _ _ hP hD hS (lv_sub hl [1, 2, 3, 4, 0] rfl)

set_option maxRecDepth 100000 in
set_option maxHeartbeats 4000000 in
theorem b_X0_relate_e {p : Program} {l : Launch} {e : Env} {s : State} {m : MethodId} {args : Array Value} {below : List Frame} {meth : Method} {c : Code} {dC : Nat → ClassId} {dI : Nat → Nat → Nat} {a : Nat → Nat} {k : Nat → ClassId} {A : Nat → Prop} {q : ST} (hC : CxA p s m args meth c dC dI k A cX0_relate RX0 none 8)   {p0 : Int32} {p1 : Int32} {σ : ST} (h : f_X0_relate  p0 p1 σ = some q) : GoA p l e ({ frames := 164, cells := 0, slots := 0, locals := 4415 } : Room) s m args below meth c (MQ below (qAv dC dI a k A q) args s 0 0 A) dC dI a k A 8 0 σ (lv_args 0 [.ref (a 41), .int p0, .int p1]) [] := by
  have hC0 := hC
  obtain ⟨hx, hb, hr, hml, hown, hts, hlocks, hA, hN, hK⟩ := hC0
  intro H locs ls hP hD hS hl
  have hD0 : ∀ σ1 : ST, va_D A (wA a k σ1) := fun σ1 => wA_D hD
  replace hl : lv_has ls 8 [(0, .ref (a 41)), (1, .int p0), (2, .int p1)] := hl
  unfold f_X0_relate at h
  refine lv_aload_n hx hb dX0_relate_0 rfl (lv_at hl 0 rfl) ?_
  refine lv_lconst (v := 0) hx hb dX0_relate_1 (by decide) ?_
  refine va_put (D := (dC, dI)) (ci := 0) (ty := .long) (C := RX0) (T := TX0) (N := 13) hx hb hts inlX0 tyX0 tyX0_ok nmX0 hown hK hP hD hS 41 gA_41 rfl 4 (by decide) (hts (.fieldLink RX0 23 "ShapeReader$Matcher" "relation" "J") mw_0_21) (fun _ h9 => h9) rfl (by decide +kernel) rfl rfl (Nat.le_of_ble_eq_true rfl) dX0_relate_2 (fun H locs hP hD hS => ?_)
  replace hP := uA_41_4 hP
  replace hD := hD0 ((stL σ 41 4 0))
  refine lv_iconst (v := 0) hx hb dX0_relate_5 (by decide) ?_
  refine lv_istore_n (lv' := [(3, .int 0), (0, .ref (a 41)), (1, .int p0), (2, .int p1)]) hx hb dX0_relate_6 rfl hl (by decide) rfl (fun ls hl => ?_)
  exact b_X0_relate_7 hC FU _ _ _ _ h _ _ _ hP hD hS (lv_sub hl [1, 2, 3, 0] rfl)

theorem s_X0_relate {l : Launch} {dC : Nat → ClassId} {dI : Nat → Nat → Nat} {a : Nat → Nat} {k : Nat → ClassId} {sz : Nat} {p0 : Int32} {p1 : Int32} {σ : ST} {q : ST} (h : f_X0_relate  p0 p1 σ = some q) : Met l yX0_relate (.code yX0_relate cX0_relate 8 none :: pw) ({ frames := 164, cells := 0, slots := 0, locals := 4415 } : Room) (va_Pc [.ref (a 41), .int p0, .int p1] (vPre dC dI (wA a k σ) (tA k) sz)) (qAv dC dI a k (va_A (wA a k σ) sz) q) 0 0 (va_A (wA a k σ) sz) := metA (fun A => qAv dC dI a k A q) (plainFor_of_name (by decide)) (Nat.le_of_ble_eq_true rfl) (fun _ _ _ _ _ _ _ _ hC => b_X0_relate_e hC h)

def f_X0_turnTo_47 (x3 : Int32) (σ : ST) : Option (ST) := if 0 ≤ x3.toInt ∧ x3.toInt < 36 then (some (stL σ 41 4 (σ.2.1 42 x3.toNatClampNeg))) else none
def f_X0_turnTo (p0 : Int32) (p1 : Int32) (σ : ST) : Option (ST) := (f_X0_pairOf  p0 p1 σ).bind fun q1 => if (lg_cmp (((q1.2.2.1 41 2) >>> (q1.1.toInt64 &&& 63)) &&& 1) 0) = 0 then ((f_X0_relate  p0 p1 q1.2).bind fun q3 => if 0 ≤ q1.1.toInt ∧ q1.1.toInt < 36 then ((some (stL (stL q3 42 q1.1.toNatClampNeg (q3.2.1 41 4)) 41 2 (((stL q3 42 q1.1.toNatClampNeg (q3.2.1 41 4)).2.1 41 2) ||| ((1 : Int64) <<< (q1.1.toInt64 &&& 63))))).bind fun z6 => f_X0_turnTo_47  q1.1 z6) else none) else (f_X0_turnTo_47  q1.1 q1.2)

set_option maxRecDepth 100000 in
set_option maxHeartbeats 4000000 in
theorem b_X0_turnTo_47 {p : Program} {l : Launch} {e : Env} {s : State} {m : MethodId} {args : Array Value} {below : List Frame} {meth : Method} {c : Code} {dC : Nat → ClassId} {dI : Nat → Nat → Nat} {a : Nat → Nat} {k : Nat → ClassId} {A : Nat → Prop} {q : ST} (hC : CxA p s m args meth c dC dI k A cX0_turnTo RX0 none 4)   {x3 : Int32} {σ : ST} (h : f_X0_turnTo_47  x3 σ = some q) : GoA p l e ({ frames := 165, cells := 0, slots := 0, locals := 4442 } : Room) s m args below meth c (MQ below (qAv dC dI a k A q) args s 0 0 A) dC dI a k A 4 47 σ [(0, .ref (a 41)), (3, .int x3)] [] := by
  have hC0 := hC
  obtain ⟨hx, hb, hr, hml, hown, hts, hlocks, hA, hN, hK⟩ := hC0
  intro H locs ls hP hD hS hl
  have hD0 : ∀ σ1 : ST, va_D A (wA a k σ1) := fun σ1 => wA_D hD
  unfold f_X0_turnTo_47 at h
  refine lv_aload_n hx hb dX0_turnTo_47 rfl (lv_at hl 0 rfl) ?_
  refine lv_aload_n hx hb dX0_turnTo_48 rfl (lv_at hl 0 rfl) ?_
  refine va_get (D := (dC, dI)) (ci := 0) (C := RX0) (T := TX0) (N := 13) hx hb hts inlX0 hown hK hP 41 gA_41 rfl 1 (by decide) (hts (.fieldLink RX0 9 "ShapeReader$Matcher" "relations" "[J") mw_0_18) (fun _ h9 => h9) rfl dX0_turnTo_49 ?_
  refine lv_iload_n hx hb dX0_turnTo_52 rfl (lv_at hl 1 rfl) ?_
  obtain ⟨hg1, h⟩ := ig h
  refine va_lald hx hb hK hP 42 35 gA_42 yA_42 (vp_in_iff.mpr hg1) dX0_turnTo_53 ?_
  refine va_put (D := (dC, dI)) (ci := 0) (ty := .long) (C := RX0) (T := TX0) (N := 13) hx hb hts inlX0 tyX0 tyX0_ok nmX0 hown hK hP hD hS 41 gA_41 rfl 4 (by decide) (hts (.fieldLink RX0 23 "ShapeReader$Matcher" "relation" "J") mw_0_21) (fun _ h9 => h9) rfl (by decide +kernel) rfl rfl (Nat.le_of_ble_eq_true rfl) dX0_turnTo_54 (fun H locs hP hD hS => ?_)
  replace hP := uA_41_4 hP
  replace hD := hD0 ((stL σ 41 4 (σ.2.1 42 x3.toNatClampNeg)))
  obtain rfl := Option.some.inj h
  exact W.vret hx hb hr (fun t ht hW => ⟨⟨(), rfl, trivial, ⟨by rw [ht]; exact hP, va_K.moved hW.alike hK, hD⟩⟩, hS.F ht⟩) hS.2.2 dX0_turnTo_57

set_option maxRecDepth 100000 in
set_option maxHeartbeats 4000000 in
theorem b_X0_turnTo_e {p : Program} {l : Launch} {e : Env} {s : State} {m : MethodId} {args : Array Value} {below : List Frame} {meth : Method} {c : Code} {dC : Nat → ClassId} {dI : Nat → Nat → Nat} {a : Nat → Nat} {k : Nat → ClassId} {A : Nat → Prop} {q : ST} (hC : CxA p s m args meth c dC dI k A cX0_turnTo RX0 none 4)   {p0 : Int32} {p1 : Int32} {σ : ST} (h : f_X0_turnTo  p0 p1 σ = some q) : GoA p l e ({ frames := 165, cells := 0, slots := 0, locals := 4442 } : Room) s m args below meth c (MQ below (qAv dC dI a k A q) args s 0 0 A) dC dI a k A 4 0 σ (lv_args 0 [.ref (a 41), .int p0, .int p1]) [] := by
  have hC0 := hC
  obtain ⟨hx, hb, hr, hml, hown, hts, hlocks, hA, hN, hK⟩ := hC0
  intro H locs ls hP hD hS hl
  have hD0 : ∀ σ1 : ST, va_D A (wA a k σ1) := fun σ1 => wA_D hD
  replace hl : lv_has ls 4 [(0, .ref (a 41)), (1, .int p0), (2, .int p1)] := hl
  unfold f_X0_turnTo at h
  refine lv_iload_n hx hb dX0_turnTo_0 rfl (lv_at hl 1 rfl) ?_
  refine lv_iload_n hx hb dX0_turnTo_1 rfl (lv_at hl 2 rfl) ?_
  obtain ⟨q1, hc, h⟩ := ib h
  have hF := va_frees hD hS hA
  refine va_calli (va_runS (As := [.int p0, .int p1]) (rest := []) ⟨hx, hb, hml, hown, hts⟩ (s_X0_pairOf hc) (va_cwS 2 hts (gS mw_1_7 mw_1_8 mw_0_4 mw_47_3) rfl rfl rfl (by decide +kernel) ⟨(Nat.le_of_ble_eq_true rfl), (Nat.le_of_ble_eq_true rfl)⟩) (vS hK hP hD hN) rfl rfl hl.1 rfl (lv_room (Nat.le_of_ble_eq_true rfl)) dX0_turnTo_2 ⟨(Nat.le_of_ble_eq_true rfl), (Nat.le_of_ble_eq_true rfl)⟩) hS (fun q _ h => hF q h) hF (fun r2 u t H locs ht hvm hw hB _ _ hS => ?_)
  obtain rfl : r2 = q1.1 := hw
  replace hP : va_P (dC, dI) vwCl (wA a k q1.2) H := by rw [← ht]; exact hB.1
  replace hD := hD0 (q1.2)
  clear hB hF
  refine lv_istore_n (lv' := [(3, .int q1.1), (0, .ref (a 41)), (1, .int p0), (2, .int p1)]) hx hb dX0_turnTo_5 rfl hl (by decide) rfl (fun ls hl => ?_)
  refine lv_aload_n hx hb dX0_turnTo_6 rfl (lv_at hl 1 rfl) ?_
  refine va_get (D := (dC, dI)) (ci := 0) (C := RX0) (T := TX0) (N := 13) hx hb hts inlX0 hown hK hP 41 gA_41 rfl 2 (by decide) (hts (.fieldLink RX0 15 "ShapeReader$Matcher" "related" "J") mw_0_19) (fun _ h9 => h9) rfl dX0_turnTo_7 ?_
  refine lv_iload_n hx hb dX0_turnTo_10 rfl (lv_at hl 0 rfl) ?_
  refine lv_lshr (v := ((q1.2.2.1 41 2) >>> (q1.1.toInt64 &&& 63))) hx hb dX0_turnTo_11 rfl ?_
  refine lv_lconst (v := 1) hx hb dX0_turnTo_12 (by decide) ?_
  refine lv_land hx hb dX0_turnTo_13 ?_
  refine lv_lconst (v := 0) hx hb dX0_turnTo_14 (by decide) ?_
  refine W.lcmp hx hb dX0_turnTo_15 ?_
  refine lv_if_ne (tgt := 47) hx hb dX0_turnTo_16 (by decide) (fun hc => ?_) (fun hc => ?_)
  · replace h := iq hc h
    exact b_X0_turnTo_47 hC h _ _ _ hP hD hS (lv_sub hl [1, 0] rfl)
  · replace h := ip hc h
    refine lv_aload_n hx hb dX0_turnTo_19 rfl (lv_at hl 1 rfl) ?_
    refine lv_iload_n hx hb dX0_turnTo_20 rfl (lv_at hl 2 rfl) ?_
    refine lv_iload_n hx hb dX0_turnTo_21 rfl (lv_at hl 3 rfl) ?_
    obtain ⟨q3, hc, h⟩ := ib h
    have hF := va_frees hD hS hA
    refine va_callv (va_runV (As := [.int p0, .int p1]) (rest := []) ⟨hx, hb, hml, hown, hts⟩ (s_X0_relate hc) (cwV 2 hts (gV mw_1_9 mw_1_10 mw_1_11 mw_0_4 mw_47_6) rfl rfl rfl (by decide +kernel) ⟨(Nat.le_of_ble_eq_true rfl), (Nat.le_of_ble_eq_true rfl)⟩) (vV (ci := 0) (q0 := 41) hK hP hD hN rfl gA_41) rfl rfl hl.1 rfl (lv_room (Nat.le_of_ble_eq_true rfl)) dX0_turnTo_22 ⟨(Nat.le_of_ble_eq_true rfl), (Nat.le_of_ble_eq_true rfl)⟩) hS (fun q _ h => hF q h) hF (fun u t H locs ht hvm hw hB _ _ hS => ?_)
    replace hP : va_P (dC, dI) vwCl (wA a k q3) H := by rw [← ht]; exact hB.1
    replace hD := hD0 (q3)
    clear hB hF
    refine lv_aload_n hx hb dX0_turnTo_25 rfl (lv_at hl 1 rfl) ?_
    refine va_get (D := (dC, dI)) (ci := 0) (C := RX0) (T := TX0) (N := 13) hx hb hts inlX0 hown hK hP 41 gA_41 rfl 1 (by decide) (hts (.fieldLink RX0 9 "ShapeReader$Matcher" "relations" "[J") mw_0_18) (fun _ h9 => h9) rfl dX0_turnTo_26 ?_
    refine lv_iload_n hx hb dX0_turnTo_29 rfl (lv_at hl 0 rfl) ?_
    refine lv_aload_n hx hb dX0_turnTo_30 rfl (lv_at hl 1 rfl) ?_
    refine va_get (D := (dC, dI)) (ci := 0) (C := RX0) (T := TX0) (N := 13) hx hb hts inlX0 hown hK hP 41 gA_41 rfl 4 (by decide) (hts (.fieldLink RX0 23 "ShapeReader$Matcher" "relation" "J") mw_0_21) (fun _ h9 => h9) rfl dX0_turnTo_31 ?_
    obtain ⟨hg5, h⟩ := ig h
    refine va_last hx hb hK hP hD hS 42 35 gA_42 yA_42 (vp_in_iff.mpr hg5) dX0_turnTo_34 (fun H locs hP hD hS => ?_)
    replace hP := uA_42 hP
    replace hD := hD0 ((stL q3 42 q1.1.toNatClampNeg (q3.2.1 41 4)))
    refine lv_aload_n hx hb dX0_turnTo_35 rfl (lv_at hl 1 rfl) ?_
    refine lv_dup hx hb dX0_turnTo_36 rfl ?_
    refine va_get (D := (dC, dI)) (ci := 0) (C := RX0) (T := TX0) (N := 13) hx hb hts inlX0 hown hK hP 41 gA_41 rfl 2 (by decide) (hts (.fieldLink RX0 15 "ShapeReader$Matcher" "related" "J") mw_0_19) (fun _ h9 => h9) rfl dX0_turnTo_37 ?_
    refine lv_lconst (v := 1) hx hb dX0_turnTo_40 (by decide) ?_
    refine lv_iload_n hx hb dX0_turnTo_41 rfl (lv_at hl 0 rfl) ?_
    refine lv_lshl (v := ((1 : Int64) <<< (q1.1.toInt64 &&& 63))) hx hb dX0_turnTo_42 rfl ?_
    refine lv_lor hx hb dX0_turnTo_43 ?_
    refine va_put (D := (dC, dI)) (ci := 0) (ty := .long) (C := RX0) (T := TX0) (N := 13) hx hb hts inlX0 tyX0 tyX0_ok nmX0 hown hK hP hD hS 41 gA_41 rfl 2 (by decide) (hts (.fieldLink RX0 15 "ShapeReader$Matcher" "related" "J") mw_0_19) (fun _ h9 => h9) rfl (by decide +kernel) rfl rfl (Nat.le_of_ble_eq_true rfl) dX0_turnTo_44 (fun H locs hP hD hS => ?_)
    replace hP := uA_41_2 hP
    replace hD := hD0 ((stL (stL q3 42 q1.1.toNatClampNeg (q3.2.1 41 4)) 41 2 (((stL q3 42 q1.1.toNatClampNeg (q3.2.1 41 4)).2.1 41 2) ||| ((1 : Int64) <<< (q1.1.toInt64 &&& 63)))))
    obtain ⟨z6, hs, h⟩ := ib h
    replace hs := Option.some.inj hs
    replace hP : va_P (dC, dI) vwCl (wA a k z6) H := by rw [← hs]; exact hP
    replace hD := hD0 z6
    clear hs
    exact b_X0_turnTo_47 hC h _ _ _ hP hD hS (lv_sub hl [1, 0] rfl)

theorem s_X0_turnTo {l : Launch} {dC : Nat → ClassId} {dI : Nat → Nat → Nat} {a : Nat → Nat} {k : Nat → ClassId} {sz : Nat} {p0 : Int32} {p1 : Int32} {σ : ST} {q : ST} (h : f_X0_turnTo  p0 p1 σ = some q) : Met l yX0_turnTo (.code yX0_turnTo cX0_turnTo 4 none :: pw) ({ frames := 165, cells := 0, slots := 0, locals := 4442 } : Room) (va_Pc [.ref (a 41), .int p0, .int p1] (vPre dC dI (wA a k σ) (tA k) sz)) (qAv dC dI a k (va_A (wA a k σ) sz) q) 0 0 (va_A (wA a k σ) sz) := metA (fun A => qAv dC dI a k A q) (plainFor_of_name (by decide)) (Nat.le_of_ble_eq_true rfl) (fun _ _ _ _ _ _ _ _ hC => b_X0_turnTo_e hC h)

def f_X0_findMisses (p0 : Int32) (p1 : Int32) (σ : ST) : Option (ST) := (f_X0_turnTo  p0 p1 σ).bind fun q1 => (f_X0_collectMisses  p0 p1 q1).bind fun q3 => some q3

set_option maxRecDepth 100000 in
set_option maxHeartbeats 4000000 in
theorem b_X0_findMisses_e {p : Program} {l : Launch} {e : Env} {s : State} {m : MethodId} {args : Array Value} {below : List Frame} {meth : Method} {c : Code} {dC : Nat → ClassId} {dI : Nat → Nat → Nat} {a : Nat → Nat} {k : Nat → ClassId} {A : Nat → Prop} {q : ST} (hC : CxA p s m args meth c dC dI k A cX0_findMisses RX0 none 3)   {p0 : Int32} {p1 : Int32} {σ : ST} (h : f_X0_findMisses  p0 p1 σ = some q) : GoA p l e ({ frames := 326, cells := 0, slots := 0, locals := 8943 } : Room) s m args below meth c (MQ below (qAv dC dI a k A q) args s 0 0 A) dC dI a k A 3 0 σ (lv_args 0 [.ref (a 41), .int p0, .int p1]) [] := by
  have hC0 := hC
  obtain ⟨hx, hb, hr, hml, hown, hts, hlocks, hA, hN, hK⟩ := hC0
  intro H locs ls hP hD hS hl
  have hD0 : ∀ σ1 : ST, va_D A (wA a k σ1) := fun σ1 => wA_D hD
  replace hl : lv_has ls 3 [(0, .ref (a 41)), (1, .int p0), (2, .int p1)] := hl
  unfold f_X0_findMisses at h
  refine lv_aload_n hx hb dX0_findMisses_0 rfl (lv_at hl 0 rfl) ?_
  refine lv_iload_n hx hb dX0_findMisses_1 rfl (lv_at hl 1 rfl) ?_
  refine lv_iload_n hx hb dX0_findMisses_2 rfl (lv_at hl 2 rfl) ?_
  obtain ⟨q1, hc, h⟩ := ib h
  have hF := va_frees hD hS hA
  refine va_callv (va_runV (As := [.int p0, .int p1]) (rest := []) ⟨hx, hb, hml, hown, hts⟩ (s_X0_turnTo hc) (cwV 2 hts (gV mw_2_26 mw_2_27 mw_2_28 mw_0_4 mw_47_5) rfl rfl rfl (by decide +kernel) ⟨(Nat.le_of_ble_eq_true rfl), (Nat.le_of_ble_eq_true rfl)⟩) (vV (ci := 0) (q0 := 41) hK hP hD hN rfl gA_41) rfl rfl hl.1 rfl (lv_room (Nat.le_of_ble_eq_true rfl)) dX0_findMisses_3 ⟨(Nat.le_of_ble_eq_true rfl), (Nat.le_of_ble_eq_true rfl)⟩) hS (fun q _ h => hF q h) hF (fun u t H locs ht hvm hw hB _ _ hS => ?_)
  replace hP : va_P (dC, dI) vwCl (wA a k q1) H := by rw [← ht]; exact hB.1
  replace hD := hD0 (q1)
  clear hB hF
  refine lv_aload_n hx hb dX0_findMisses_6 rfl (lv_at hl 0 rfl) ?_
  refine lv_iload_n hx hb dX0_findMisses_7 rfl (lv_at hl 1 rfl) ?_
  refine lv_iload_n hx hb dX0_findMisses_8 rfl (lv_at hl 2 rfl) ?_
  obtain ⟨q3, hc, h⟩ := ib h
  have hF := va_frees hD hS hA
  refine va_callv (va_runV (As := [.int p0, .int p1]) (rest := []) ⟨hx, hb, hml, hown, hts⟩ (s_X0_collectMisses hc) (cwV 2 hts (gV mw_2_29 mw_3_0 mw_3_1 mw_0_4 mw_47_17) rfl rfl rfl (by decide +kernel) ⟨(Nat.le_of_ble_eq_true rfl), (Nat.le_of_ble_eq_true rfl)⟩) (vV (ci := 0) (q0 := 41) hK hP hD hN rfl gA_41) rfl rfl hl.1 rfl (lv_room (Nat.le_of_ble_eq_true rfl)) dX0_findMisses_9 ⟨(Nat.le_of_ble_eq_true rfl), (Nat.le_of_ble_eq_true rfl)⟩) hS (fun q _ h => hF q h) hF (fun u t H locs ht hvm hw hB _ _ hS => ?_)
  replace hP : va_P (dC, dI) vwCl (wA a k q3) H := by rw [← ht]; exact hB.1
  replace hD := hD0 (q3)
  clear hB hF
  obtain rfl := Option.some.inj h
  exact W.vret hx hb hr (fun t ht hW => ⟨⟨(), rfl, trivial, ⟨by rw [ht]; exact hP, va_K.moved hW.alike hK, hD⟩⟩, hS.F ht⟩) hS.2.2 dX0_findMisses_12

theorem s_X0_findMisses {l : Launch} {dC : Nat → ClassId} {dI : Nat → Nat → Nat} {a : Nat → Nat} {k : Nat → ClassId} {sz : Nat} {p0 : Int32} {p1 : Int32} {σ : ST} {q : ST} (h : f_X0_findMisses  p0 p1 σ = some q) : Met l yX0_findMisses (.code yX0_findMisses cX0_findMisses 3 none :: pw) ({ frames := 326, cells := 0, slots := 0, locals := 8943 } : Room) (va_Pc [.ref (a 41), .int p0, .int p1] (vPre dC dI (wA a k σ) (tA k) sz)) (qAv dC dI a k (va_A (wA a k σ) sz) q) 0 0 (va_A (wA a k σ) sz) := metA (fun A => qAv dC dI a k A q) (plainFor_of_name (by decide)) (Nat.le_of_ble_eq_true rfl) (fun _ _ _ _ _ _ _ _ hC => b_X0_findMisses_e hC h)

def f_X0_isMiss (p0 : Int32) (σ : ST) : Option (Int32 × ST) := if p0 < 0 then (some (0, σ)) else (if (σ.1 41 6) ≤ p0 then (some (0, σ)) else (if 20 ≤ p0 then (some (0, σ)) else (some (1, σ))))

set_option maxRecDepth 100000 in
set_option maxHeartbeats 4000000 in
theorem b_X0_isMiss_e {p : Program} {l : Launch} {e : Env} {s : State} {m : MethodId} {args : Array Value} {below : List Frame} {meth : Method} {c : Code} {dC : Nat → ClassId} {dI : Nat → Nat → Nat} {a : Nat → Nat} {k : Nat → ClassId} {A : Nat → Prop} {q : Int32 × ST} (hC : CxA p s m args meth c dC dI k A cX0_isMiss RX0 (some .boolean) 2)   {p0 : Int32} {σ : ST} (h : f_X0_isMiss  p0 σ = some q) : GoA p l e ({ frames := 0, cells := 0, slots := 0, locals := 0 } : Room) s m args below meth c (MQ below (qAi dC dI a k A q) args s 0 0 A) dC dI a k A 2 0 σ (lv_args 0 [.ref (a 41), .int p0]) [] := by
  have hC0 := hC
  obtain ⟨hx, hb, hr, hml, hown, hts, hlocks, hA, hN, hK⟩ := hC0
  intro H locs ls hP hD hS hl
  have hD0 : ∀ σ1 : ST, va_D A (wA a k σ1) := fun σ1 => wA_D hD
  replace hl : lv_has ls 2 [(0, .ref (a 41)), (1, .int p0)] := hl
  unfold f_X0_isMiss at h
  refine lv_iload_n hx hb dX0_isMiss_0 rfl (lv_at hl 1 rfl) ?_
  refine lv_if_lt (tgt := 22) hx hb dX0_isMiss_1 (by decide) (fun hc => ?_) (fun hc => ?_)
  · replace h := ip hc h
    refine lv_iconst (v := 0) hx hb dX0_isMiss_22 (by decide) ?_
    obtain rfl := Option.some.inj h
    exact W.zret hx hb hr rfl (fun t ht hW => ⟨⟨_, (), rfl, rfl, ⟨by rw [ht]; exact hP, va_K.moved hW.alike hK, hD⟩⟩, hS.F ht⟩) hS.2.2 dX0_isMiss_23
  · replace h := iq hc h
    refine lv_iload_n hx hb dX0_isMiss_4 rfl (lv_at hl 1 rfl) ?_
    refine lv_aload_n hx hb dX0_isMiss_5 rfl (lv_at hl 0 rfl) ?_
    refine va_get (D := (dC, dI)) (ci := 0) (C := RX0) (T := TX0) (N := 13) hx hb hts inlX0 hown hK hP 41 gA_41 rfl 6 (by decide) (hts (.fieldLink RX0 30 "ShapeReader$Matcher" "missCount" "I") mw_0_23) (fun _ h9 => h9) rfl dX0_isMiss_6 ?_
    refine lv_icmp_ge (tgt := 22) hx hb dX0_isMiss_9 (by decide) (fun hc => ?_) (fun hc => ?_)
    · replace h := ip hc h
      refine lv_iconst (v := 0) hx hb dX0_isMiss_22 (by decide) ?_
      obtain rfl := Option.some.inj h
      exact W.zret hx hb hr rfl (fun t ht hW => ⟨⟨_, (), rfl, rfl, ⟨by rw [ht]; exact hP, va_K.moved hW.alike hK, hD⟩⟩, hS.F ht⟩) hS.2.2 dX0_isMiss_23
    · replace h := iq hc h
      refine lv_iload_n hx hb dX0_isMiss_12 rfl (lv_at hl 1 rfl) ?_
      refine lv_bipush (v := 20) hx hb dX0_isMiss_13 (by decide) ?_
      refine lv_icmp_ge (tgt := 22) hx hb dX0_isMiss_15 (by decide) (fun hc => ?_) (fun hc => ?_)
      · replace h := ip hc h
        refine lv_iconst (v := 0) hx hb dX0_isMiss_22 (by decide) ?_
        obtain rfl := Option.some.inj h
        exact W.zret hx hb hr rfl (fun t ht hW => ⟨⟨_, (), rfl, rfl, ⟨by rw [ht]; exact hP, va_K.moved hW.alike hK, hD⟩⟩, hS.F ht⟩) hS.2.2 dX0_isMiss_23
      · replace h := iq hc h
        refine lv_iconst (v := 1) hx hb dX0_isMiss_18 (by decide) ?_
        refine lv_goto (tgt := 23) hx hb dX0_isMiss_19 (by decide) ?_
        obtain rfl := Option.some.inj h
        exact W.zret hx hb hr rfl (fun t ht hW => ⟨⟨_, (), rfl, rfl, ⟨by rw [ht]; exact hP, va_K.moved hW.alike hK, hD⟩⟩, hS.F ht⟩) hS.2.2 dX0_isMiss_23

theorem s_X0_isMiss {l : Launch} {dC : Nat → ClassId} {dI : Nat → Nat → Nat} {a : Nat → Nat} {k : Nat → ClassId} {sz : Nat} {p0 : Int32} {σ : ST} {q : Int32 × ST} (h : f_X0_isMiss  p0 σ = some q) : Met l yX0_isMiss (.code yX0_isMiss cX0_isMiss 2 (some .boolean) :: pw) ({ frames := 0, cells := 0, slots := 0, locals := 0 } : Room) (va_Pc [.ref (a 41), .int p0] (vPre dC dI (wA a k σ) (tA k) sz)) (qAi dC dI a k (va_A (wA a k σ) sz) q) 0 0 (va_A (wA a k σ) sz) := metA (fun A => qAi dC dI a k A q) (plainFor_of_name (by decide)) (Nat.le_of_ble_eq_true rfl) (fun _ _ _ _ _ _ _ _ hC => b_X0_isMiss_e hC h)

def f_X0_missKind (p0 : Int32) (σ : ST) : Option (Int32 × ST) := (f_X0_isMiss  p0 σ).bind fun q1 => if q1.1 = 0 then (some ((-1), q1.2)) else (if 0 ≤ p0.toInt ∧ p0.toInt < 20 then (some ((q1.2.1 44 p0.toNatClampNeg), q1.2)) else none)

set_option maxRecDepth 100000 in
set_option maxHeartbeats 4000000 in
theorem b_X0_missKind_e {p : Program} {l : Launch} {e : Env} {s : State} {m : MethodId} {args : Array Value} {below : List Frame} {meth : Method} {c : Code} {dC : Nat → ClassId} {dI : Nat → Nat → Nat} {a : Nat → Nat} {k : Nat → ClassId} {A : Nat → Prop} {q : Int32 × ST} (hC : CxA p s m args meth c dC dI k A cX0_missKind RX0 (some .int) 2)   {p0 : Int32} {σ : ST} (h : f_X0_missKind  p0 σ = some q) : GoA p l e ({ frames := 1, cells := 0, slots := 0, locals := 21 } : Room) s m args below meth c (MQ below (qAi dC dI a k A q) args s 0 0 A) dC dI a k A 2 0 σ (lv_args 0 [.ref (a 41), .int p0]) [] := by
  have hC0 := hC
  obtain ⟨hx, hb, hr, hml, hown, hts, hlocks, hA, hN, hK⟩ := hC0
  intro H locs ls hP hD hS hl
  have hD0 : ∀ σ1 : ST, va_D A (wA a k σ1) := fun σ1 => wA_D hD
  replace hl : lv_has ls 2 [(0, .ref (a 41)), (1, .int p0)] := hl
  unfold f_X0_missKind at h
  refine lv_aload_n hx hb dX0_missKind_0 rfl (lv_at hl 0 rfl) ?_
  refine lv_iload_n hx hb dX0_missKind_1 rfl (lv_at hl 1 rfl) ?_
  obtain ⟨q1, hc, h⟩ := ib h
  have hF := va_frees hD hS hA
  refine va_calli (va_runV (As := [.int p0]) (rest := []) ⟨hx, hb, hml, hown, hts⟩ (s_X0_isMiss hc) (cwV 1 hts (gV mw_4_3 mw_4_4 mw_4_5 mw_0_4 mw_47_23) rfl rfl rfl (by decide +kernel) ⟨(Nat.le_of_ble_eq_true rfl), (Nat.le_of_ble_eq_true rfl)⟩) (vV (ci := 0) (q0 := 41) hK hP hD hN rfl gA_41) rfl rfl hl.1 rfl (lv_room (Nat.le_of_ble_eq_true rfl)) dX0_missKind_2 ⟨(Nat.le_of_ble_eq_true rfl), (Nat.le_of_ble_eq_true rfl)⟩) hS (fun q _ h => hF q h) hF (fun r2 u t H locs ht hvm hw hB _ _ hS => ?_)
  obtain rfl : r2 = q1.1 := hw
  replace hP : va_P (dC, dI) vwCl (wA a k q1.2) H := by rw [← ht]; exact hB.1
  replace hD := hD0 (q1.2)
  clear hB hF
  refine lv_if_eq (tgt := 17) hx hb dX0_missKind_5 (by decide) (fun hc => ?_) (fun hc => ?_)
  · replace h := ip hc h
    refine lv_iconst (v := (-1)) hx hb dX0_missKind_17 (by decide) ?_
    obtain rfl := Option.some.inj h
    exact W.iret hx hb hr (fun t ht hW => ⟨⟨_, (), rfl, rfl, ⟨by rw [ht]; exact hP, va_K.moved hW.alike hK, hD⟩⟩, hS.F ht⟩) hS.2.2 dX0_missKind_18
  · replace h := iq hc h
    refine lv_aload_n hx hb dX0_missKind_8 rfl (lv_at hl 0 rfl) ?_
    refine va_get (D := (dC, dI)) (ci := 0) (C := RX0) (T := TX0) (N := 13) hx hb hts inlX0 hown hK hP 41 gA_41 rfl 7 (by decide) (hts (.fieldLink RX0 33 "ShapeReader$Matcher" "missKinds" "[I") mw_0_24) (fun _ h9 => h9) rfl dX0_missKind_9 ?_
    refine lv_iload_n hx hb dX0_missKind_12 rfl (lv_at hl 1 rfl) ?_
    obtain ⟨hg3, h⟩ := ig h
    refine va_iald hx hb hK hP 44 37 gA_44 yA_44 (vp_in_iff.mpr hg3) dX0_missKind_13 ?_
    refine lv_goto (tgt := 18) hx hb dX0_missKind_14 (by decide) ?_
    obtain rfl := Option.some.inj h
    exact W.iret hx hb hr (fun t ht hW => ⟨⟨_, (), rfl, rfl, ⟨by rw [ht]; exact hP, va_K.moved hW.alike hK, hD⟩⟩, hS.F ht⟩) hS.2.2 dX0_missKind_18

theorem s_X0_missKind {l : Launch} {dC : Nat → ClassId} {dI : Nat → Nat → Nat} {a : Nat → Nat} {k : Nat → ClassId} {sz : Nat} {p0 : Int32} {σ : ST} {q : Int32 × ST} (h : f_X0_missKind  p0 σ = some q) : Met l yX0_missKind (.code yX0_missKind cX0_missKind 2 (some .int) :: pw) ({ frames := 1, cells := 0, slots := 0, locals := 21 } : Room) (va_Pc [.ref (a 41), .int p0] (vPre dC dI (wA a k σ) (tA k) sz)) (qAi dC dI a k (va_A (wA a k σ) sz) q) 0 0 (va_A (wA a k σ) sz) := metA (fun A => qAi dC dI a k A q) (plainFor_of_name (by decide)) (Nat.le_of_ble_eq_true rfl) (fun _ _ _ _ _ _ _ _ hC => b_X0_missKind_e hC h)

def f_X0_missSteps (p0 : Int32) (σ : ST) : Option (Int32 × ST) := (f_X0_isMiss  p0 σ).bind fun q1 => if q1.1 = 0 then (some ((-1), q1.2)) else (if 0 ≤ p0.toInt ∧ p0.toInt < 20 then (some ((q1.2.1 45 p0.toNatClampNeg), q1.2)) else none)

set_option maxRecDepth 100000 in
set_option maxHeartbeats 4000000 in
theorem b_X0_missSteps_e {p : Program} {l : Launch} {e : Env} {s : State} {m : MethodId} {args : Array Value} {below : List Frame} {meth : Method} {c : Code} {dC : Nat → ClassId} {dI : Nat → Nat → Nat} {a : Nat → Nat} {k : Nat → ClassId} {A : Nat → Prop} {q : Int32 × ST} (hC : CxA p s m args meth c dC dI k A cX0_missSteps RX0 (some .int) 2)   {p0 : Int32} {σ : ST} (h : f_X0_missSteps  p0 σ = some q) : GoA p l e ({ frames := 1, cells := 0, slots := 0, locals := 21 } : Room) s m args below meth c (MQ below (qAi dC dI a k A q) args s 0 0 A) dC dI a k A 2 0 σ (lv_args 0 [.ref (a 41), .int p0]) [] := by
  have hC0 := hC
  obtain ⟨hx, hb, hr, hml, hown, hts, hlocks, hA, hN, hK⟩ := hC0
  intro H locs ls hP hD hS hl
  have hD0 : ∀ σ1 : ST, va_D A (wA a k σ1) := fun σ1 => wA_D hD
  replace hl : lv_has ls 2 [(0, .ref (a 41)), (1, .int p0)] := hl
  unfold f_X0_missSteps at h
  refine lv_aload_n hx hb dX0_missSteps_0 rfl (lv_at hl 0 rfl) ?_
  refine lv_iload_n hx hb dX0_missSteps_1 rfl (lv_at hl 1 rfl) ?_
  obtain ⟨q1, hc, h⟩ := ib h
  have hF := va_frees hD hS hA
  refine va_calli (va_runV (As := [.int p0]) (rest := []) ⟨hx, hb, hml, hown, hts⟩ (s_X0_isMiss hc) (cwV 1 hts (gV mw_4_3 mw_4_4 mw_4_5 mw_0_4 mw_47_23) rfl rfl rfl (by decide +kernel) ⟨(Nat.le_of_ble_eq_true rfl), (Nat.le_of_ble_eq_true rfl)⟩) (vV (ci := 0) (q0 := 41) hK hP hD hN rfl gA_41) rfl rfl hl.1 rfl (lv_room (Nat.le_of_ble_eq_true rfl)) dX0_missSteps_2 ⟨(Nat.le_of_ble_eq_true rfl), (Nat.le_of_ble_eq_true rfl)⟩) hS (fun q _ h => hF q h) hF (fun r2 u t H locs ht hvm hw hB _ _ hS => ?_)
  obtain rfl : r2 = q1.1 := hw
  replace hP : va_P (dC, dI) vwCl (wA a k q1.2) H := by rw [← ht]; exact hB.1
  replace hD := hD0 (q1.2)
  clear hB hF
  refine lv_if_eq (tgt := 17) hx hb dX0_missSteps_5 (by decide) (fun hc => ?_) (fun hc => ?_)
  · replace h := ip hc h
    refine lv_iconst (v := (-1)) hx hb dX0_missSteps_17 (by decide) ?_
    obtain rfl := Option.some.inj h
    exact W.iret hx hb hr (fun t ht hW => ⟨⟨_, (), rfl, rfl, ⟨by rw [ht]; exact hP, va_K.moved hW.alike hK, hD⟩⟩, hS.F ht⟩) hS.2.2 dX0_missSteps_18
  · replace h := iq hc h
    refine lv_aload_n hx hb dX0_missSteps_8 rfl (lv_at hl 0 rfl) ?_
    refine va_get (D := (dC, dI)) (ci := 0) (C := RX0) (T := TX0) (N := 13) hx hb hts inlX0 hown hK hP 41 gA_41 rfl 8 (by decide) (hts (.fieldLink RX0 36 "ShapeReader$Matcher" "missSizes" "[I") mw_0_25) (fun _ h9 => h9) rfl dX0_missSteps_9 ?_
    refine lv_iload_n hx hb dX0_missSteps_12 rfl (lv_at hl 1 rfl) ?_
    obtain ⟨hg3, h⟩ := ig h
    refine va_iald hx hb hK hP 45 38 gA_45 yA_45 (vp_in_iff.mpr hg3) dX0_missSteps_13 ?_
    refine lv_goto (tgt := 18) hx hb dX0_missSteps_14 (by decide) ?_
    obtain rfl := Option.some.inj h
    exact W.iret hx hb hr (fun t ht hW => ⟨⟨_, (), rfl, rfl, ⟨by rw [ht]; exact hP, va_K.moved hW.alike hK, hD⟩⟩, hS.F ht⟩) hS.2.2 dX0_missSteps_18

theorem s_X0_missSteps {l : Launch} {dC : Nat → ClassId} {dI : Nat → Nat → Nat} {a : Nat → Nat} {k : Nat → ClassId} {sz : Nat} {p0 : Int32} {σ : ST} {q : Int32 × ST} (h : f_X0_missSteps  p0 σ = some q) : Met l yX0_missSteps (.code yX0_missSteps cX0_missSteps 2 (some .int) :: pw) ({ frames := 1, cells := 0, slots := 0, locals := 21 } : Room) (va_Pc [.ref (a 41), .int p0] (vPre dC dI (wA a k σ) (tA k) sz)) (qAi dC dI a k (va_A (wA a k σ) sz) q) 0 0 (va_A (wA a k σ) sz) := metA (fun A => qAi dC dI a k A q) (plainFor_of_name (by decide)) (Nat.le_of_ble_eq_true rfl) (fun _ _ _ _ _ _ _ _ hC => b_X0_missSteps_e hC h)

def f_X0_rootsFit (σ : ST) : Option (Int32 × ST) := (f_X0_bitOf  0 0 σ).bind fun q1 => if (lg_cmp ((σ.2.1 41 4) &&& q1.1) 0) = 0 then (some (0, q1.2)) else (some (1, q1.2))

set_option maxRecDepth 100000 in
set_option maxHeartbeats 4000000 in
theorem b_X0_rootsFit_e {p : Program} {l : Launch} {e : Env} {s : State} {m : MethodId} {args : Array Value} {below : List Frame} {meth : Method} {c : Code} {dC : Nat → ClassId} {dI : Nat → Nat → Nat} {a : Nat → Nat} {k : Nat → ClassId} {A : Nat → Prop} {q : Int32 × ST} (hC : CxA p s m args meth c dC dI k A cX0_rootsFit RX0 (some .boolean) 1)    {σ : ST} (h : f_X0_rootsFit   σ = some q) : GoA p l e ({ frames := 2, cells := 0, slots := 0, locals := 43 } : Room) s m args below meth c (MQ below (qAi dC dI a k A q) args s 0 0 A) dC dI a k A 1 0 σ (lv_args 0 [.ref (a 41)]) [] := by
  have hC0 := hC
  obtain ⟨hx, hb, hr, hml, hown, hts, hlocks, hA, hN, hK⟩ := hC0
  intro H locs ls hP hD hS hl
  have hD0 : ∀ σ1 : ST, va_D A (wA a k σ1) := fun σ1 => wA_D hD
  replace hl : lv_has ls 1 [(0, .ref (a 41))] := hl
  unfold f_X0_rootsFit at h
  refine lv_aload_n hx hb dX0_rootsFit_0 rfl (lv_at hl 0 rfl) ?_
  refine va_get (D := (dC, dI)) (ci := 0) (C := RX0) (T := TX0) (N := 13) hx hb hts inlX0 hown hK hP 41 gA_41 rfl 4 (by decide) (hts (.fieldLink RX0 23 "ShapeReader$Matcher" "relation" "J") mw_0_21) (fun _ h9 => h9) rfl dX0_rootsFit_1 ?_
  refine lv_iconst (v := 0) hx hb dX0_rootsFit_4 (by decide) ?_
  refine lv_iconst (v := 0) hx hb dX0_rootsFit_5 (by decide) ?_
  obtain ⟨q1, hc, h⟩ := ib h
  have hF := va_frees hD hS hA
  refine va_calll (va_runS (As := [.int 0, .int 0]) (rest := [.long (σ.2.1 41 4)]) ⟨hx, hb, hml, hown, hts⟩ (s_X0_bitOf hc) (va_cwS 2 hts (gS mw_1_18 mw_1_19 mw_0_4 mw_47_4) rfl rfl rfl (by decide +kernel) ⟨(Nat.le_of_ble_eq_true rfl), (Nat.le_of_ble_eq_true rfl)⟩) (vS hK hP hD hN) rfl rfl hl.1 rfl (lv_room (Nat.le_of_ble_eq_true rfl)) dX0_rootsFit_6 ⟨(Nat.le_of_ble_eq_true rfl), (Nat.le_of_ble_eq_true rfl)⟩) hS (fun q _ h => hF q h) hF (fun r2 u t H locs ht hvm hw hB _ _ hS => ?_)
  obtain rfl : r2 = q1.1 := hw
  replace hP : va_P (dC, dI) vwCl (wA a k q1.2) H := by rw [← ht]; exact hB.1
  replace hD := hD0 (q1.2)
  clear hB hF
  refine lv_land hx hb dX0_rootsFit_9 ?_
  refine lv_lconst (v := 0) hx hb dX0_rootsFit_10 (by decide) ?_
  refine W.lcmp hx hb dX0_rootsFit_11 ?_
  refine lv_if_eq (tgt := 19) hx hb dX0_rootsFit_12 (by decide) (fun hc => ?_) (fun hc => ?_)
  · replace h := ip hc h
    refine lv_iconst (v := 0) hx hb dX0_rootsFit_19 (by decide) ?_
    obtain rfl := Option.some.inj h
    exact W.zret hx hb hr rfl (fun t ht hW => ⟨⟨_, (), rfl, rfl, ⟨by rw [ht]; exact hP, va_K.moved hW.alike hK, hD⟩⟩, hS.F ht⟩) hS.2.2 dX0_rootsFit_20
  · replace h := iq hc h
    refine lv_iconst (v := 1) hx hb dX0_rootsFit_15 (by decide) ?_
    refine lv_goto (tgt := 20) hx hb dX0_rootsFit_16 (by decide) ?_
    obtain rfl := Option.some.inj h
    exact W.zret hx hb hr rfl (fun t ht hW => ⟨⟨_, (), rfl, rfl, ⟨by rw [ht]; exact hP, va_K.moved hW.alike hK, hD⟩⟩, hS.F ht⟩) hS.2.2 dX0_rootsFit_20

theorem s_X0_rootsFit {l : Launch} {dC : Nat → ClassId} {dI : Nat → Nat → Nat} {a : Nat → Nat} {k : Nat → ClassId} {sz : Nat}  {σ : ST} {q : Int32 × ST} (h : f_X0_rootsFit   σ = some q) : Met l yX0_rootsFit (.code yX0_rootsFit cX0_rootsFit 1 (some .boolean) :: pw) ({ frames := 2, cells := 0, slots := 0, locals := 43 } : Room) (va_Pc [.ref (a 41)] (vPre dC dI (wA a k σ) (tA k) sz)) (qAi dC dI a k (va_A (wA a k σ) sz) q) 0 0 (va_A (wA a k σ) sz) := metA (fun A => qAi dC dI a k A q) (plainFor_of_name (by decide)) (Nat.le_of_ble_eq_true rfl) (fun _ _ _ _ _ _ _ _ hC => b_X0_rootsFit_e hC h)

def f_X0_stepOfMiss (p0 : Int32) (p1 : Int32) (σ : ST) : Option (Int32 × ST) := (f_X0_isMiss  p0 σ).bind fun q1 => if q1.1 = 0 then (some ((-1), q1.2)) else (if p1 < 0 then (some ((-1), q1.2)) else (if 0 ≤ p0.toInt ∧ p0.toInt < 20 then (if (q1.2.1 45 p0.toNatClampNeg) ≤ p1 then (some ((-1), q1.2)) else (if 32 ≤ p1 then (some ((-1), q1.2)) else (if 0 ≤ ((p0 * 32) + p1).toInt ∧ ((p0 * 32) + p1).toInt < 640 then (some ((q1.2.1 46 ((p0 * 32) + p1).toNatClampNeg), q1.2)) else none))) else none))

set_option maxRecDepth 100000 in
set_option maxHeartbeats 4000000 in
theorem b_X0_stepOfMiss_e {p : Program} {l : Launch} {e : Env} {s : State} {m : MethodId} {args : Array Value} {below : List Frame} {meth : Method} {c : Code} {dC : Nat → ClassId} {dI : Nat → Nat → Nat} {a : Nat → Nat} {k : Nat → ClassId} {A : Nat → Prop} {q : Int32 × ST} (hC : CxA p s m args meth c dC dI k A cX0_stepOfMiss RX0 (some .int) 3)   {p0 : Int32} {p1 : Int32} {σ : ST} (h : f_X0_stepOfMiss  p0 p1 σ = some q) : GoA p l e ({ frames := 1, cells := 0, slots := 0, locals := 21 } : Room) s m args below meth c (MQ below (qAi dC dI a k A q) args s 0 0 A) dC dI a k A 3 0 σ (lv_args 0 [.ref (a 41), .int p0, .int p1]) [] := by
  have hC0 := hC
  obtain ⟨hx, hb, hr, hml, hown, hts, hlocks, hA, hN, hK⟩ := hC0
  intro H locs ls hP hD hS hl
  have hD0 : ∀ σ1 : ST, va_D A (wA a k σ1) := fun σ1 => wA_D hD
  replace hl : lv_has ls 3 [(0, .ref (a 41)), (1, .int p0), (2, .int p1)] := hl
  unfold f_X0_stepOfMiss at h
  refine lv_aload_n hx hb dX0_stepOfMiss_0 rfl (lv_at hl 0 rfl) ?_
  refine lv_iload_n hx hb dX0_stepOfMiss_1 rfl (lv_at hl 1 rfl) ?_
  obtain ⟨q1, hc, h⟩ := ib h
  have hF := va_frees hD hS hA
  refine va_calli (va_runV (As := [.int p0]) (rest := []) ⟨hx, hb, hml, hown, hts⟩ (s_X0_isMiss hc) (cwV 1 hts (gV mw_4_3 mw_4_4 mw_4_5 mw_0_4 mw_47_23) rfl rfl rfl (by decide +kernel) ⟨(Nat.le_of_ble_eq_true rfl), (Nat.le_of_ble_eq_true rfl)⟩) (vV (ci := 0) (q0 := 41) hK hP hD hN rfl gA_41) rfl rfl hl.1 rfl (lv_room (Nat.le_of_ble_eq_true rfl)) dX0_stepOfMiss_2 ⟨(Nat.le_of_ble_eq_true rfl), (Nat.le_of_ble_eq_true rfl)⟩) hS (fun q _ h => hF q h) hF (fun r2 u t H locs ht hvm hw hB _ _ hS => ?_)
  obtain rfl : r2 = q1.1 := hw
  replace hP : va_P (dC, dI) vwCl (wA a k q1.2) H := by rw [← ht]; exact hB.1
  replace hD := hD0 (q1.2)
  clear hB hF
  refine lv_if_eq (tgt := 42) hx hb dX0_stepOfMiss_5 (by decide) (fun hc => ?_) (fun hc => ?_)
  · replace h := ip hc h
    refine lv_iconst (v := (-1)) hx hb dX0_stepOfMiss_42 (by decide) ?_
    obtain rfl := Option.some.inj h
    exact W.iret hx hb hr (fun t ht hW => ⟨⟨_, (), rfl, rfl, ⟨by rw [ht]; exact hP, va_K.moved hW.alike hK, hD⟩⟩, hS.F ht⟩) hS.2.2 dX0_stepOfMiss_43
  · replace h := iq hc h
    refine lv_iload_n hx hb dX0_stepOfMiss_8 rfl (lv_at hl 2 rfl) ?_
    refine lv_if_lt (tgt := 42) hx hb dX0_stepOfMiss_9 (by decide) (fun hc => ?_) (fun hc => ?_)
    · replace h := ip hc h
      refine lv_iconst (v := (-1)) hx hb dX0_stepOfMiss_42 (by decide) ?_
      obtain rfl := Option.some.inj h
      exact W.iret hx hb hr (fun t ht hW => ⟨⟨_, (), rfl, rfl, ⟨by rw [ht]; exact hP, va_K.moved hW.alike hK, hD⟩⟩, hS.F ht⟩) hS.2.2 dX0_stepOfMiss_43
    · replace h := iq hc h
      refine lv_iload_n hx hb dX0_stepOfMiss_12 rfl (lv_at hl 2 rfl) ?_
      refine lv_aload_n hx hb dX0_stepOfMiss_13 rfl (lv_at hl 0 rfl) ?_
      refine va_get (D := (dC, dI)) (ci := 0) (C := RX0) (T := TX0) (N := 13) hx hb hts inlX0 hown hK hP 41 gA_41 rfl 8 (by decide) (hts (.fieldLink RX0 36 "ShapeReader$Matcher" "missSizes" "[I") mw_0_25) (fun _ h9 => h9) rfl dX0_stepOfMiss_14 ?_
      refine lv_iload_n hx hb dX0_stepOfMiss_17 rfl (lv_at hl 1 rfl) ?_
      obtain ⟨hg3, h⟩ := ig h
      refine va_iald hx hb hK hP 45 38 gA_45 yA_45 (vp_in_iff.mpr hg3) dX0_stepOfMiss_18 ?_
      refine lv_icmp_ge (tgt := 42) hx hb dX0_stepOfMiss_19 (by decide) (fun hc => ?_) (fun hc => ?_)
      · replace h := ip hc h
        refine lv_iconst (v := (-1)) hx hb dX0_stepOfMiss_42 (by decide) ?_
        obtain rfl := Option.some.inj h
        exact W.iret hx hb hr (fun t ht hW => ⟨⟨_, (), rfl, rfl, ⟨by rw [ht]; exact hP, va_K.moved hW.alike hK, hD⟩⟩, hS.F ht⟩) hS.2.2 dX0_stepOfMiss_43
      · replace h := iq hc h
        refine lv_iload_n hx hb dX0_stepOfMiss_22 rfl (lv_at hl 2 rfl) ?_
        refine lv_bipush (v := 32) hx hb dX0_stepOfMiss_23 (by decide) ?_
        refine lv_icmp_ge (tgt := 42) hx hb dX0_stepOfMiss_25 (by decide) (fun hc => ?_) (fun hc => ?_)
        · replace h := ip hc h
          refine lv_iconst (v := (-1)) hx hb dX0_stepOfMiss_42 (by decide) ?_
          obtain rfl := Option.some.inj h
          exact W.iret hx hb hr (fun t ht hW => ⟨⟨_, (), rfl, rfl, ⟨by rw [ht]; exact hP, va_K.moved hW.alike hK, hD⟩⟩, hS.F ht⟩) hS.2.2 dX0_stepOfMiss_43
        · replace h := iq hc h
          refine lv_aload_n hx hb dX0_stepOfMiss_28 rfl (lv_at hl 0 rfl) ?_
          refine va_get (D := (dC, dI)) (ci := 0) (C := RX0) (T := TX0) (N := 13) hx hb hts inlX0 hown hK hP 41 gA_41 rfl 9 (by decide) (hts (.fieldLink RX0 39 "ShapeReader$Matcher" "missPaths" "[I") mw_0_26) (fun _ h9 => h9) rfl dX0_stepOfMiss_29 ?_
          refine lv_iload_n hx hb dX0_stepOfMiss_32 rfl (lv_at hl 1 rfl) ?_
          refine lv_bipush (v := 32) hx hb dX0_stepOfMiss_33 (by decide) ?_
          refine lv_imul hx hb dX0_stepOfMiss_35 ?_
          refine lv_iload_n hx hb dX0_stepOfMiss_36 rfl (lv_at hl 2 rfl) ?_
          refine lv_iadd hx hb dX0_stepOfMiss_37 ?_
          obtain ⟨hg4, h⟩ := ig h
          refine va_iald hx hb hK hP 46 39 gA_46 yA_46 (vp_in_iff.mpr hg4) dX0_stepOfMiss_38 ?_
          refine lv_goto (tgt := 43) hx hb dX0_stepOfMiss_39 (by decide) ?_
          obtain rfl := Option.some.inj h
          exact W.iret hx hb hr (fun t ht hW => ⟨⟨_, (), rfl, rfl, ⟨by rw [ht]; exact hP, va_K.moved hW.alike hK, hD⟩⟩, hS.F ht⟩) hS.2.2 dX0_stepOfMiss_43

theorem s_X0_stepOfMiss {l : Launch} {dC : Nat → ClassId} {dI : Nat → Nat → Nat} {a : Nat → Nat} {k : Nat → ClassId} {sz : Nat} {p0 : Int32} {p1 : Int32} {σ : ST} {q : Int32 × ST} (h : f_X0_stepOfMiss  p0 p1 σ = some q) : Met l yX0_stepOfMiss (.code yX0_stepOfMiss cX0_stepOfMiss 3 (some .int) :: pw) ({ frames := 1, cells := 0, slots := 0, locals := 21 } : Room) (va_Pc [.ref (a 41), .int p0, .int p1] (vPre dC dI (wA a k σ) (tA k) sz)) (qAi dC dI a k (va_A (wA a k σ) sz) q) 0 0 (va_A (wA a k σ) sz) := metA (fun A => qAi dC dI a k A q) (plainFor_of_name (by decide)) (Nat.le_of_ble_eq_true rfl) (fun _ _ _ _ _ _ _ _ hC => b_X0_stepOfMiss_e hC h)

def f_X0_verdict_61 (x3 : Int32) (σ : ST) : Option (Int32 × ST) := if 0 ≤ x3.toInt ∧ x3.toInt < 36 then (some ((σ.1 43 x3.toNatClampNeg), σ)) else none
def f_X0_verdict_60 (x3 : Int32) (y0 : Int32) (y1 : Int32) (σ : ST) : Option (Int32 × ST) := if 0 ≤ y1.toInt ∧ y1.toInt < 36 then (f_X0_verdict_61  x3 (stI σ 43 y1.toNatClampNeg y0)) else none
def f_X0_verdict_40 (x3 : Int32) (y0 : Int32) (σ : ST) : Option (Int32 × ST) := (f_X0_rootsFit   σ).bind fun q1 => if q1.1 = 0 then (f_X0_verdict_60  x3 2 x3 q1.2) else (f_X0_verdict_60  x3 y0 x3 q1.2)
def f_X0_verdict (p0 : Int32) (p1 : Int32) (σ : ST) : Option (Int32 × ST) := (f_X0_pairOf  p0 p1 σ).bind fun q1 => if 0 ≤ q1.1.toInt ∧ q1.1.toInt < 36 then (if (q1.2.1 43 q1.1.toNatClampNeg) = (-1) then ((f_X0_turnTo  p0 p1 q1.2).bind fun q4 => (f_X0_collectMisses  p0 p1 q4).bind fun q6 => if (q6.1 41 6) ≤ 0 then (f_X0_verdict_40  q1.1 0 q6) else (f_X0_verdict_40  q1.1 1 q6)) else (f_X0_verdict_61  q1.1 q1.2)) else none

set_option maxRecDepth 100000 in
set_option maxHeartbeats 4000000 in
theorem b_X0_verdict_61 {p : Program} {l : Launch} {e : Env} {s : State} {m : MethodId} {args : Array Value} {below : List Frame} {meth : Method} {c : Code} {dC : Nat → ClassId} {dI : Nat → Nat → Nat} {a : Nat → Nat} {k : Nat → ClassId} {A : Nat → Prop} {q : Int32 × ST} (hC : CxA p s m args meth c dC dI k A cX0_verdict RX0 (some .int) 5)   {x3 : Int32} {σ : ST} (h : f_X0_verdict_61  x3 σ = some q) : GoA p l e ({ frames := 326, cells := 0, slots := 0, locals := 8943 } : Room) s m args below meth c (MQ below (qAi dC dI a k A q) args s 0 0 A) dC dI a k A 5 61 σ [(0, .ref (a 41)), (3, .int x3)] [] := by
  have hC0 := hC
  obtain ⟨hx, hb, hr, hml, hown, hts, hlocks, hA, hN, hK⟩ := hC0
  intro H locs ls hP hD hS hl
  have hD0 : ∀ σ1 : ST, va_D A (wA a k σ1) := fun σ1 => wA_D hD
  unfold f_X0_verdict_61 at h
  refine lv_aload_n hx hb dX0_verdict_61 rfl (lv_at hl 0 rfl) ?_
  refine va_get (D := (dC, dI)) (ci := 0) (C := RX0) (T := TX0) (N := 13) hx hb hts inlX0 hown hK hP 41 gA_41 rfl 3 (by decide) (hts (.fieldLink RX0 19 "ShapeReader$Matcher" "verdicts" "[I") mw_0_20) (fun _ h9 => h9) rfl dX0_verdict_62 ?_
  refine lv_iload_n hx hb dX0_verdict_65 rfl (lv_at hl 1 rfl) ?_
  obtain ⟨hg1, h⟩ := ig h
  refine va_iald hx hb hK hP 43 36 gA_43 yA_43 (vp_in_iff.mpr hg1) dX0_verdict_66 ?_
  obtain rfl := Option.some.inj h
  exact W.iret hx hb hr (fun t ht hW => ⟨⟨_, (), rfl, rfl, ⟨by rw [ht]; exact hP, va_K.moved hW.alike hK, hD⟩⟩, hS.F ht⟩) hS.2.2 dX0_verdict_67

set_option maxRecDepth 100000 in
set_option maxHeartbeats 4000000 in
theorem b_X0_verdict_60 {p : Program} {l : Launch} {e : Env} {s : State} {m : MethodId} {args : Array Value} {below : List Frame} {meth : Method} {c : Code} {dC : Nat → ClassId} {dI : Nat → Nat → Nat} {a : Nat → Nat} {k : Nat → ClassId} {A : Nat → Prop} {q : Int32 × ST} (hC : CxA p s m args meth c dC dI k A cX0_verdict RX0 (some .int) 5)   {x3 : Int32} {y0 : Int32} {y1 : Int32} {σ : ST} (h : f_X0_verdict_60  x3 y0 y1 σ = some q) : GoA p l e ({ frames := 326, cells := 0, slots := 0, locals := 8943 } : Room) s m args below meth c (MQ below (qAi dC dI a k A q) args s 0 0 A) dC dI a k A 5 60 σ [(0, .ref (a 41)), (3, .int x3)] [.int y0, .int y1, .ref (a 43)] := by
  have hC0 := hC
  obtain ⟨hx, hb, hr, hml, hown, hts, hlocks, hA, hN, hK⟩ := hC0
  intro H locs ls hP hD hS hl
  have hD0 : ∀ σ1 : ST, va_D A (wA a k σ1) := fun σ1 => wA_D hD
  unfold f_X0_verdict_60 at h
  obtain ⟨hg1, h⟩ := ig h
  refine va_iast hx hb hK hP hD hS 43 36 gA_43 yA_43 (vp_in_iff.mpr hg1) dX0_verdict_60 (fun H locs hP hD hS => ?_)
  replace hP := uA_43 hP
  replace hD := hD0 ((stI σ 43 y1.toNatClampNeg y0))
  exact b_X0_verdict_61 hC h _ _ _ hP hD hS (lv_sub hl [0, 1] rfl)

set_option maxRecDepth 100000 in
set_option maxHeartbeats 4000000 in
theorem b_X0_verdict_40 {p : Program} {l : Launch} {e : Env} {s : State} {m : MethodId} {args : Array Value} {below : List Frame} {meth : Method} {c : Code} {dC : Nat → ClassId} {dI : Nat → Nat → Nat} {a : Nat → Nat} {k : Nat → ClassId} {A : Nat → Prop} {q : Int32 × ST} (hC : CxA p s m args meth c dC dI k A cX0_verdict RX0 (some .int) 5)   {x3 : Int32} {y0 : Int32} {σ : ST} (h : f_X0_verdict_40  x3 y0 σ = some q) : GoA p l e ({ frames := 326, cells := 0, slots := 0, locals := 8943 } : Room) s m args below meth c (MQ below (qAi dC dI a k A q) args s 0 0 A) dC dI a k A 5 40 σ [(0, .ref (a 41)), (3, .int x3)] [.int y0] := by
  have hC0 := hC
  obtain ⟨hx, hb, hr, hml, hown, hts, hlocks, hA, hN, hK⟩ := hC0
  intro H locs ls hP hD hS hl
  have hD0 : ∀ σ1 : ST, va_D A (wA a k σ1) := fun σ1 => wA_D hD
  unfold f_X0_verdict_40 at h
  refine lv_istore (lv' := [(4, .int y0), (0, .ref (a 41)), (3, .int x3)]) hx hb dX0_verdict_40 hl (by decide) rfl (fun ls hl => ?_)
  refine lv_aload_n hx hb dX0_verdict_42 rfl (lv_at hl 1 rfl) ?_
  refine va_get (D := (dC, dI)) (ci := 0) (C := RX0) (T := TX0) (N := 13) hx hb hts inlX0 hown hK hP 41 gA_41 rfl 3 (by decide) (hts (.fieldLink RX0 19 "ShapeReader$Matcher" "verdicts" "[I") mw_0_20) (fun _ h9 => h9) rfl dX0_verdict_43 ?_
  refine lv_iload_n hx hb dX0_verdict_46 rfl (lv_at hl 2 rfl) ?_
  refine lv_aload_n hx hb dX0_verdict_47 rfl (lv_at hl 1 rfl) ?_
  obtain ⟨q1, hc, h⟩ := ib h
  have hF := va_frees hD hS hA
  refine va_calli (va_runV (As := []) (rest := [.int x3, .ref (a 43)]) ⟨hx, hb, hml, hown, hts⟩ (s_X0_rootsFit hc) (cwV 0 hts (gV mw_3_2 mw_3_3 mw_3_4 mw_0_4 mw_47_14) rfl rfl rfl (by decide +kernel) ⟨(Nat.le_of_ble_eq_true rfl), (Nat.le_of_ble_eq_true rfl)⟩) (vV (ci := 0) (q0 := 41) hK hP hD hN rfl gA_41) rfl rfl hl.1 rfl (lv_room (Nat.le_of_ble_eq_true rfl)) dX0_verdict_48 ⟨(Nat.le_of_ble_eq_true rfl), (Nat.le_of_ble_eq_true rfl)⟩) hS (fun q _ h => hF q h) hF (fun r2 u t H locs ht hvm hw hB _ _ hS => ?_)
  obtain rfl : r2 = q1.1 := hw
  replace hP : va_P (dC, dI) vwCl (wA a k q1.2) H := by rw [← ht]; exact hB.1
  replace hD := hD0 (q1.2)
  clear hB hF
  refine lv_if_eq (tgt := 59) hx hb dX0_verdict_51 (by decide) (fun hc => ?_) (fun hc => ?_)
  · replace h := ip hc h
    refine lv_iconst (v := 2) hx hb dX0_verdict_59 (by decide) ?_
    exact b_X0_verdict_60 hC h _ _ _ hP hD hS (lv_sub hl [1, 2] rfl)
  · replace h := iq hc h
    refine lv_iload hx hb dX0_verdict_54 (lv_at hl 0 rfl) ?_
    refine lv_goto (tgt := 60) hx hb dX0_verdict_56 (by decide) ?_
    exact b_X0_verdict_60 hC h _ _ _ hP hD hS (lv_sub hl [1, 2] rfl)

set_option maxRecDepth 100000 in
set_option maxHeartbeats 4000000 in
theorem b_X0_verdict_e {p : Program} {l : Launch} {e : Env} {s : State} {m : MethodId} {args : Array Value} {below : List Frame} {meth : Method} {c : Code} {dC : Nat → ClassId} {dI : Nat → Nat → Nat} {a : Nat → Nat} {k : Nat → ClassId} {A : Nat → Prop} {q : Int32 × ST} (hC : CxA p s m args meth c dC dI k A cX0_verdict RX0 (some .int) 5)   {p0 : Int32} {p1 : Int32} {σ : ST} (h : f_X0_verdict  p0 p1 σ = some q) : GoA p l e ({ frames := 326, cells := 0, slots := 0, locals := 8943 } : Room) s m args below meth c (MQ below (qAi dC dI a k A q) args s 0 0 A) dC dI a k A 5 0 σ (lv_args 0 [.ref (a 41), .int p0, .int p1]) [] := by
  have hC0 := hC
  obtain ⟨hx, hb, hr, hml, hown, hts, hlocks, hA, hN, hK⟩ := hC0
  intro H locs ls hP hD hS hl
  have hD0 : ∀ σ1 : ST, va_D A (wA a k σ1) := fun σ1 => wA_D hD
  replace hl : lv_has ls 5 [(0, .ref (a 41)), (1, .int p0), (2, .int p1)] := hl
  unfold f_X0_verdict at h
  refine lv_iload_n hx hb dX0_verdict_0 rfl (lv_at hl 1 rfl) ?_
  refine lv_iload_n hx hb dX0_verdict_1 rfl (lv_at hl 2 rfl) ?_
  obtain ⟨q1, hc, h⟩ := ib h
  have hF := va_frees hD hS hA
  refine va_calli (va_runS (As := [.int p0, .int p1]) (rest := []) ⟨hx, hb, hml, hown, hts⟩ (s_X0_pairOf hc) (va_cwS 2 hts (gS mw_1_7 mw_1_8 mw_0_4 mw_47_3) rfl rfl rfl (by decide +kernel) ⟨(Nat.le_of_ble_eq_true rfl), (Nat.le_of_ble_eq_true rfl)⟩) (vS hK hP hD hN) rfl rfl hl.1 rfl (lv_room (Nat.le_of_ble_eq_true rfl)) dX0_verdict_2 ⟨(Nat.le_of_ble_eq_true rfl), (Nat.le_of_ble_eq_true rfl)⟩) hS (fun q _ h => hF q h) hF (fun r2 u t H locs ht hvm hw hB _ _ hS => ?_)
  obtain rfl : r2 = q1.1 := hw
  replace hP : va_P (dC, dI) vwCl (wA a k q1.2) H := by rw [← ht]; exact hB.1
  replace hD := hD0 (q1.2)
  clear hB hF
  refine lv_istore_n (lv' := [(3, .int q1.1), (0, .ref (a 41)), (1, .int p0), (2, .int p1)]) hx hb dX0_verdict_5 rfl hl (by decide) rfl (fun ls hl => ?_)
  refine lv_aload_n hx hb dX0_verdict_6 rfl (lv_at hl 1 rfl) ?_
  refine va_get (D := (dC, dI)) (ci := 0) (C := RX0) (T := TX0) (N := 13) hx hb hts inlX0 hown hK hP 41 gA_41 rfl 3 (by decide) (hts (.fieldLink RX0 19 "ShapeReader$Matcher" "verdicts" "[I") mw_0_20) (fun _ h9 => h9) rfl dX0_verdict_7 ?_
  refine lv_iload_n hx hb dX0_verdict_10 rfl (lv_at hl 0 rfl) ?_
  obtain ⟨hg3, h⟩ := ig h
  refine va_iald hx hb hK hP 43 36 gA_43 yA_43 (vp_in_iff.mpr hg3) dX0_verdict_11 ?_
  refine lv_iconst (v := (-1)) hx hb dX0_verdict_12 (by decide) ?_
  refine lv_icmp_ne (tgt := 61) hx hb dX0_verdict_13 (by decide) (fun hc => ?_) (fun hc => ?_)
  · replace h := iq hc h
    exact b_X0_verdict_61 hC h _ _ _ hP hD hS (lv_sub hl [1, 0] rfl)
  · replace h := ip hc h
    refine lv_aload_n hx hb dX0_verdict_16 rfl (lv_at hl 1 rfl) ?_
    refine lv_iload_n hx hb dX0_verdict_17 rfl (lv_at hl 2 rfl) ?_
    refine lv_iload_n hx hb dX0_verdict_18 rfl (lv_at hl 3 rfl) ?_
    obtain ⟨q4, hc, h⟩ := ib h
    have hF := va_frees hD hS hA
    refine va_callv (va_runV (As := [.int p0, .int p1]) (rest := []) ⟨hx, hb, hml, hown, hts⟩ (s_X0_turnTo hc) (cwV 2 hts (gV mw_2_26 mw_2_27 mw_2_28 mw_0_4 mw_47_5) rfl rfl rfl (by decide +kernel) ⟨(Nat.le_of_ble_eq_true rfl), (Nat.le_of_ble_eq_true rfl)⟩) (vV (ci := 0) (q0 := 41) hK hP hD hN rfl gA_41) rfl rfl hl.1 rfl (lv_room (Nat.le_of_ble_eq_true rfl)) dX0_verdict_19 ⟨(Nat.le_of_ble_eq_true rfl), (Nat.le_of_ble_eq_true rfl)⟩) hS (fun q _ h => hF q h) hF (fun u t H locs ht hvm hw hB _ _ hS => ?_)
    replace hP : va_P (dC, dI) vwCl (wA a k q4) H := by rw [← ht]; exact hB.1
    replace hD := hD0 (q4)
    clear hB hF
    refine lv_aload_n hx hb dX0_verdict_22 rfl (lv_at hl 1 rfl) ?_
    refine lv_iload_n hx hb dX0_verdict_23 rfl (lv_at hl 2 rfl) ?_
    refine lv_iload_n hx hb dX0_verdict_24 rfl (lv_at hl 3 rfl) ?_
    obtain ⟨q6, hc, h⟩ := ib h
    have hF := va_frees hD hS hA
    refine va_callv (va_runV (As := [.int p0, .int p1]) (rest := []) ⟨hx, hb, hml, hown, hts⟩ (s_X0_collectMisses hc) (cwV 2 hts (gV mw_2_29 mw_3_0 mw_3_1 mw_0_4 mw_47_17) rfl rfl rfl (by decide +kernel) ⟨(Nat.le_of_ble_eq_true rfl), (Nat.le_of_ble_eq_true rfl)⟩) (vV (ci := 0) (q0 := 41) hK hP hD hN rfl gA_41) rfl rfl hl.1 rfl (lv_room (Nat.le_of_ble_eq_true rfl)) dX0_verdict_25 ⟨(Nat.le_of_ble_eq_true rfl), (Nat.le_of_ble_eq_true rfl)⟩) hS (fun q _ h => hF q h) hF (fun u t H locs ht hvm hw hB _ _ hS => ?_)
    replace hP : va_P (dC, dI) vwCl (wA a k q6) H := by rw [← ht]; exact hB.1
    replace hD := hD0 (q6)
    clear hB hF
    refine lv_aload_n hx hb dX0_verdict_28 rfl (lv_at hl 1 rfl) ?_
    refine va_get (D := (dC, dI)) (ci := 0) (C := RX0) (T := TX0) (N := 13) hx hb hts inlX0 hown hK hP 41 gA_41 rfl 6 (by decide) (hts (.fieldLink RX0 30 "ShapeReader$Matcher" "missCount" "I") mw_0_23) (fun _ h9 => h9) rfl dX0_verdict_29 ?_
    refine lv_if_le (tgt := 39) hx hb dX0_verdict_32 (by decide) (fun hc => ?_) (fun hc => ?_)
    · replace h := ip hc h
      refine lv_iconst (v := 0) hx hb dX0_verdict_39 (by decide) ?_
      exact b_X0_verdict_40 hC h _ _ _ hP hD hS (lv_sub hl [1, 0] rfl)
    · replace h := iq hc h
      refine lv_iconst (v := 1) hx hb dX0_verdict_35 (by decide) ?_
      refine lv_goto (tgt := 40) hx hb dX0_verdict_36 (by decide) ?_
      exact b_X0_verdict_40 hC h _ _ _ hP hD hS (lv_sub hl [1, 0] rfl)

theorem s_X0_verdict {l : Launch} {dC : Nat → ClassId} {dI : Nat → Nat → Nat} {a : Nat → Nat} {k : Nat → ClassId} {sz : Nat} {p0 : Int32} {p1 : Int32} {σ : ST} {q : Int32 × ST} (h : f_X0_verdict  p0 p1 σ = some q) : Met l yX0_verdict (.code yX0_verdict cX0_verdict 5 (some .int) :: pw) ({ frames := 326, cells := 0, slots := 0, locals := 8943 } : Room) (va_Pc [.ref (a 41), .int p0, .int p1] (vPre dC dI (wA a k σ) (tA k) sz)) (qAi dC dI a k (va_A (wA a k σ) sz) q) 0 0 (va_A (wA a k σ) sz) := metA (fun A => qAi dC dI a k A q) (plainFor_of_name (by decide)) (Nat.le_of_ble_eq_true rfl) (fun _ _ _ _ _ _ _ _ hC => b_X0_verdict_e hC h)

def f_X10_isPlan (p0 : Int32) (σ : ST) : Option (Int32 × ST) := if p0 < 0 then (some (0, σ)) else (if (σ.1 4 0) ≤ p0 then (some (0, σ)) else (some (1, σ)))

set_option maxRecDepth 100000 in
set_option maxHeartbeats 4000000 in
theorem b_X10_isPlan_e {p : Program} {l : Launch} {e : Env} {s : State} {m : MethodId} {args : Array Value} {below : List Frame} {meth : Method} {c : Code} {dC : Nat → ClassId} {dI : Nat → Nat → Nat} {a : Nat → Nat} {k : Nat → ClassId} {A : Nat → Prop} {q : Int32 × ST} (hC : CxA p s m args meth c dC dI k A cX10_isPlan RX10 (some .boolean) 2)   {p0 : Int32} {σ : ST} (h : f_X10_isPlan  p0 σ = some q) : GoA p l e ({ frames := 0, cells := 0, slots := 0, locals := 0 } : Room) s m args below meth c (MQ below (qAi dC dI a k A q) args s 0 0 A) dC dI a k A 2 0 σ (lv_args 0 [.ref (a 0), .int p0]) [] := by
  have hC0 := hC
  obtain ⟨hx, hb, hr, hml, hown, hts, hlocks, hA, hN, hK⟩ := hC0
  intro H locs ls hP hD hS hl
  have hD0 : ∀ σ1 : ST, va_D A (wA a k σ1) := fun σ1 => wA_D hD
  replace hl : lv_has ls 2 [(0, .ref (a 0)), (1, .int p0)] := hl
  unfold f_X10_isPlan at h
  refine lv_iload_n hx hb dX10_isPlan_0 rfl (lv_at hl 1 rfl) ?_
  refine lv_if_lt (tgt := 19) hx hb dX10_isPlan_1 (by decide) (fun hc => ?_) (fun hc => ?_)
  · replace h := ip hc h
    refine lv_iconst (v := 0) hx hb dX10_isPlan_19 (by decide) ?_
    obtain rfl := Option.some.inj h
    exact W.zret hx hb hr rfl (fun t ht hW => ⟨⟨_, (), rfl, rfl, ⟨by rw [ht]; exact hP, va_K.moved hW.alike hK, hD⟩⟩, hS.F ht⟩) hS.2.2 dX10_isPlan_20
  · replace h := iq hc h
    refine lv_iload_n hx hb dX10_isPlan_4 rfl (lv_at hl 1 rfl) ?_
    refine lv_aload_n hx hb dX10_isPlan_5 rfl (lv_at hl 0 rfl) ?_
    refine va_get (D := (dC, dI)) (ci := 10) (C := RX10) (T := TX10) (N := 16) hx hb hts inlX10 hown hK hP 0 gA_0 rfl 3 (by decide) (hts (.fieldLink RX10 29 "ShapeReader" "shapes" "LShapeReader$Shapes;") mw_21_1) (fun _ h9 => h9) rfl dX10_isPlan_6 ?_
    refine va_get (D := (dC, dI)) (ci := 5) (C := RX5) (T := TX5) (N := 17) hx hb hts inlX5 hown hK hP 4 gA_4 rfl 0 (by decide) (hts (.fieldLink RX10 137 "ShapeReader$Shapes" "planCount" "I") mw_23_13) (fun _ h9 => h9) rfl dX10_isPlan_9 ?_
    refine lv_icmp_ge (tgt := 19) hx hb dX10_isPlan_12 (by decide) (fun hc => ?_) (fun hc => ?_)
    · replace h := ip hc h
      refine lv_iconst (v := 0) hx hb dX10_isPlan_19 (by decide) ?_
      obtain rfl := Option.some.inj h
      exact W.zret hx hb hr rfl (fun t ht hW => ⟨⟨_, (), rfl, rfl, ⟨by rw [ht]; exact hP, va_K.moved hW.alike hK, hD⟩⟩, hS.F ht⟩) hS.2.2 dX10_isPlan_20
    · replace h := iq hc h
      refine lv_iconst (v := 1) hx hb dX10_isPlan_15 (by decide) ?_
      refine lv_goto (tgt := 20) hx hb dX10_isPlan_16 (by decide) ?_
      obtain rfl := Option.some.inj h
      exact W.zret hx hb hr rfl (fun t ht hW => ⟨⟨_, (), rfl, rfl, ⟨by rw [ht]; exact hP, va_K.moved hW.alike hK, hD⟩⟩, hS.F ht⟩) hS.2.2 dX10_isPlan_20

theorem s_X10_isPlan {l : Launch} {dC : Nat → ClassId} {dI : Nat → Nat → Nat} {a : Nat → Nat} {k : Nat → ClassId} {sz : Nat} {p0 : Int32} {σ : ST} {q : Int32 × ST} (h : f_X10_isPlan  p0 σ = some q) : Met l yX10_isPlan (.code yX10_isPlan cX10_isPlan 2 (some .boolean) :: pw) ({ frames := 0, cells := 0, slots := 0, locals := 0 } : Room) (va_Pc [.ref (a 0), .int p0] (vPre dC dI (wA a k σ) (tA k) sz)) (qAi dC dI a k (va_A (wA a k σ) sz) q) 0 0 (va_A (wA a k σ) sz) := metA (fun A => qAi dC dI a k A q) (plainFor_of_name (by decide)) (Nat.le_of_ble_eq_true rfl) (fun _ _ _ _ _ _ _ _ hC => b_X10_isPlan_e hC h)

def f_X1_isNumber (p0 : Int32) (σ : ST) : Option (Int32 × ST) := if p0 < 0 then (some (0, σ)) else (if 4 ≤ p0 then (some (0, σ)) else (some (1, σ)))

set_option maxRecDepth 100000 in
set_option maxHeartbeats 4000000 in
theorem b_X1_isNumber_e {p : Program} {l : Launch} {e : Env} {s : State} {m : MethodId} {args : Array Value} {below : List Frame} {meth : Method} {c : Code} {dC : Nat → ClassId} {dI : Nat → Nat → Nat} {a : Nat → Nat} {k : Nat → ClassId} {A : Nat → Prop} {q : Int32 × ST} (hC : CxA p s m args meth c dC dI k A cX1_isNumber RX1 (some .boolean) 2)   {p0 : Int32} {σ : ST} (h : f_X1_isNumber  p0 σ = some q) : GoA p l e ({ frames := 0, cells := 0, slots := 0, locals := 0 } : Room) s m args below meth c (MQ below (qAi dC dI a k A q) args s 0 0 A) dC dI a k A 2 0 σ (lv_args 0 [.ref (a 37), .int p0]) [] := by
  have hC0 := hC
  obtain ⟨hx, hb, hr, hml, hown, hts, hlocks, hA, hN, hK⟩ := hC0
  intro H locs ls hP hD hS hl
  have hD0 : ∀ σ1 : ST, va_D A (wA a k σ1) := fun σ1 => wA_D hD
  replace hl : lv_has ls 2 [(0, .ref (a 37)), (1, .int p0)] := hl
  unfold f_X1_isNumber at h
  refine lv_iload_n hx hb dX1_isNumber_0 rfl (lv_at hl 1 rfl) ?_
  refine lv_if_lt (tgt := 13) hx hb dX1_isNumber_1 (by decide) (fun hc => ?_) (fun hc => ?_)
  · replace h := ip hc h
    refine lv_iconst (v := 0) hx hb dX1_isNumber_13 (by decide) ?_
    obtain rfl := Option.some.inj h
    exact W.zret hx hb hr rfl (fun t ht hW => ⟨⟨_, (), rfl, rfl, ⟨by rw [ht]; exact hP, va_K.moved hW.alike hK, hD⟩⟩, hS.F ht⟩) hS.2.2 dX1_isNumber_14
  · replace h := iq hc h
    refine lv_iload_n hx hb dX1_isNumber_4 rfl (lv_at hl 1 rfl) ?_
    refine lv_iconst (v := 4) hx hb dX1_isNumber_5 (by decide) ?_
    refine lv_icmp_ge (tgt := 13) hx hb dX1_isNumber_6 (by decide) (fun hc => ?_) (fun hc => ?_)
    · replace h := ip hc h
      refine lv_iconst (v := 0) hx hb dX1_isNumber_13 (by decide) ?_
      obtain rfl := Option.some.inj h
      exact W.zret hx hb hr rfl (fun t ht hW => ⟨⟨_, (), rfl, rfl, ⟨by rw [ht]; exact hP, va_K.moved hW.alike hK, hD⟩⟩, hS.F ht⟩) hS.2.2 dX1_isNumber_14
    · replace h := iq hc h
      refine lv_iconst (v := 1) hx hb dX1_isNumber_9 (by decide) ?_
      refine lv_goto (tgt := 14) hx hb dX1_isNumber_10 (by decide) ?_
      obtain rfl := Option.some.inj h
      exact W.zret hx hb hr rfl (fun t ht hW => ⟨⟨_, (), rfl, rfl, ⟨by rw [ht]; exact hP, va_K.moved hW.alike hK, hD⟩⟩, hS.F ht⟩) hS.2.2 dX1_isNumber_14

theorem s_X1_isNumber {l : Launch} {dC : Nat → ClassId} {dI : Nat → Nat → Nat} {a : Nat → Nat} {k : Nat → ClassId} {sz : Nat} {p0 : Int32} {σ : ST} {q : Int32 × ST} (h : f_X1_isNumber  p0 σ = some q) : Met l yX1_isNumber (.code yX1_isNumber cX1_isNumber 2 (some .boolean) :: pw) ({ frames := 0, cells := 0, slots := 0, locals := 0 } : Room) (va_Pc [.ref (a 37), .int p0] (vPre dC dI (wA a k σ) (tA k) sz)) (qAi dC dI a k (va_A (wA a k σ) sz) q) 0 0 (va_A (wA a k σ) sz) := metA (fun A => qAi dC dI a k A q) (plainFor_of_name (by decide)) (Nat.le_of_ble_eq_true rfl) (fun _ _ _ _ _ _ _ _ hC => b_X1_isNumber_e hC h)

def f_X1_isWritten (p0 : Int32) (σ : ST) : Option (Int32 × ST) := (f_X1_isNumber  p0 σ).bind fun q1 => if q1.1 = 0 then (some (0, q1.2)) else (if 0 ≤ p0.toInt ∧ p0.toInt < 4 then (if (q1.2.1 40 p0.toNatClampNeg) = (-1) then (some (0, q1.2)) else (some (1, q1.2))) else none)

set_option maxRecDepth 100000 in
set_option maxHeartbeats 4000000 in
theorem b_X1_isWritten_e {p : Program} {l : Launch} {e : Env} {s : State} {m : MethodId} {args : Array Value} {below : List Frame} {meth : Method} {c : Code} {dC : Nat → ClassId} {dI : Nat → Nat → Nat} {a : Nat → Nat} {k : Nat → ClassId} {A : Nat → Prop} {q : Int32 × ST} (hC : CxA p s m args meth c dC dI k A cX1_isWritten RX1 (some .boolean) 2)   {p0 : Int32} {σ : ST} (h : f_X1_isWritten  p0 σ = some q) : GoA p l e ({ frames := 1, cells := 0, slots := 0, locals := 21 } : Room) s m args below meth c (MQ below (qAi dC dI a k A q) args s 0 0 A) dC dI a k A 2 0 σ (lv_args 0 [.ref (a 37), .int p0]) [] := by
  have hC0 := hC
  obtain ⟨hx, hb, hr, hml, hown, hts, hlocks, hA, hN, hK⟩ := hC0
  intro H locs ls hP hD hS hl
  have hD0 : ∀ σ1 : ST, va_D A (wA a k σ1) := fun σ1 => wA_D hD
  replace hl : lv_has ls 2 [(0, .ref (a 37)), (1, .int p0)] := hl
  unfold f_X1_isWritten at h
  refine lv_aload_n hx hb dX1_isWritten_0 rfl (lv_at hl 0 rfl) ?_
  refine lv_iload_n hx hb dX1_isWritten_1 rfl (lv_at hl 1 rfl) ?_
  obtain ⟨q1, hc, h⟩ := ib h
  have hF := va_frees hD hS hA
  refine va_calli (va_runV (As := [.int p0]) (rest := []) ⟨hx, hb, hml, hown, hts⟩ (s_X1_isNumber hc) (cwV 1 hts (gV mw_4_11 mw_4_12 mw_4_13 mw_0_5 mw_47_29) rfl rfl rfl (by decide +kernel) ⟨(Nat.le_of_ble_eq_true rfl), (Nat.le_of_ble_eq_true rfl)⟩) (vV (ci := 1) (q0 := 37) hK hP hD hN rfl gA_37) rfl rfl hl.1 rfl (lv_room (Nat.le_of_ble_eq_true rfl)) dX1_isWritten_2 ⟨(Nat.le_of_ble_eq_true rfl), (Nat.le_of_ble_eq_true rfl)⟩) hS (fun q _ h => hF q h) hF (fun r2 u t H locs ht hvm hw hB _ _ hS => ?_)
  obtain rfl : r2 = q1.1 := hw
  replace hP : va_P (dC, dI) vwCl (wA a k q1.2) H := by rw [← ht]; exact hB.1
  replace hD := hD0 (q1.2)
  clear hB hF
  refine lv_if_eq (tgt := 22) hx hb dX1_isWritten_5 (by decide) (fun hc => ?_) (fun hc => ?_)
  · replace h := ip hc h
    refine lv_iconst (v := 0) hx hb dX1_isWritten_22 (by decide) ?_
    obtain rfl := Option.some.inj h
    exact W.zret hx hb hr rfl (fun t ht hW => ⟨⟨_, (), rfl, rfl, ⟨by rw [ht]; exact hP, va_K.moved hW.alike hK, hD⟩⟩, hS.F ht⟩) hS.2.2 dX1_isWritten_23
  · replace h := iq hc h
    refine lv_aload_n hx hb dX1_isWritten_8 rfl (lv_at hl 0 rfl) ?_
    refine va_get (D := (dC, dI)) (ci := 1) (C := RX1) (T := TX1) (N := 3) hx hb hts inlX1 hown hK hP 37 gA_37 rfl 2 (by decide) (hts (.fieldLink RX1 19 "ShapeReader$Messages" "plansUsed" "[I") mw_4_9) (fun _ h9 => h9) rfl dX1_isWritten_9 ?_
    refine lv_iload_n hx hb dX1_isWritten_12 rfl (lv_at hl 1 rfl) ?_
    obtain ⟨hg3, h⟩ := ig h
    refine va_iald hx hb hK hP 40 34 gA_40 yA_40 (vp_in_iff.mpr hg3) dX1_isWritten_13 ?_
    refine lv_iconst (v := (-1)) hx hb dX1_isWritten_14 (by decide) ?_
    refine lv_icmp_eq (tgt := 22) hx hb dX1_isWritten_15 (by decide) (fun hc => ?_) (fun hc => ?_)
    · replace h := ip hc h
      refine lv_iconst (v := 0) hx hb dX1_isWritten_22 (by decide) ?_
      obtain rfl := Option.some.inj h
      exact W.zret hx hb hr rfl (fun t ht hW => ⟨⟨_, (), rfl, rfl, ⟨by rw [ht]; exact hP, va_K.moved hW.alike hK, hD⟩⟩, hS.F ht⟩) hS.2.2 dX1_isWritten_23
    · replace h := iq hc h
      refine lv_iconst (v := 1) hx hb dX1_isWritten_18 (by decide) ?_
      refine lv_goto (tgt := 23) hx hb dX1_isWritten_19 (by decide) ?_
      obtain rfl := Option.some.inj h
      exact W.zret hx hb hr rfl (fun t ht hW => ⟨⟨_, (), rfl, rfl, ⟨by rw [ht]; exact hP, va_K.moved hW.alike hK, hD⟩⟩, hS.F ht⟩) hS.2.2 dX1_isWritten_23

theorem s_X1_isWritten {l : Launch} {dC : Nat → ClassId} {dI : Nat → Nat → Nat} {a : Nat → Nat} {k : Nat → ClassId} {sz : Nat} {p0 : Int32} {σ : ST} {q : Int32 × ST} (h : f_X1_isWritten  p0 σ = some q) : Met l yX1_isWritten (.code yX1_isWritten cX1_isWritten 2 (some .boolean) :: pw) ({ frames := 1, cells := 0, slots := 0, locals := 21 } : Room) (va_Pc [.ref (a 37), .int p0] (vPre dC dI (wA a k σ) (tA k) sz)) (qAi dC dI a k (va_A (wA a k σ) sz) q) 0 0 (va_A (wA a k σ) sz) := metA (fun A => qAi dC dI a k A q) (plainFor_of_name (by decide)) (Nat.le_of_ble_eq_true rfl) (fun _ _ _ _ _ _ _ _ hC => b_X1_isWritten_e hC h)

def f_X1_planOf (p0 : Int32) (σ : ST) : Option (Int32 × ST) := (f_X1_isNumber  p0 σ).bind fun q1 => if q1.1 = 0 then (some ((-1), q1.2)) else (if 0 ≤ p0.toInt ∧ p0.toInt < 4 then (some ((q1.2.1 40 p0.toNatClampNeg), q1.2)) else none)

set_option maxRecDepth 100000 in
set_option maxHeartbeats 4000000 in
theorem b_X1_planOf_e {p : Program} {l : Launch} {e : Env} {s : State} {m : MethodId} {args : Array Value} {below : List Frame} {meth : Method} {c : Code} {dC : Nat → ClassId} {dI : Nat → Nat → Nat} {a : Nat → Nat} {k : Nat → ClassId} {A : Nat → Prop} {q : Int32 × ST} (hC : CxA p s m args meth c dC dI k A cX1_planOf RX1 (some .int) 2)   {p0 : Int32} {σ : ST} (h : f_X1_planOf  p0 σ = some q) : GoA p l e ({ frames := 1, cells := 0, slots := 0, locals := 21 } : Room) s m args below meth c (MQ below (qAi dC dI a k A q) args s 0 0 A) dC dI a k A 2 0 σ (lv_args 0 [.ref (a 37), .int p0]) [] := by
  have hC0 := hC
  obtain ⟨hx, hb, hr, hml, hown, hts, hlocks, hA, hN, hK⟩ := hC0
  intro H locs ls hP hD hS hl
  have hD0 : ∀ σ1 : ST, va_D A (wA a k σ1) := fun σ1 => wA_D hD
  replace hl : lv_has ls 2 [(0, .ref (a 37)), (1, .int p0)] := hl
  unfold f_X1_planOf at h
  refine lv_aload_n hx hb dX1_planOf_0 rfl (lv_at hl 0 rfl) ?_
  refine lv_iload_n hx hb dX1_planOf_1 rfl (lv_at hl 1 rfl) ?_
  obtain ⟨q1, hc, h⟩ := ib h
  have hF := va_frees hD hS hA
  refine va_calli (va_runV (As := [.int p0]) (rest := []) ⟨hx, hb, hml, hown, hts⟩ (s_X1_isNumber hc) (cwV 1 hts (gV mw_4_11 mw_4_12 mw_4_13 mw_0_5 mw_47_29) rfl rfl rfl (by decide +kernel) ⟨(Nat.le_of_ble_eq_true rfl), (Nat.le_of_ble_eq_true rfl)⟩) (vV (ci := 1) (q0 := 37) hK hP hD hN rfl gA_37) rfl rfl hl.1 rfl (lv_room (Nat.le_of_ble_eq_true rfl)) dX1_planOf_2 ⟨(Nat.le_of_ble_eq_true rfl), (Nat.le_of_ble_eq_true rfl)⟩) hS (fun q _ h => hF q h) hF (fun r2 u t H locs ht hvm hw hB _ _ hS => ?_)
  obtain rfl : r2 = q1.1 := hw
  replace hP : va_P (dC, dI) vwCl (wA a k q1.2) H := by rw [← ht]; exact hB.1
  replace hD := hD0 (q1.2)
  clear hB hF
  refine lv_if_eq (tgt := 17) hx hb dX1_planOf_5 (by decide) (fun hc => ?_) (fun hc => ?_)
  · replace h := ip hc h
    refine lv_iconst (v := (-1)) hx hb dX1_planOf_17 (by decide) ?_
    obtain rfl := Option.some.inj h
    exact W.iret hx hb hr (fun t ht hW => ⟨⟨_, (), rfl, rfl, ⟨by rw [ht]; exact hP, va_K.moved hW.alike hK, hD⟩⟩, hS.F ht⟩) hS.2.2 dX1_planOf_18
  · replace h := iq hc h
    refine lv_aload_n hx hb dX1_planOf_8 rfl (lv_at hl 0 rfl) ?_
    refine va_get (D := (dC, dI)) (ci := 1) (C := RX1) (T := TX1) (N := 3) hx hb hts inlX1 hown hK hP 37 gA_37 rfl 2 (by decide) (hts (.fieldLink RX1 19 "ShapeReader$Messages" "plansUsed" "[I") mw_4_9) (fun _ h9 => h9) rfl dX1_planOf_9 ?_
    refine lv_iload_n hx hb dX1_planOf_12 rfl (lv_at hl 1 rfl) ?_
    obtain ⟨hg3, h⟩ := ig h
    refine va_iald hx hb hK hP 40 34 gA_40 yA_40 (vp_in_iff.mpr hg3) dX1_planOf_13 ?_
    refine lv_goto (tgt := 18) hx hb dX1_planOf_14 (by decide) ?_
    obtain rfl := Option.some.inj h
    exact W.iret hx hb hr (fun t ht hW => ⟨⟨_, (), rfl, rfl, ⟨by rw [ht]; exact hP, va_K.moved hW.alike hK, hD⟩⟩, hS.F ht⟩) hS.2.2 dX1_planOf_18

theorem s_X1_planOf {l : Launch} {dC : Nat → ClassId} {dI : Nat → Nat → Nat} {a : Nat → Nat} {k : Nat → ClassId} {sz : Nat} {p0 : Int32} {σ : ST} {q : Int32 × ST} (h : f_X1_planOf  p0 σ = some q) : Met l yX1_planOf (.code yX1_planOf cX1_planOf 2 (some .int) :: pw) ({ frames := 1, cells := 0, slots := 0, locals := 21 } : Room) (va_Pc [.ref (a 37), .int p0] (vPre dC dI (wA a k σ) (tA k) sz)) (qAi dC dI a k (va_A (wA a k σ) sz) q) 0 0 (va_A (wA a k σ) sz) := metA (fun A => qAi dC dI a k A q) (plainFor_of_name (by decide)) (Nat.le_of_ble_eq_true rfl) (fun _ _ _ _ _ _ _ _ hC => b_X1_planOf_e hC h)

def f_X1_sizeOf (p0 : Int32) (σ : ST) : Option (Int32 × ST) := (f_X1_isNumber  p0 σ).bind fun q1 => if q1.1 = 0 then (some (0, q1.2)) else (if 0 ≤ p0.toInt ∧ p0.toInt < 4 then (some ((q1.2.1 39 p0.toNatClampNeg), q1.2)) else none)

set_option maxRecDepth 100000 in
set_option maxHeartbeats 4000000 in
theorem b_X1_sizeOf_e {p : Program} {l : Launch} {e : Env} {s : State} {m : MethodId} {args : Array Value} {below : List Frame} {meth : Method} {c : Code} {dC : Nat → ClassId} {dI : Nat → Nat → Nat} {a : Nat → Nat} {k : Nat → ClassId} {A : Nat → Prop} {q : Int32 × ST} (hC : CxA p s m args meth c dC dI k A cX1_sizeOf RX1 (some .int) 2)   {p0 : Int32} {σ : ST} (h : f_X1_sizeOf  p0 σ = some q) : GoA p l e ({ frames := 1, cells := 0, slots := 0, locals := 21 } : Room) s m args below meth c (MQ below (qAi dC dI a k A q) args s 0 0 A) dC dI a k A 2 0 σ (lv_args 0 [.ref (a 37), .int p0]) [] := by
  have hC0 := hC
  obtain ⟨hx, hb, hr, hml, hown, hts, hlocks, hA, hN, hK⟩ := hC0
  intro H locs ls hP hD hS hl
  have hD0 : ∀ σ1 : ST, va_D A (wA a k σ1) := fun σ1 => wA_D hD
  replace hl : lv_has ls 2 [(0, .ref (a 37)), (1, .int p0)] := hl
  unfold f_X1_sizeOf at h
  refine lv_aload_n hx hb dX1_sizeOf_0 rfl (lv_at hl 0 rfl) ?_
  refine lv_iload_n hx hb dX1_sizeOf_1 rfl (lv_at hl 1 rfl) ?_
  obtain ⟨q1, hc, h⟩ := ib h
  have hF := va_frees hD hS hA
  refine va_calli (va_runV (As := [.int p0]) (rest := []) ⟨hx, hb, hml, hown, hts⟩ (s_X1_isNumber hc) (cwV 1 hts (gV mw_4_11 mw_4_12 mw_4_13 mw_0_5 mw_47_29) rfl rfl rfl (by decide +kernel) ⟨(Nat.le_of_ble_eq_true rfl), (Nat.le_of_ble_eq_true rfl)⟩) (vV (ci := 1) (q0 := 37) hK hP hD hN rfl gA_37) rfl rfl hl.1 rfl (lv_room (Nat.le_of_ble_eq_true rfl)) dX1_sizeOf_2 ⟨(Nat.le_of_ble_eq_true rfl), (Nat.le_of_ble_eq_true rfl)⟩) hS (fun q _ h => hF q h) hF (fun r2 u t H locs ht hvm hw hB _ _ hS => ?_)
  obtain rfl : r2 = q1.1 := hw
  replace hP : va_P (dC, dI) vwCl (wA a k q1.2) H := by rw [← ht]; exact hB.1
  replace hD := hD0 (q1.2)
  clear hB hF
  refine lv_if_eq (tgt := 17) hx hb dX1_sizeOf_5 (by decide) (fun hc => ?_) (fun hc => ?_)
  · replace h := ip hc h
    refine lv_iconst (v := 0) hx hb dX1_sizeOf_17 (by decide) ?_
    obtain rfl := Option.some.inj h
    exact W.iret hx hb hr (fun t ht hW => ⟨⟨_, (), rfl, rfl, ⟨by rw [ht]; exact hP, va_K.moved hW.alike hK, hD⟩⟩, hS.F ht⟩) hS.2.2 dX1_sizeOf_18
  · replace h := iq hc h
    refine lv_aload_n hx hb dX1_sizeOf_8 rfl (lv_at hl 0 rfl) ?_
    refine va_get (D := (dC, dI)) (ci := 1) (C := RX1) (T := TX1) (N := 3) hx hb hts inlX1 hown hK hP 37 gA_37 rfl 1 (by decide) (hts (.fieldLink RX1 15 "ShapeReader$Messages" "sizes" "[I") mw_4_8) (fun _ h9 => h9) rfl dX1_sizeOf_9 ?_
    refine lv_iload_n hx hb dX1_sizeOf_12 rfl (lv_at hl 1 rfl) ?_
    obtain ⟨hg3, h⟩ := ig h
    refine va_iald hx hb hK hP 39 33 gA_39 yA_39 (vp_in_iff.mpr hg3) dX1_sizeOf_13 ?_
    refine lv_goto (tgt := 18) hx hb dX1_sizeOf_14 (by decide) ?_
    obtain rfl := Option.some.inj h
    exact W.iret hx hb hr (fun t ht hW => ⟨⟨_, (), rfl, rfl, ⟨by rw [ht]; exact hP, va_K.moved hW.alike hK, hD⟩⟩, hS.F ht⟩) hS.2.2 dX1_sizeOf_18

theorem s_X1_sizeOf {l : Launch} {dC : Nat → ClassId} {dI : Nat → Nat → Nat} {a : Nat → Nat} {k : Nat → ClassId} {sz : Nat} {p0 : Int32} {σ : ST} {q : Int32 × ST} (h : f_X1_sizeOf  p0 σ = some q) : Met l yX1_sizeOf (.code yX1_sizeOf cX1_sizeOf 2 (some .int) :: pw) ({ frames := 1, cells := 0, slots := 0, locals := 21 } : Room) (va_Pc [.ref (a 37), .int p0] (vPre dC dI (wA a k σ) (tA k) sz)) (qAi dC dI a k (va_A (wA a k σ) sz) q) 0 0 (va_A (wA a k σ) sz) := metA (fun A => qAi dC dI a k A q) (plainFor_of_name (by decide)) (Nat.le_of_ble_eq_true rfl) (fun _ _ _ _ _ _ _ _ hC => b_X1_sizeOf_e hC h)

def f_X4_fail_29 (b : Nat) (t : Nat) (σ : ST) : Option (ST) := some (stI σ b 10 0)
def f_X4_fail (b : Nat) (t : Nat) (p0 : Int32) (p1 : Int32) (σ : ST) : Option (ST) := if (σ.1 b 7) = 0 then (if p0 = 14 then (f_X4_fail_29 b t  (stI (stI σ b 7 p0) b 8 p1)) else (if p0 = 15 then (f_X4_fail_29 b t  (stI (stI σ b 7 p0) b 8 p1)) else (some (stI (stI σ b 7 p0) b 8 p1)))) else (some σ)

set_option maxRecDepth 100000 in
set_option maxHeartbeats 4000000 in
theorem b_X4_fail_29_89_50 {p : Program} {l : Launch} {e : Env} {s : State} {m : MethodId} {args : Array Value} {below : List Frame} {meth : Method} {c : Code} {dC : Nat → ClassId} {dI : Nat → Nat → Nat} {a : Nat → Nat} {k : Nat → ClassId} {A : Nat → Prop} {q : ST} (hC : CxA p s m args meth c dC dI k A cX4_fail RX4 none 3)    {σ : ST} (h : f_X4_fail_29 89 50  σ = some q) : GoA p l e ({ frames := 0, cells := 0, slots := 0, locals := 0 } : Room) s m args below meth c (MQ below (qAv dC dI a k A q) args s 0 0 A) dC dI a k A 3 29 σ [(0, .ref (a 89))] [] := by
  have hC0 := hC
  obtain ⟨hx, hb, hr, hml, hown, hts, hlocks, hA, hN, hK⟩ := hC0
  intro H locs ls hP hD hS hl
  have hD0 : ∀ σ1 : ST, va_D A (wA a k σ1) := fun σ1 => wA_D hD
  unfold f_X4_fail_29 at h
  refine lv_aload_n hx hb dX4_fail_29 rfl (lv_at hl 0 rfl) ?_
  refine lv_iconst (v := 0) hx hb dX4_fail_30 (by decide) ?_
  refine va_put (D := (dC, dI)) (ci := 4) (ty := .int) (C := RX4) (T := TX4) (N := 12) hx hb hts inlX4 tyX4 tyX4_ok nmX4 hown hK hP hD hS 89 gA_89 rfl 10 (by decide) (hts (.fieldLink RX4 31 "ShapeReader$Reading" "steps" "I") mw_10_26) (fun _ h9 => h9) rfl (by decide +kernel) rfl rfl (Nat.le_of_ble_eq_true rfl) dX4_fail_31 (fun H locs hP hD hS => ?_)
  replace hP := uA_89_10 hP
  replace hD := hD0 ((stI σ 89 10 0))
  obtain rfl := Option.some.inj h
  exact W.vret hx hb hr (fun t ht hW => ⟨⟨(), rfl, trivial, ⟨by rw [ht]; exact hP, va_K.moved hW.alike hK, hD⟩⟩, hS.F ht⟩) hS.2.2 dX4_fail_34

set_option maxRecDepth 100000 in
set_option maxHeartbeats 4000000 in
theorem b_X4_fail_e_89_50 {p : Program} {l : Launch} {e : Env} {s : State} {m : MethodId} {args : Array Value} {below : List Frame} {meth : Method} {c : Code} {dC : Nat → ClassId} {dI : Nat → Nat → Nat} {a : Nat → Nat} {k : Nat → ClassId} {A : Nat → Prop} {q : ST} (hC : CxA p s m args meth c dC dI k A cX4_fail RX4 none 3)   {p0 : Int32} {p1 : Int32} {σ : ST} (h : f_X4_fail 89 50 p0 p1 σ = some q) : GoA p l e ({ frames := 0, cells := 0, slots := 0, locals := 0 } : Room) s m args below meth c (MQ below (qAv dC dI a k A q) args s 0 0 A) dC dI a k A 3 0 σ (lv_args 0 [.ref (a 89), .int p0, .int p1]) [] := by
  have hC0 := hC
  obtain ⟨hx, hb, hr, hml, hown, hts, hlocks, hA, hN, hK⟩ := hC0
  intro H locs ls hP hD hS hl
  have hD0 : ∀ σ1 : ST, va_D A (wA a k σ1) := fun σ1 => wA_D hD
  replace hl : lv_has ls 3 [(0, .ref (a 89)), (1, .int p0), (2, .int p1)] := hl
  unfold f_X4_fail at h
  refine lv_aload_n hx hb dX4_fail_0 rfl (lv_at hl 0 rfl) ?_
  refine va_get (D := (dC, dI)) (ci := 4) (C := RX4) (T := TX4) (N := 12) hx hb hts inlX4 hown hK hP 89 gA_89 rfl 7 (by decide) (hts (.fieldLink RX4 21 "ShapeReader$Reading" "failure" "I") mw_10_23) (fun _ h9 => h9) rfl dX4_fail_1 ?_
  refine lv_if_ne (tgt := 34) hx hb dX4_fail_4 (by decide) (fun hc => ?_) (fun hc => ?_)
  · replace h := iq hc h
    obtain rfl := Option.some.inj h
    exact W.vret hx hb hr (fun t ht hW => ⟨⟨(), rfl, trivial, ⟨by rw [ht]; exact hP, va_K.moved hW.alike hK, hD⟩⟩, hS.F ht⟩) hS.2.2 dX4_fail_34
  · replace h := ip hc h
    refine lv_aload_n hx hb dX4_fail_7 rfl (lv_at hl 0 rfl) ?_
    refine lv_iload_n hx hb dX4_fail_8 rfl (lv_at hl 1 rfl) ?_
    refine va_put (D := (dC, dI)) (ci := 4) (ty := .int) (C := RX4) (T := TX4) (N := 12) hx hb hts inlX4 tyX4 tyX4_ok nmX4 hown hK hP hD hS 89 gA_89 rfl 7 (by decide) (hts (.fieldLink RX4 21 "ShapeReader$Reading" "failure" "I") mw_10_23) (fun _ h9 => h9) rfl (by decide +kernel) rfl rfl (Nat.le_of_ble_eq_true rfl) dX4_fail_9 (fun H locs hP hD hS => ?_)
    replace hP := uA_89_7 hP
    replace hD := hD0 ((stI σ 89 7 p0))
    refine lv_aload_n hx hb dX4_fail_12 rfl (lv_at hl 0 rfl) ?_
    refine lv_iload_n hx hb dX4_fail_13 rfl (lv_at hl 2 rfl) ?_
    refine va_put (D := (dC, dI)) (ci := 4) (ty := .int) (C := RX4) (T := TX4) (N := 12) hx hb hts inlX4 tyX4 tyX4_ok nmX4 hown hK hP hD hS 89 gA_89 rfl 8 (by decide) (hts (.fieldLink RX4 24 "ShapeReader$Reading" "failedAt" "I") mw_10_24) (fun _ h9 => h9) rfl (by decide +kernel) rfl rfl (Nat.le_of_ble_eq_true rfl) dX4_fail_14 (fun H locs hP hD hS => ?_)
    replace hP := uA_89_8 hP
    replace hD := hD0 ((stI (stI σ 89 7 p0) 89 8 p1))
    refine lv_iload_n hx hb dX4_fail_17 rfl (lv_at hl 1 rfl) ?_
    refine lv_bipush (v := 14) hx hb dX4_fail_18 (by decide) ?_
    refine lv_icmp_eq (tgt := 29) hx hb dX4_fail_20 (by decide) (fun hc => ?_) (fun hc => ?_)
    · replace h := ip hc h
      exact b_X4_fail_29_89_50 hC h _ _ _ hP hD hS (lv_sub hl [0] rfl)
    · replace h := iq hc h
      refine lv_iload_n hx hb dX4_fail_23 rfl (lv_at hl 1 rfl) ?_
      refine lv_bipush (v := 15) hx hb dX4_fail_24 (by decide) ?_
      refine lv_icmp_ne (tgt := 34) hx hb dX4_fail_26 (by decide) (fun hc => ?_) (fun hc => ?_)
      · replace h := iq hc h
        obtain rfl := Option.some.inj h
        exact W.vret hx hb hr (fun t ht hW => ⟨⟨(), rfl, trivial, ⟨by rw [ht]; exact hP, va_K.moved hW.alike hK, hD⟩⟩, hS.F ht⟩) hS.2.2 dX4_fail_34
      · replace h := ip hc h
        exact b_X4_fail_29_89_50 hC h _ _ _ hP hD hS (lv_sub hl [0] rfl)

theorem s_X4_fail_89_50 {l : Launch} {dC : Nat → ClassId} {dI : Nat → Nat → Nat} {a : Nat → Nat} {k : Nat → ClassId} {sz : Nat} {p0 : Int32} {p1 : Int32} {σ : ST} {q : ST} (h : f_X4_fail 89 50 p0 p1 σ = some q) : Met l yX4_fail (.code yX4_fail cX4_fail 3 none :: pw) ({ frames := 0, cells := 0, slots := 0, locals := 0 } : Room) (va_Pc [.ref (a 89), .int p0, .int p1] (vPre dC dI (wA a k σ) (tA k) sz)) (qAv dC dI a k (va_A (wA a k σ) sz) q) 0 0 (va_A (wA a k σ) sz) := metA (fun A => qAv dC dI a k A q) (plainFor_of_name (by decide)) (Nat.le_of_ble_eq_true rfl) (fun _ _ _ _ _ _ _ _ hC => b_X4_fail_e_89_50 hC h)

set_option maxRecDepth 100000 in
set_option maxHeartbeats 4000000 in
theorem b_X4_fail_29_92_62 {p : Program} {l : Launch} {e : Env} {s : State} {m : MethodId} {args : Array Value} {below : List Frame} {meth : Method} {c : Code} {dC : Nat → ClassId} {dI : Nat → Nat → Nat} {a : Nat → Nat} {k : Nat → ClassId} {A : Nat → Prop} {q : ST} (hC : CxA p s m args meth c dC dI k A cX4_fail RX4 none 3)    {σ : ST} (h : f_X4_fail_29 92 62  σ = some q) : GoA p l e ({ frames := 0, cells := 0, slots := 0, locals := 0 } : Room) s m args below meth c (MQ below (qAv dC dI a k A q) args s 0 0 A) dC dI a k A 3 29 σ [(0, .ref (a 92))] [] := by
  have hC0 := hC
  obtain ⟨hx, hb, hr, hml, hown, hts, hlocks, hA, hN, hK⟩ := hC0
  intro H locs ls hP hD hS hl
  have hD0 : ∀ σ1 : ST, va_D A (wA a k σ1) := fun σ1 => wA_D hD
  unfold f_X4_fail_29 at h
  refine lv_aload_n hx hb dX4_fail_29 rfl (lv_at hl 0 rfl) ?_
  refine lv_iconst (v := 0) hx hb dX4_fail_30 (by decide) ?_
  refine va_put (D := (dC, dI)) (ci := 4) (ty := .int) (C := RX4) (T := TX4) (N := 12) hx hb hts inlX4 tyX4 tyX4_ok nmX4 hown hK hP hD hS 92 gA_92 rfl 10 (by decide) (hts (.fieldLink RX4 31 "ShapeReader$Reading" "steps" "I") mw_10_26) (fun _ h9 => h9) rfl (by decide +kernel) rfl rfl (Nat.le_of_ble_eq_true rfl) dX4_fail_31 (fun H locs hP hD hS => ?_)
  replace hP := uA_92_10 hP
  replace hD := hD0 ((stI σ 92 10 0))
  obtain rfl := Option.some.inj h
  exact W.vret hx hb hr (fun t ht hW => ⟨⟨(), rfl, trivial, ⟨by rw [ht]; exact hP, va_K.moved hW.alike hK, hD⟩⟩, hS.F ht⟩) hS.2.2 dX4_fail_34

set_option maxRecDepth 100000 in
set_option maxHeartbeats 4000000 in
theorem b_X4_fail_e_92_62 {p : Program} {l : Launch} {e : Env} {s : State} {m : MethodId} {args : Array Value} {below : List Frame} {meth : Method} {c : Code} {dC : Nat → ClassId} {dI : Nat → Nat → Nat} {a : Nat → Nat} {k : Nat → ClassId} {A : Nat → Prop} {q : ST} (hC : CxA p s m args meth c dC dI k A cX4_fail RX4 none 3)   {p0 : Int32} {p1 : Int32} {σ : ST} (h : f_X4_fail 92 62 p0 p1 σ = some q) : GoA p l e ({ frames := 0, cells := 0, slots := 0, locals := 0 } : Room) s m args below meth c (MQ below (qAv dC dI a k A q) args s 0 0 A) dC dI a k A 3 0 σ (lv_args 0 [.ref (a 92), .int p0, .int p1]) [] := by
  have hC0 := hC
  obtain ⟨hx, hb, hr, hml, hown, hts, hlocks, hA, hN, hK⟩ := hC0
  intro H locs ls hP hD hS hl
  have hD0 : ∀ σ1 : ST, va_D A (wA a k σ1) := fun σ1 => wA_D hD
  replace hl : lv_has ls 3 [(0, .ref (a 92)), (1, .int p0), (2, .int p1)] := hl
  unfold f_X4_fail at h
  refine lv_aload_n hx hb dX4_fail_0 rfl (lv_at hl 0 rfl) ?_
  refine va_get (D := (dC, dI)) (ci := 4) (C := RX4) (T := TX4) (N := 12) hx hb hts inlX4 hown hK hP 92 gA_92 rfl 7 (by decide) (hts (.fieldLink RX4 21 "ShapeReader$Reading" "failure" "I") mw_10_23) (fun _ h9 => h9) rfl dX4_fail_1 ?_
  refine lv_if_ne (tgt := 34) hx hb dX4_fail_4 (by decide) (fun hc => ?_) (fun hc => ?_)
  · replace h := iq hc h
    obtain rfl := Option.some.inj h
    exact W.vret hx hb hr (fun t ht hW => ⟨⟨(), rfl, trivial, ⟨by rw [ht]; exact hP, va_K.moved hW.alike hK, hD⟩⟩, hS.F ht⟩) hS.2.2 dX4_fail_34
  · replace h := ip hc h
    refine lv_aload_n hx hb dX4_fail_7 rfl (lv_at hl 0 rfl) ?_
    refine lv_iload_n hx hb dX4_fail_8 rfl (lv_at hl 1 rfl) ?_
    refine va_put (D := (dC, dI)) (ci := 4) (ty := .int) (C := RX4) (T := TX4) (N := 12) hx hb hts inlX4 tyX4 tyX4_ok nmX4 hown hK hP hD hS 92 gA_92 rfl 7 (by decide) (hts (.fieldLink RX4 21 "ShapeReader$Reading" "failure" "I") mw_10_23) (fun _ h9 => h9) rfl (by decide +kernel) rfl rfl (Nat.le_of_ble_eq_true rfl) dX4_fail_9 (fun H locs hP hD hS => ?_)
    replace hP := uA_92_7 hP
    replace hD := hD0 ((stI σ 92 7 p0))
    refine lv_aload_n hx hb dX4_fail_12 rfl (lv_at hl 0 rfl) ?_
    refine lv_iload_n hx hb dX4_fail_13 rfl (lv_at hl 2 rfl) ?_
    refine va_put (D := (dC, dI)) (ci := 4) (ty := .int) (C := RX4) (T := TX4) (N := 12) hx hb hts inlX4 tyX4 tyX4_ok nmX4 hown hK hP hD hS 92 gA_92 rfl 8 (by decide) (hts (.fieldLink RX4 24 "ShapeReader$Reading" "failedAt" "I") mw_10_24) (fun _ h9 => h9) rfl (by decide +kernel) rfl rfl (Nat.le_of_ble_eq_true rfl) dX4_fail_14 (fun H locs hP hD hS => ?_)
    replace hP := uA_92_8 hP
    replace hD := hD0 ((stI (stI σ 92 7 p0) 92 8 p1))
    refine lv_iload_n hx hb dX4_fail_17 rfl (lv_at hl 1 rfl) ?_
    refine lv_bipush (v := 14) hx hb dX4_fail_18 (by decide) ?_
    refine lv_icmp_eq (tgt := 29) hx hb dX4_fail_20 (by decide) (fun hc => ?_) (fun hc => ?_)
    · replace h := ip hc h
      exact b_X4_fail_29_92_62 hC h _ _ _ hP hD hS (lv_sub hl [0] rfl)
    · replace h := iq hc h
      refine lv_iload_n hx hb dX4_fail_23 rfl (lv_at hl 1 rfl) ?_
      refine lv_bipush (v := 15) hx hb dX4_fail_24 (by decide) ?_
      refine lv_icmp_ne (tgt := 34) hx hb dX4_fail_26 (by decide) (fun hc => ?_) (fun hc => ?_)
      · replace h := iq hc h
        obtain rfl := Option.some.inj h
        exact W.vret hx hb hr (fun t ht hW => ⟨⟨(), rfl, trivial, ⟨by rw [ht]; exact hP, va_K.moved hW.alike hK, hD⟩⟩, hS.F ht⟩) hS.2.2 dX4_fail_34
      · replace h := ip hc h
        exact b_X4_fail_29_92_62 hC h _ _ _ hP hD hS (lv_sub hl [0] rfl)

theorem s_X4_fail_92_62 {l : Launch} {dC : Nat → ClassId} {dI : Nat → Nat → Nat} {a : Nat → Nat} {k : Nat → ClassId} {sz : Nat} {p0 : Int32} {p1 : Int32} {σ : ST} {q : ST} (h : f_X4_fail 92 62 p0 p1 σ = some q) : Met l yX4_fail (.code yX4_fail cX4_fail 3 none :: pw) ({ frames := 0, cells := 0, slots := 0, locals := 0 } : Room) (va_Pc [.ref (a 92), .int p0, .int p1] (vPre dC dI (wA a k σ) (tA k) sz)) (qAv dC dI a k (va_A (wA a k σ) sz) q) 0 0 (va_A (wA a k σ) sz) := metA (fun A => qAv dC dI a k A q) (plainFor_of_name (by decide)) (Nat.le_of_ble_eq_true rfl) (fun _ _ _ _ _ _ _ _ hC => b_X4_fail_e_92_62 hC h)

set_option maxRecDepth 100000 in
set_option maxHeartbeats 4000000 in
theorem b_X4_fail_29_92_74 {p : Program} {l : Launch} {e : Env} {s : State} {m : MethodId} {args : Array Value} {below : List Frame} {meth : Method} {c : Code} {dC : Nat → ClassId} {dI : Nat → Nat → Nat} {a : Nat → Nat} {k : Nat → ClassId} {A : Nat → Prop} {q : ST} (hC : CxA p s m args meth c dC dI k A cX4_fail RX4 none 3)    {σ : ST} (h : f_X4_fail_29 92 74  σ = some q) : GoA p l e ({ frames := 0, cells := 0, slots := 0, locals := 0 } : Room) s m args below meth c (MQ below (qAv dC dI a k A q) args s 0 0 A) dC dI a k A 3 29 σ [(0, .ref (a 92))] [] := by
  have hC0 := hC
  obtain ⟨hx, hb, hr, hml, hown, hts, hlocks, hA, hN, hK⟩ := hC0
  intro H locs ls hP hD hS hl
  have hD0 : ∀ σ1 : ST, va_D A (wA a k σ1) := fun σ1 => wA_D hD
  unfold f_X4_fail_29 at h
  refine lv_aload_n hx hb dX4_fail_29 rfl (lv_at hl 0 rfl) ?_
  refine lv_iconst (v := 0) hx hb dX4_fail_30 (by decide) ?_
  refine va_put (D := (dC, dI)) (ci := 4) (ty := .int) (C := RX4) (T := TX4) (N := 12) hx hb hts inlX4 tyX4 tyX4_ok nmX4 hown hK hP hD hS 92 gA_92 rfl 10 (by decide) (hts (.fieldLink RX4 31 "ShapeReader$Reading" "steps" "I") mw_10_26) (fun _ h9 => h9) rfl (by decide +kernel) rfl rfl (Nat.le_of_ble_eq_true rfl) dX4_fail_31 (fun H locs hP hD hS => ?_)
  replace hP := uA_92_10 hP
  replace hD := hD0 ((stI σ 92 10 0))
  obtain rfl := Option.some.inj h
  exact W.vret hx hb hr (fun t ht hW => ⟨⟨(), rfl, trivial, ⟨by rw [ht]; exact hP, va_K.moved hW.alike hK, hD⟩⟩, hS.F ht⟩) hS.2.2 dX4_fail_34

set_option maxRecDepth 100000 in
set_option maxHeartbeats 4000000 in
theorem b_X4_fail_e_92_74 {p : Program} {l : Launch} {e : Env} {s : State} {m : MethodId} {args : Array Value} {below : List Frame} {meth : Method} {c : Code} {dC : Nat → ClassId} {dI : Nat → Nat → Nat} {a : Nat → Nat} {k : Nat → ClassId} {A : Nat → Prop} {q : ST} (hC : CxA p s m args meth c dC dI k A cX4_fail RX4 none 3)   {p0 : Int32} {p1 : Int32} {σ : ST} (h : f_X4_fail 92 74 p0 p1 σ = some q) : GoA p l e ({ frames := 0, cells := 0, slots := 0, locals := 0 } : Room) s m args below meth c (MQ below (qAv dC dI a k A q) args s 0 0 A) dC dI a k A 3 0 σ (lv_args 0 [.ref (a 92), .int p0, .int p1]) [] := by
  have hC0 := hC
  obtain ⟨hx, hb, hr, hml, hown, hts, hlocks, hA, hN, hK⟩ := hC0
  intro H locs ls hP hD hS hl
  have hD0 : ∀ σ1 : ST, va_D A (wA a k σ1) := fun σ1 => wA_D hD
  replace hl : lv_has ls 3 [(0, .ref (a 92)), (1, .int p0), (2, .int p1)] := hl
  unfold f_X4_fail at h
  refine lv_aload_n hx hb dX4_fail_0 rfl (lv_at hl 0 rfl) ?_
  refine va_get (D := (dC, dI)) (ci := 4) (C := RX4) (T := TX4) (N := 12) hx hb hts inlX4 hown hK hP 92 gA_92 rfl 7 (by decide) (hts (.fieldLink RX4 21 "ShapeReader$Reading" "failure" "I") mw_10_23) (fun _ h9 => h9) rfl dX4_fail_1 ?_
  refine lv_if_ne (tgt := 34) hx hb dX4_fail_4 (by decide) (fun hc => ?_) (fun hc => ?_)
  · replace h := iq hc h
    obtain rfl := Option.some.inj h
    exact W.vret hx hb hr (fun t ht hW => ⟨⟨(), rfl, trivial, ⟨by rw [ht]; exact hP, va_K.moved hW.alike hK, hD⟩⟩, hS.F ht⟩) hS.2.2 dX4_fail_34
  · replace h := ip hc h
    refine lv_aload_n hx hb dX4_fail_7 rfl (lv_at hl 0 rfl) ?_
    refine lv_iload_n hx hb dX4_fail_8 rfl (lv_at hl 1 rfl) ?_
    refine va_put (D := (dC, dI)) (ci := 4) (ty := .int) (C := RX4) (T := TX4) (N := 12) hx hb hts inlX4 tyX4 tyX4_ok nmX4 hown hK hP hD hS 92 gA_92 rfl 7 (by decide) (hts (.fieldLink RX4 21 "ShapeReader$Reading" "failure" "I") mw_10_23) (fun _ h9 => h9) rfl (by decide +kernel) rfl rfl (Nat.le_of_ble_eq_true rfl) dX4_fail_9 (fun H locs hP hD hS => ?_)
    replace hP := uA_92_7 hP
    replace hD := hD0 ((stI σ 92 7 p0))
    refine lv_aload_n hx hb dX4_fail_12 rfl (lv_at hl 0 rfl) ?_
    refine lv_iload_n hx hb dX4_fail_13 rfl (lv_at hl 2 rfl) ?_
    refine va_put (D := (dC, dI)) (ci := 4) (ty := .int) (C := RX4) (T := TX4) (N := 12) hx hb hts inlX4 tyX4 tyX4_ok nmX4 hown hK hP hD hS 92 gA_92 rfl 8 (by decide) (hts (.fieldLink RX4 24 "ShapeReader$Reading" "failedAt" "I") mw_10_24) (fun _ h9 => h9) rfl (by decide +kernel) rfl rfl (Nat.le_of_ble_eq_true rfl) dX4_fail_14 (fun H locs hP hD hS => ?_)
    replace hP := uA_92_8 hP
    replace hD := hD0 ((stI (stI σ 92 7 p0) 92 8 p1))
    refine lv_iload_n hx hb dX4_fail_17 rfl (lv_at hl 1 rfl) ?_
    refine lv_bipush (v := 14) hx hb dX4_fail_18 (by decide) ?_
    refine lv_icmp_eq (tgt := 29) hx hb dX4_fail_20 (by decide) (fun hc => ?_) (fun hc => ?_)
    · replace h := ip hc h
      exact b_X4_fail_29_92_74 hC h _ _ _ hP hD hS (lv_sub hl [0] rfl)
    · replace h := iq hc h
      refine lv_iload_n hx hb dX4_fail_23 rfl (lv_at hl 1 rfl) ?_
      refine lv_bipush (v := 15) hx hb dX4_fail_24 (by decide) ?_
      refine lv_icmp_ne (tgt := 34) hx hb dX4_fail_26 (by decide) (fun hc => ?_) (fun hc => ?_)
      · replace h := iq hc h
        obtain rfl := Option.some.inj h
        exact W.vret hx hb hr (fun t ht hW => ⟨⟨(), rfl, trivial, ⟨by rw [ht]; exact hP, va_K.moved hW.alike hK, hD⟩⟩, hS.F ht⟩) hS.2.2 dX4_fail_34
      · replace h := ip hc h
        exact b_X4_fail_29_92_74 hC h _ _ _ hP hD hS (lv_sub hl [0] rfl)

theorem s_X4_fail_92_74 {l : Launch} {dC : Nat → ClassId} {dI : Nat → Nat → Nat} {a : Nat → Nat} {k : Nat → ClassId} {sz : Nat} {p0 : Int32} {p1 : Int32} {σ : ST} {q : ST} (h : f_X4_fail 92 74 p0 p1 σ = some q) : Met l yX4_fail (.code yX4_fail cX4_fail 3 none :: pw) ({ frames := 0, cells := 0, slots := 0, locals := 0 } : Room) (va_Pc [.ref (a 92), .int p0, .int p1] (vPre dC dI (wA a k σ) (tA k) sz)) (qAv dC dI a k (va_A (wA a k σ) sz) q) 0 0 (va_A (wA a k σ) sz) := metA (fun A => qAv dC dI a k A q) (plainFor_of_name (by decide)) (Nat.le_of_ble_eq_true rfl) (fun _ _ _ _ _ _ _ _ hC => b_X4_fail_e_92_74 hC h)

def f_X5_emptyHeight (b : Nat) (p0 : Int32) (σ : ST) : Option (Int32 × ST) := (f_X5_sortOf b p0 σ).bind fun q1 => if q1.1 = 0 then (some (0, q1.2)) else ((f_X5_innerOf b p0 q1.2).bind fun q3 => (f_X5_sortOf b p0 q3.2).bind fun q5 => if q5.1 = 7 then ((f_X5_isRecord  q3.1 q5.2).bind fun q7 => if q7.1 = 0 then (some ((-1), q7.2)) else (if 0 ≤ q3.1.toInt ∧ q3.1.toInt < 36 then (some ((q7.2.1 (b + 6) q3.1.toNatClampNeg), q7.2)) else none)) else (some ((-1), q5.2)))

set_option maxRecDepth 100000 in
set_option maxHeartbeats 4000000 in
theorem b_X5_emptyHeight_e_4 {p : Program} {l : Launch} {e : Env} {s : State} {m : MethodId} {args : Array Value} {below : List Frame} {meth : Method} {c : Code} {dC : Nat → ClassId} {dI : Nat → Nat → Nat} {a : Nat → Nat} {k : Nat → ClassId} {A : Nat → Prop} {q : Int32 × ST} (hC : CxA p s m args meth c dC dI k A cX5_emptyHeight RX5 (some .int) 3)   {p0 : Int32} {σ : ST} (h : f_X5_emptyHeight 4 p0 σ = some q) : GoA p l e ({ frames := 2, cells := 0, slots := 0, locals := 42 } : Room) s m args below meth c (MQ below (qAi dC dI a k A q) args s 0 0 A) dC dI a k A 3 0 σ (lv_args 0 [.ref (a 4), .int p0]) [] := by
  have hC0 := hC
  obtain ⟨hx, hb, hr, hml, hown, hts, hlocks, hA, hN, hK⟩ := hC0
  intro H locs ls hP hD hS hl
  have hD0 : ∀ σ1 : ST, va_D A (wA a k σ1) := fun σ1 => wA_D hD
  replace hl : lv_has ls 3 [(0, .ref (a 4)), (1, .int p0)] := hl
  unfold f_X5_emptyHeight at h
  refine lv_aload_n hx hb dX5_emptyHeight_0 rfl (lv_at hl 0 rfl) ?_
  refine lv_iload_n hx hb dX5_emptyHeight_1 rfl (lv_at hl 1 rfl) ?_
  obtain ⟨q1, hc, h⟩ := ib h
  have hF := va_frees hD hS hA
  refine va_calli (va_runV (As := [.int p0]) (rest := []) ⟨hx, hb, hml, hown, hts⟩ (s_X5_sortOf_4 hc) (cwV 1 hts (gV mw_15_12 mw_2_13 mw_2_14 mw_0_9 mw_50_6) rfl rfl rfl (by decide +kernel) ⟨(Nat.le_of_ble_eq_true rfl), (Nat.le_of_ble_eq_true rfl)⟩) (vV (ci := 5) (q0 := 4) hK hP hD hN rfl gA_4) rfl rfl hl.1 rfl (lv_room (Nat.le_of_ble_eq_true rfl)) dX5_emptyHeight_2 ⟨(Nat.le_of_ble_eq_true rfl), (Nat.le_of_ble_eq_true rfl)⟩) hS (fun q _ h => hF q h) hF (fun r2 u t H locs ht hvm hw hB _ _ hS => ?_)
  obtain rfl : r2 = q1.1 := hw
  replace hP : va_P (dC, dI) vwCl (wA a k q1.2) H := by rw [← ht]; exact hB.1
  replace hD := hD0 (q1.2)
  clear hB hF
  refine lv_if_ne (tgt := 10) hx hb dX5_emptyHeight_5 (by decide) (fun hc => ?_) (fun hc => ?_)
  · replace h := iq hc h
    refine lv_aload_n hx hb dX5_emptyHeight_10 rfl (lv_at hl 0 rfl) ?_
    refine lv_iload_n hx hb dX5_emptyHeight_11 rfl (lv_at hl 1 rfl) ?_
    obtain ⟨q3, hc, h⟩ := ib h
    have hF := va_frees hD hS hA
    refine va_calli (va_runV (As := [.int p0]) (rest := []) ⟨hx, hb, hml, hown, hts⟩ (s_X5_innerOf_4 hc) (cwV 1 hts (gV mw_15_13 mw_2_16 mw_2_17 mw_0_9 mw_50_7) rfl rfl rfl (by decide +kernel) ⟨(Nat.le_of_ble_eq_true rfl), (Nat.le_of_ble_eq_true rfl)⟩) (vV (ci := 5) (q0 := 4) hK hP hD hN rfl gA_4) rfl rfl hl.1 rfl (lv_room (Nat.le_of_ble_eq_true rfl)) dX5_emptyHeight_12 ⟨(Nat.le_of_ble_eq_true rfl), (Nat.le_of_ble_eq_true rfl)⟩) hS (fun q _ h => hF q h) hF (fun r4 u t H locs ht hvm hw hB _ _ hS => ?_)
    obtain rfl : r4 = q3.1 := hw
    replace hP : va_P (dC, dI) vwCl (wA a k q3.2) H := by rw [← ht]; exact hB.1
    replace hD := hD0 (q3.2)
    clear hB hF
    refine lv_istore_n (lv' := [(2, .int q3.1), (0, .ref (a 4)), (1, .int p0)]) hx hb dX5_emptyHeight_15 rfl hl (by decide) rfl (fun ls hl => ?_)
    refine lv_aload_n hx hb dX5_emptyHeight_16 rfl (lv_at hl 1 rfl) ?_
    refine lv_iload_n hx hb dX5_emptyHeight_17 rfl (lv_at hl 2 rfl) ?_
    obtain ⟨q5, hc, h⟩ := ib h
    have hF := va_frees hD hS hA
    refine va_calli (va_runV (As := [.int p0]) (rest := []) ⟨hx, hb, hml, hown, hts⟩ (s_X5_sortOf_4 hc) (cwV 1 hts (gV mw_15_12 mw_2_13 mw_2_14 mw_0_9 mw_50_6) rfl rfl rfl (by decide +kernel) ⟨(Nat.le_of_ble_eq_true rfl), (Nat.le_of_ble_eq_true rfl)⟩) (vV (ci := 5) (q0 := 4) hK hP hD hN rfl gA_4) rfl rfl hl.1 rfl (lv_room (Nat.le_of_ble_eq_true rfl)) dX5_emptyHeight_18 ⟨(Nat.le_of_ble_eq_true rfl), (Nat.le_of_ble_eq_true rfl)⟩) hS (fun q _ h => hF q h) hF (fun r6 u t H locs ht hvm hw hB _ _ hS => ?_)
    obtain rfl : r6 = q5.1 := hw
    replace hP : va_P (dC, dI) vwCl (wA a k q5.2) H := by rw [← ht]; exact hB.1
    replace hD := hD0 (q5.2)
    clear hB hF
    refine lv_bipush (v := 7) hx hb dX5_emptyHeight_21 (by decide) ?_
    refine lv_icmp_ne (tgt := 42) hx hb dX5_emptyHeight_23 (by decide) (fun hc => ?_) (fun hc => ?_)
    · replace h := iq hc h
      refine lv_iconst (v := (-1)) hx hb dX5_emptyHeight_42 (by decide) ?_
      obtain rfl := Option.some.inj h
      exact W.iret hx hb hr (fun t ht hW => ⟨⟨_, (), rfl, rfl, ⟨by rw [ht]; exact hP, va_K.moved hW.alike hK, hD⟩⟩, hS.F ht⟩) hS.2.2 dX5_emptyHeight_43
    · replace h := ip hc h
      refine lv_iload_n hx hb dX5_emptyHeight_26 rfl (lv_at hl 0 rfl) ?_
      obtain ⟨q7, hc, h⟩ := ib h
      have hF := va_frees hD hS hA
      refine va_calli (va_runS (As := [.int q3.1]) (rest := []) ⟨hx, hb, hml, hown, hts⟩ (s_X5_isRecord hc) (va_cwS 1 hts (gS mw_15_5 mw_15_6 mw_0_9 mw_49_24) rfl rfl rfl (by decide +kernel) ⟨(Nat.le_of_ble_eq_true rfl), (Nat.le_of_ble_eq_true rfl)⟩) (vS hK hP hD hN) rfl rfl hl.1 rfl (lv_room (Nat.le_of_ble_eq_true rfl)) dX5_emptyHeight_27 ⟨(Nat.le_of_ble_eq_true rfl), (Nat.le_of_ble_eq_true rfl)⟩) hS (fun q _ h => hF q h) hF (fun r8 u t H locs ht hvm hw hB _ _ hS => ?_)
      obtain rfl : r8 = q7.1 := hw
      replace hP : va_P (dC, dI) vwCl (wA a k q7.2) H := by rw [← ht]; exact hB.1
      replace hD := hD0 (q7.2)
      clear hB hF
      refine lv_if_eq (tgt := 42) hx hb dX5_emptyHeight_30 (by decide) (fun hc => ?_) (fun hc => ?_)
      · replace h := ip hc h
        refine lv_iconst (v := (-1)) hx hb dX5_emptyHeight_42 (by decide) ?_
        obtain rfl := Option.some.inj h
        exact W.iret hx hb hr (fun t ht hW => ⟨⟨_, (), rfl, rfl, ⟨by rw [ht]; exact hP, va_K.moved hW.alike hK, hD⟩⟩, hS.F ht⟩) hS.2.2 dX5_emptyHeight_43
      · replace h := iq hc h
        refine lv_aload_n hx hb dX5_emptyHeight_33 rfl (lv_at hl 1 rfl) ?_
        refine va_get (D := (dC, dI)) (ci := 5) (C := RX5) (T := TX5) (N := 17) hx hb hts inlX5 hown hK hP 4 gA_4 rfl 7 (by decide) (hts (.fieldLink RX5 35 "ShapeReader$Shapes" "emptyHeights" "[I") mw_14_24) (fun _ h9 => h9) rfl dX5_emptyHeight_34 ?_
        refine lv_iload_n hx hb dX5_emptyHeight_37 rfl (lv_at hl 0 rfl) ?_
        obtain ⟨hg9, h⟩ := ig h
        refine va_iald hx hb hK hP 10 7 gA_10 yA_10 (vp_in_iff.mpr hg9) dX5_emptyHeight_38 ?_
        refine lv_goto (tgt := 43) hx hb dX5_emptyHeight_39 (by decide) ?_
        obtain rfl := Option.some.inj h
        exact W.iret hx hb hr (fun t ht hW => ⟨⟨_, (), rfl, rfl, ⟨by rw [ht]; exact hP, va_K.moved hW.alike hK, hD⟩⟩, hS.F ht⟩) hS.2.2 dX5_emptyHeight_43
  · replace h := ip hc h
    refine lv_iconst (v := 0) hx hb dX5_emptyHeight_8 (by decide) ?_
    obtain rfl := Option.some.inj h
    exact W.iret hx hb hr (fun t ht hW => ⟨⟨_, (), rfl, rfl, ⟨by rw [ht]; exact hP, va_K.moved hW.alike hK, hD⟩⟩, hS.F ht⟩) hS.2.2 dX5_emptyHeight_9

theorem s_X5_emptyHeight_4 {l : Launch} {dC : Nat → ClassId} {dI : Nat → Nat → Nat} {a : Nat → Nat} {k : Nat → ClassId} {sz : Nat} {p0 : Int32} {σ : ST} {q : Int32 × ST} (h : f_X5_emptyHeight 4 p0 σ = some q) : Met l yX5_emptyHeight (.code yX5_emptyHeight cX5_emptyHeight 3 (some .int) :: pw) ({ frames := 2, cells := 0, slots := 0, locals := 42 } : Room) (va_Pc [.ref (a 4), .int p0] (vPre dC dI (wA a k σ) (tA k) sz)) (qAi dC dI a k (va_A (wA a k σ) sz) q) 0 0 (va_A (wA a k σ) sz) := metA (fun A => qAi dC dI a k A q) (plainFor_of_name (by decide)) (Nat.le_of_ble_eq_true rfl) (fun _ _ _ _ _ _ _ _ hC => b_X5_emptyHeight_e_4 hC h)

def f_X4_isEmptyThere (b : Nat) (t : Nat) (p0 : Int32) (p1 : Int32) (σ : ST) : Option (Int32 × ST) := (f_X5_emptyHeight 4 p0 σ).bind fun q1 => if q1.1 = (-1) then (some (0, q1.2)) else (if 31 ≤ (p1 + q1.1) then (some (0, q1.2)) else (some (1, q1.2)))

set_option maxRecDepth 100000 in
set_option maxHeartbeats 4000000 in
theorem b_X4_isEmptyThere_e_89_50 {p : Program} {l : Launch} {e : Env} {s : State} {m : MethodId} {args : Array Value} {below : List Frame} {meth : Method} {c : Code} {dC : Nat → ClassId} {dI : Nat → Nat → Nat} {a : Nat → Nat} {k : Nat → ClassId} {A : Nat → Prop} {q : Int32 × ST} (hC : CxA p s m args meth c dC dI k A cX4_isEmptyThere RX4 (some .boolean) 4)   {p0 : Int32} {p1 : Int32} {σ : ST} (h : f_X4_isEmptyThere 89 50 p0 p1 σ = some q) : GoA p l e ({ frames := 3, cells := 0, slots := 0, locals := 64 } : Room) s m args below meth c (MQ below (qAi dC dI a k A q) args s 0 0 A) dC dI a k A 4 0 σ (lv_args 0 [.ref (a 89), .int p0, .int p1]) [] := by
  have hC0 := hC
  obtain ⟨hx, hb, hr, hml, hown, hts, hlocks, hA, hN, hK⟩ := hC0
  intro H locs ls hP hD hS hl
  have hD0 : ∀ σ1 : ST, va_D A (wA a k σ1) := fun σ1 => wA_D hD
  replace hl : lv_has ls 4 [(0, .ref (a 89)), (1, .int p0), (2, .int p1)] := hl
  unfold f_X4_isEmptyThere at h
  refine lv_aload_n hx hb dX4_isEmptyThere_0 rfl (lv_at hl 0 rfl) ?_
  refine va_get (D := (dC, dI)) (ci := 4) (C := RX4) (T := TX4) (N := 12) hx hb hts inlX4 hown hK hP 89 gA_89 rfl 0 (by decide) (hts (.fieldLink RX4 37 "ShapeReader$Reading" "shapes" "LShapeReader$Shapes;") mw_10_28) (fun _ h9 => h9) rfl dX4_isEmptyThere_1 ?_
  refine lv_iload_n hx hb dX4_isEmptyThere_4 rfl (lv_at hl 1 rfl) ?_
  obtain ⟨q1, hc, h⟩ := ib h
  have hF := va_frees hD hS hA
  refine va_calli (va_runV (As := [.int p0]) (rest := []) ⟨hx, hb, hml, hown, hts⟩ (s_X5_emptyHeight_4 hc) (cwV 1 hts (gV mw_12_15 mw_12_16 mw_12_17 mw_0_9 mw_51_1) rfl rfl rfl (by decide +kernel) ⟨(Nat.le_of_ble_eq_true rfl), (Nat.le_of_ble_eq_true rfl)⟩) (vV (ci := 5) (q0 := 4) hK hP hD hN rfl gA_4) rfl rfl hl.1 rfl (lv_room (Nat.le_of_ble_eq_true rfl)) dX4_isEmptyThere_5 ⟨(Nat.le_of_ble_eq_true rfl), (Nat.le_of_ble_eq_true rfl)⟩) hS (fun q _ h => hF q h) hF (fun r2 u t H locs ht hvm hw hB _ _ hS => ?_)
  obtain rfl : r2 = q1.1 := hw
  replace hP : va_P (dC, dI) vwCl (wA a k q1.2) H := by rw [← ht]; exact hB.1
  replace hD := hD0 (q1.2)
  clear hB hF
  refine lv_istore_n (lv' := [(3, .int q1.1), (0, .ref (a 89)), (1, .int p0), (2, .int p1)]) hx hb dX4_isEmptyThere_8 rfl hl (by decide) rfl (fun ls hl => ?_)
  refine lv_iload_n hx hb dX4_isEmptyThere_9 rfl (lv_at hl 0 rfl) ?_
  refine lv_iconst (v := (-1)) hx hb dX4_isEmptyThere_10 (by decide) ?_
  refine lv_icmp_eq (tgt := 26) hx hb dX4_isEmptyThere_11 (by decide) (fun hc => ?_) (fun hc => ?_)
  · replace h := ip hc h
    refine lv_iconst (v := 0) hx hb dX4_isEmptyThere_26 (by decide) ?_
    obtain rfl := Option.some.inj h
    exact W.zret hx hb hr rfl (fun t ht hW => ⟨⟨_, (), rfl, rfl, ⟨by rw [ht]; exact hP, va_K.moved hW.alike hK, hD⟩⟩, hS.F ht⟩) hS.2.2 dX4_isEmptyThere_27
  · replace h := iq hc h
    refine lv_iload_n hx hb dX4_isEmptyThere_14 rfl (lv_at hl 3 rfl) ?_
    refine lv_iload_n hx hb dX4_isEmptyThere_15 rfl (lv_at hl 0 rfl) ?_
    refine lv_iadd hx hb dX4_isEmptyThere_16 ?_
    refine lv_bipush (v := 31) hx hb dX4_isEmptyThere_17 (by decide) ?_
    refine lv_icmp_ge (tgt := 26) hx hb dX4_isEmptyThere_19 (by decide) (fun hc => ?_) (fun hc => ?_)
    · replace h := ip hc h
      refine lv_iconst (v := 0) hx hb dX4_isEmptyThere_26 (by decide) ?_
      obtain rfl := Option.some.inj h
      exact W.zret hx hb hr rfl (fun t ht hW => ⟨⟨_, (), rfl, rfl, ⟨by rw [ht]; exact hP, va_K.moved hW.alike hK, hD⟩⟩, hS.F ht⟩) hS.2.2 dX4_isEmptyThere_27
    · replace h := iq hc h
      refine lv_iconst (v := 1) hx hb dX4_isEmptyThere_22 (by decide) ?_
      refine lv_goto (tgt := 27) hx hb dX4_isEmptyThere_23 (by decide) ?_
      obtain rfl := Option.some.inj h
      exact W.zret hx hb hr rfl (fun t ht hW => ⟨⟨_, (), rfl, rfl, ⟨by rw [ht]; exact hP, va_K.moved hW.alike hK, hD⟩⟩, hS.F ht⟩) hS.2.2 dX4_isEmptyThere_27

theorem s_X4_isEmptyThere_89_50 {l : Launch} {dC : Nat → ClassId} {dI : Nat → Nat → Nat} {a : Nat → Nat} {k : Nat → ClassId} {sz : Nat} {p0 : Int32} {p1 : Int32} {σ : ST} {q : Int32 × ST} (h : f_X4_isEmptyThere 89 50 p0 p1 σ = some q) : Met l yX4_isEmptyThere (.code yX4_isEmptyThere cX4_isEmptyThere 4 (some .boolean) :: pw) ({ frames := 3, cells := 0, slots := 0, locals := 64 } : Room) (va_Pc [.ref (a 89), .int p0, .int p1] (vPre dC dI (wA a k σ) (tA k) sz)) (qAi dC dI a k (va_A (wA a k σ) sz) q) 0 0 (va_A (wA a k σ) sz) := metA (fun A => qAi dC dI a k A q) (plainFor_of_name (by decide)) (Nat.le_of_ble_eq_true rfl) (fun _ _ _ _ _ _ _ _ hC => b_X4_isEmptyThere_e_89_50 hC h)

set_option maxRecDepth 100000 in
set_option maxHeartbeats 4000000 in
theorem b_X4_isEmptyThere_e_92_62 {p : Program} {l : Launch} {e : Env} {s : State} {m : MethodId} {args : Array Value} {below : List Frame} {meth : Method} {c : Code} {dC : Nat → ClassId} {dI : Nat → Nat → Nat} {a : Nat → Nat} {k : Nat → ClassId} {A : Nat → Prop} {q : Int32 × ST} (hC : CxA p s m args meth c dC dI k A cX4_isEmptyThere RX4 (some .boolean) 4)   {p0 : Int32} {p1 : Int32} {σ : ST} (h : f_X4_isEmptyThere 92 62 p0 p1 σ = some q) : GoA p l e ({ frames := 3, cells := 0, slots := 0, locals := 64 } : Room) s m args below meth c (MQ below (qAi dC dI a k A q) args s 0 0 A) dC dI a k A 4 0 σ (lv_args 0 [.ref (a 92), .int p0, .int p1]) [] := by
  have hC0 := hC
  obtain ⟨hx, hb, hr, hml, hown, hts, hlocks, hA, hN, hK⟩ := hC0
  intro H locs ls hP hD hS hl
  have hD0 : ∀ σ1 : ST, va_D A (wA a k σ1) := fun σ1 => wA_D hD
  replace hl : lv_has ls 4 [(0, .ref (a 92)), (1, .int p0), (2, .int p1)] := hl
  unfold f_X4_isEmptyThere at h
  refine lv_aload_n hx hb dX4_isEmptyThere_0 rfl (lv_at hl 0 rfl) ?_
  refine va_get (D := (dC, dI)) (ci := 4) (C := RX4) (T := TX4) (N := 12) hx hb hts inlX4 hown hK hP 92 gA_92 rfl 0 (by decide) (hts (.fieldLink RX4 37 "ShapeReader$Reading" "shapes" "LShapeReader$Shapes;") mw_10_28) (fun _ h9 => h9) rfl dX4_isEmptyThere_1 ?_
  refine lv_iload_n hx hb dX4_isEmptyThere_4 rfl (lv_at hl 1 rfl) ?_
  obtain ⟨q1, hc, h⟩ := ib h
  have hF := va_frees hD hS hA
  refine va_calli (va_runV (As := [.int p0]) (rest := []) ⟨hx, hb, hml, hown, hts⟩ (s_X5_emptyHeight_4 hc) (cwV 1 hts (gV mw_12_15 mw_12_16 mw_12_17 mw_0_9 mw_51_1) rfl rfl rfl (by decide +kernel) ⟨(Nat.le_of_ble_eq_true rfl), (Nat.le_of_ble_eq_true rfl)⟩) (vV (ci := 5) (q0 := 4) hK hP hD hN rfl gA_4) rfl rfl hl.1 rfl (lv_room (Nat.le_of_ble_eq_true rfl)) dX4_isEmptyThere_5 ⟨(Nat.le_of_ble_eq_true rfl), (Nat.le_of_ble_eq_true rfl)⟩) hS (fun q _ h => hF q h) hF (fun r2 u t H locs ht hvm hw hB _ _ hS => ?_)
  obtain rfl : r2 = q1.1 := hw
  replace hP : va_P (dC, dI) vwCl (wA a k q1.2) H := by rw [← ht]; exact hB.1
  replace hD := hD0 (q1.2)
  clear hB hF
  refine lv_istore_n (lv' := [(3, .int q1.1), (0, .ref (a 92)), (1, .int p0), (2, .int p1)]) hx hb dX4_isEmptyThere_8 rfl hl (by decide) rfl (fun ls hl => ?_)
  refine lv_iload_n hx hb dX4_isEmptyThere_9 rfl (lv_at hl 0 rfl) ?_
  refine lv_iconst (v := (-1)) hx hb dX4_isEmptyThere_10 (by decide) ?_
  refine lv_icmp_eq (tgt := 26) hx hb dX4_isEmptyThere_11 (by decide) (fun hc => ?_) (fun hc => ?_)
  · replace h := ip hc h
    refine lv_iconst (v := 0) hx hb dX4_isEmptyThere_26 (by decide) ?_
    obtain rfl := Option.some.inj h
    exact W.zret hx hb hr rfl (fun t ht hW => ⟨⟨_, (), rfl, rfl, ⟨by rw [ht]; exact hP, va_K.moved hW.alike hK, hD⟩⟩, hS.F ht⟩) hS.2.2 dX4_isEmptyThere_27
  · replace h := iq hc h
    refine lv_iload_n hx hb dX4_isEmptyThere_14 rfl (lv_at hl 3 rfl) ?_
    refine lv_iload_n hx hb dX4_isEmptyThere_15 rfl (lv_at hl 0 rfl) ?_
    refine lv_iadd hx hb dX4_isEmptyThere_16 ?_
    refine lv_bipush (v := 31) hx hb dX4_isEmptyThere_17 (by decide) ?_
    refine lv_icmp_ge (tgt := 26) hx hb dX4_isEmptyThere_19 (by decide) (fun hc => ?_) (fun hc => ?_)
    · replace h := ip hc h
      refine lv_iconst (v := 0) hx hb dX4_isEmptyThere_26 (by decide) ?_
      obtain rfl := Option.some.inj h
      exact W.zret hx hb hr rfl (fun t ht hW => ⟨⟨_, (), rfl, rfl, ⟨by rw [ht]; exact hP, va_K.moved hW.alike hK, hD⟩⟩, hS.F ht⟩) hS.2.2 dX4_isEmptyThere_27
    · replace h := iq hc h
      refine lv_iconst (v := 1) hx hb dX4_isEmptyThere_22 (by decide) ?_
      refine lv_goto (tgt := 27) hx hb dX4_isEmptyThere_23 (by decide) ?_
      obtain rfl := Option.some.inj h
      exact W.zret hx hb hr rfl (fun t ht hW => ⟨⟨_, (), rfl, rfl, ⟨by rw [ht]; exact hP, va_K.moved hW.alike hK, hD⟩⟩, hS.F ht⟩) hS.2.2 dX4_isEmptyThere_27

theorem s_X4_isEmptyThere_92_62 {l : Launch} {dC : Nat → ClassId} {dI : Nat → Nat → Nat} {a : Nat → Nat} {k : Nat → ClassId} {sz : Nat} {p0 : Int32} {p1 : Int32} {σ : ST} {q : Int32 × ST} (h : f_X4_isEmptyThere 92 62 p0 p1 σ = some q) : Met l yX4_isEmptyThere (.code yX4_isEmptyThere cX4_isEmptyThere 4 (some .boolean) :: pw) ({ frames := 3, cells := 0, slots := 0, locals := 64 } : Room) (va_Pc [.ref (a 92), .int p0, .int p1] (vPre dC dI (wA a k σ) (tA k) sz)) (qAi dC dI a k (va_A (wA a k σ) sz) q) 0 0 (va_A (wA a k σ) sz) := metA (fun A => qAi dC dI a k A q) (plainFor_of_name (by decide)) (Nat.le_of_ble_eq_true rfl) (fun _ _ _ _ _ _ _ _ hC => b_X4_isEmptyThere_e_92_62 hC h)

set_option maxRecDepth 100000 in
set_option maxHeartbeats 4000000 in
theorem b_X4_isEmptyThere_e_92_74 {p : Program} {l : Launch} {e : Env} {s : State} {m : MethodId} {args : Array Value} {below : List Frame} {meth : Method} {c : Code} {dC : Nat → ClassId} {dI : Nat → Nat → Nat} {a : Nat → Nat} {k : Nat → ClassId} {A : Nat → Prop} {q : Int32 × ST} (hC : CxA p s m args meth c dC dI k A cX4_isEmptyThere RX4 (some .boolean) 4)   {p0 : Int32} {p1 : Int32} {σ : ST} (h : f_X4_isEmptyThere 92 74 p0 p1 σ = some q) : GoA p l e ({ frames := 3, cells := 0, slots := 0, locals := 64 } : Room) s m args below meth c (MQ below (qAi dC dI a k A q) args s 0 0 A) dC dI a k A 4 0 σ (lv_args 0 [.ref (a 92), .int p0, .int p1]) [] := by
  have hC0 := hC
  obtain ⟨hx, hb, hr, hml, hown, hts, hlocks, hA, hN, hK⟩ := hC0
  intro H locs ls hP hD hS hl
  have hD0 : ∀ σ1 : ST, va_D A (wA a k σ1) := fun σ1 => wA_D hD
  replace hl : lv_has ls 4 [(0, .ref (a 92)), (1, .int p0), (2, .int p1)] := hl
  unfold f_X4_isEmptyThere at h
  refine lv_aload_n hx hb dX4_isEmptyThere_0 rfl (lv_at hl 0 rfl) ?_
  refine va_get (D := (dC, dI)) (ci := 4) (C := RX4) (T := TX4) (N := 12) hx hb hts inlX4 hown hK hP 92 gA_92 rfl 0 (by decide) (hts (.fieldLink RX4 37 "ShapeReader$Reading" "shapes" "LShapeReader$Shapes;") mw_10_28) (fun _ h9 => h9) rfl dX4_isEmptyThere_1 ?_
  refine lv_iload_n hx hb dX4_isEmptyThere_4 rfl (lv_at hl 1 rfl) ?_
  obtain ⟨q1, hc, h⟩ := ib h
  have hF := va_frees hD hS hA
  refine va_calli (va_runV (As := [.int p0]) (rest := []) ⟨hx, hb, hml, hown, hts⟩ (s_X5_emptyHeight_4 hc) (cwV 1 hts (gV mw_12_15 mw_12_16 mw_12_17 mw_0_9 mw_51_1) rfl rfl rfl (by decide +kernel) ⟨(Nat.le_of_ble_eq_true rfl), (Nat.le_of_ble_eq_true rfl)⟩) (vV (ci := 5) (q0 := 4) hK hP hD hN rfl gA_4) rfl rfl hl.1 rfl (lv_room (Nat.le_of_ble_eq_true rfl)) dX4_isEmptyThere_5 ⟨(Nat.le_of_ble_eq_true rfl), (Nat.le_of_ble_eq_true rfl)⟩) hS (fun q _ h => hF q h) hF (fun r2 u t H locs ht hvm hw hB _ _ hS => ?_)
  obtain rfl : r2 = q1.1 := hw
  replace hP : va_P (dC, dI) vwCl (wA a k q1.2) H := by rw [← ht]; exact hB.1
  replace hD := hD0 (q1.2)
  clear hB hF
  refine lv_istore_n (lv' := [(3, .int q1.1), (0, .ref (a 92)), (1, .int p0), (2, .int p1)]) hx hb dX4_isEmptyThere_8 rfl hl (by decide) rfl (fun ls hl => ?_)
  refine lv_iload_n hx hb dX4_isEmptyThere_9 rfl (lv_at hl 0 rfl) ?_
  refine lv_iconst (v := (-1)) hx hb dX4_isEmptyThere_10 (by decide) ?_
  refine lv_icmp_eq (tgt := 26) hx hb dX4_isEmptyThere_11 (by decide) (fun hc => ?_) (fun hc => ?_)
  · replace h := ip hc h
    refine lv_iconst (v := 0) hx hb dX4_isEmptyThere_26 (by decide) ?_
    obtain rfl := Option.some.inj h
    exact W.zret hx hb hr rfl (fun t ht hW => ⟨⟨_, (), rfl, rfl, ⟨by rw [ht]; exact hP, va_K.moved hW.alike hK, hD⟩⟩, hS.F ht⟩) hS.2.2 dX4_isEmptyThere_27
  · replace h := iq hc h
    refine lv_iload_n hx hb dX4_isEmptyThere_14 rfl (lv_at hl 3 rfl) ?_
    refine lv_iload_n hx hb dX4_isEmptyThere_15 rfl (lv_at hl 0 rfl) ?_
    refine lv_iadd hx hb dX4_isEmptyThere_16 ?_
    refine lv_bipush (v := 31) hx hb dX4_isEmptyThere_17 (by decide) ?_
    refine lv_icmp_ge (tgt := 26) hx hb dX4_isEmptyThere_19 (by decide) (fun hc => ?_) (fun hc => ?_)
    · replace h := ip hc h
      refine lv_iconst (v := 0) hx hb dX4_isEmptyThere_26 (by decide) ?_
      obtain rfl := Option.some.inj h
      exact W.zret hx hb hr rfl (fun t ht hW => ⟨⟨_, (), rfl, rfl, ⟨by rw [ht]; exact hP, va_K.moved hW.alike hK, hD⟩⟩, hS.F ht⟩) hS.2.2 dX4_isEmptyThere_27
    · replace h := iq hc h
      refine lv_iconst (v := 1) hx hb dX4_isEmptyThere_22 (by decide) ?_
      refine lv_goto (tgt := 27) hx hb dX4_isEmptyThere_23 (by decide) ?_
      obtain rfl := Option.some.inj h
      exact W.zret hx hb hr rfl (fun t ht hW => ⟨⟨_, (), rfl, rfl, ⟨by rw [ht]; exact hP, va_K.moved hW.alike hK, hD⟩⟩, hS.F ht⟩) hS.2.2 dX4_isEmptyThere_27

theorem s_X4_isEmptyThere_92_74 {l : Launch} {dC : Nat → ClassId} {dI : Nat → Nat → Nat} {a : Nat → Nat} {k : Nat → ClassId} {sz : Nat} {p0 : Int32} {p1 : Int32} {σ : ST} {q : Int32 × ST} (h : f_X4_isEmptyThere 92 74 p0 p1 σ = some q) : Met l yX4_isEmptyThere (.code yX4_isEmptyThere cX4_isEmptyThere 4 (some .boolean) :: pw) ({ frames := 3, cells := 0, slots := 0, locals := 64 } : Room) (va_Pc [.ref (a 92), .int p0, .int p1] (vPre dC dI (wA a k σ) (tA k) sz)) (qAi dC dI a k (va_A (wA a k σ) sz) q) 0 0 (va_A (wA a k σ) sz) := metA (fun A => qAi dC dI a k A q) (plainFor_of_name (by decide)) (Nat.le_of_ble_eq_true rfl) (fun _ _ _ _ _ _ _ _ hC => b_X4_isEmptyThere_e_92_74 hC h)
