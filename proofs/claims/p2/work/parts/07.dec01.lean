theorem dX0_step_0 : decode cX0_step 0 = .ok (.aload_n 0, 1) := by decide +kernel
theorem dX0_step_1 : decode cX0_step 1 = .ok (.getfield 45, 3) := by decide +kernel
theorem dX0_step_4 : decode cX0_step 4 = .ok (.ifCond .lt 22, 3) := by decide +kernel
theorem dX0_step_7 : decode cX0_step 7 = .ok (.aload_n 0, 1) := by decide +kernel
theorem dX0_step_8 : decode cX0_step 8 = .ok (.getfield 45, 3) := by decide +kernel
theorem dX0_step_11 : decode cX0_step 11 = .ok (.bipush 32, 2) := by decide +kernel
theorem dX0_step_13 : decode cX0_step 13 = .ok (.if_icmp .ge 13, 3) := by decide +kernel
theorem dX0_step_16 : decode cX0_step 16 = .ok (.aload_n 0, 1) := by decide +kernel
theorem dX0_step_17 : decode cX0_step 17 = .ok (.getfield 42, 3) := by decide +kernel
theorem dX0_step_20 : decode cX0_step 20 = .ok (.aload_n 0, 1) := by decide +kernel
theorem dX0_step_21 : decode cX0_step 21 = .ok (.getfield 45, 3) := by decide +kernel
theorem dX0_step_24 : decode cX0_step 24 = .ok (.iload_n 1, 1) := by decide +kernel
theorem dX0_step_25 : decode cX0_step 25 = .ok (.iastore, 1) := by decide +kernel
theorem dX0_step_26 : decode cX0_step 26 = .ok (.aload_n 0, 1) := by decide +kernel
theorem dX0_step_27 : decode cX0_step 27 = .ok (.dup, 1) := by decide +kernel
theorem dX0_step_28 : decode cX0_step 28 = .ok (.getfield 45, 3) := by decide +kernel
theorem dX0_step_31 : decode cX0_step 31 = .ok (.iconst 1, 1) := by decide +kernel
theorem dX0_step_32 : decode cX0_step 32 = .ok (.iadd, 1) := by decide +kernel
theorem dX0_step_33 : decode cX0_step 33 = .ok (.putfield 45, 3) := by decide +kernel
theorem dX0_step_36 : decode cX0_step 36 = .ok (.return_, 1) := by decide +kernel
theorem dX5_addType_0 : decode cX5_addType 0 = .ok (.aload_n 0, 1) := by decide +kernel
theorem dX5_addType_1 : decode cX5_addType 1 = .ok (.getfield 15, 3) := by decide +kernel
theorem dX5_addType_4 : decode cX5_addType 4 = .ok (.sipush 262, 3) := by decide +kernel
theorem dX5_addType_7 : decode cX5_addType 7 = .ok (.if_icmp .lt 5, 3) := by decide +kernel
theorem dX5_addType_10 : decode cX5_addType 10 = .ok (.iconst (-1), 1) := by decide +kernel
theorem dX5_addType_11 : decode cX5_addType 11 = .ok (.ireturn, 1) := by decide +kernel
theorem dX5_addType_12 : decode cX5_addType 12 = .ok (.aload_n 0, 1) := by decide +kernel
theorem dX5_addType_13 : decode cX5_addType 13 = .ok (.getfield 15, 3) := by decide +kernel
theorem dX5_addType_16 : decode cX5_addType 16 = .ok (.istore_n 2, 1) := by decide +kernel
theorem dX5_addType_17 : decode cX5_addType 17 = .ok (.aload_n 0, 1) := by decide +kernel
theorem dX5_addType_18 : decode cX5_addType 18 = .ok (.getfield 50, 3) := by decide +kernel
theorem dX5_addType_21 : decode cX5_addType 21 = .ok (.iload_n 2, 1) := by decide +kernel
theorem dX5_addType_22 : decode cX5_addType 22 = .ok (.iload_n 1, 1) := by decide +kernel
theorem dX5_addType_23 : decode cX5_addType 23 = .ok (.iastore, 1) := by decide +kernel
theorem dX5_addType_24 : decode cX5_addType 24 = .ok (.aload_n 0, 1) := by decide +kernel
theorem dX5_addType_25 : decode cX5_addType 25 = .ok (.getfield 53, 3) := by decide +kernel
theorem dX5_addType_28 : decode cX5_addType 28 = .ok (.iload_n 2, 1) := by decide +kernel
theorem dX5_addType_29 : decode cX5_addType 29 = .ok (.iconst (-1), 1) := by decide +kernel
theorem dX5_addType_30 : decode cX5_addType 30 = .ok (.iastore, 1) := by decide +kernel
theorem dX5_addType_31 : decode cX5_addType 31 = .ok (.aload_n 0, 1) := by decide +kernel
theorem dX5_addType_32 : decode cX5_addType 32 = .ok (.getfield 56, 3) := by decide +kernel
theorem dX5_addType_35 : decode cX5_addType 35 = .ok (.iload_n 2, 1) := by decide +kernel
theorem dX5_addType_36 : decode cX5_addType 36 = .ok (.iconst (-1), 1) := by decide +kernel
theorem dX5_addType_37 : decode cX5_addType 37 = .ok (.iastore, 1) := by decide +kernel
theorem dX5_addType_38 : decode cX5_addType 38 = .ok (.aload_n 0, 1) := by decide +kernel
theorem dX5_addType_39 : decode cX5_addType 39 = .ok (.getfield 59, 3) := by decide +kernel
theorem dX5_addType_42 : decode cX5_addType 42 = .ok (.iload_n 2, 1) := by decide +kernel
theorem dX5_addType_43 : decode cX5_addType 43 = .ok (.lconst 0, 1) := by decide +kernel
theorem dX5_addType_44 : decode cX5_addType 44 = .ok (.lastore, 1) := by decide +kernel
theorem dX5_addType_45 : decode cX5_addType 45 = .ok (.aload_n 0, 1) := by decide +kernel
theorem dX5_addType_46 : decode cX5_addType 46 = .ok (.getfield 62, 3) := by decide +kernel
theorem dX5_addType_49 : decode cX5_addType 49 = .ok (.iload_n 2, 1) := by decide +kernel
theorem dX5_addType_50 : decode cX5_addType 50 = .ok (.iconst 0, 1) := by decide +kernel
theorem dX5_addType_51 : decode cX5_addType 51 = .ok (.iastore, 1) := by decide +kernel
theorem dX5_addType_52 : decode cX5_addType 52 = .ok (.aload_n 0, 1) := by decide +kernel
theorem dX5_addType_53 : decode cX5_addType 53 = .ok (.dup, 1) := by decide +kernel
theorem dX5_addType_54 : decode cX5_addType 54 = .ok (.getfield 15, 3) := by decide +kernel
theorem dX5_addType_57 : decode cX5_addType 57 = .ok (.iconst 1, 1) := by decide +kernel
theorem dX5_addType_58 : decode cX5_addType 58 = .ok (.iadd, 1) := by decide +kernel
theorem dX5_addType_59 : decode cX5_addType 59 = .ok (.putfield 15, 3) := by decide +kernel
theorem dX5_addType_62 : decode cX5_addType 62 = .ok (.iload_n 2, 1) := by decide +kernel
theorem dX5_addType_63 : decode cX5_addType 63 = .ok (.ireturn, 1) := by decide +kernel
theorem dX5_branchAfter_0 : decode cX5_branchAfter 0 = .ok (.aload_n 0, 1) := by decide +kernel
theorem dX5_branchAfter_1 : decode cX5_branchAfter 1 = .ok (.iload_n 1, 1) := by decide +kernel
theorem dX5_branchAfter_2 : decode cX5_branchAfter 2 = .ok (.invokevirtual 79, 3) := by decide +kernel
theorem dX5_branchAfter_5 : decode cX5_branchAfter 5 = .ok (.ifCond .eq 12, 3) := by decide +kernel
theorem dX5_branchAfter_8 : decode cX5_branchAfter 8 = .ok (.aload_n 0, 1) := by decide +kernel
theorem dX5_branchAfter_9 : decode cX5_branchAfter 9 = .ok (.getfield 56, 3) := by decide +kernel
theorem dX5_branchAfter_12 : decode cX5_branchAfter 12 = .ok (.iload_n 1, 1) := by decide +kernel
theorem dX5_branchAfter_13 : decode cX5_branchAfter 13 = .ok (.iaload, 1) := by decide +kernel
theorem dX5_branchAfter_14 : decode cX5_branchAfter 14 = .ok (.goto 4, 3) := by decide +kernel
theorem dX5_branchAfter_17 : decode cX5_branchAfter 17 = .ok (.iconst (-1), 1) := by decide +kernel
theorem dX5_branchAfter_18 : decode cX5_branchAfter 18 = .ok (.ireturn, 1) := by decide +kernel
theorem dX5_branchesOf_0 : decode cX5_branchesOf 0 = .ok (.aload_n 0, 1) := by decide +kernel
theorem dX5_branchesOf_1 : decode cX5_branchesOf 1 = .ok (.iload_n 1, 1) := by decide +kernel
theorem dX5_branchesOf_2 : decode cX5_branchesOf 2 = .ok (.invokevirtual 82, 3) := by decide +kernel
theorem dX5_branchesOf_5 : decode cX5_branchesOf 5 = .ok (.bipush 8, 2) := by decide +kernel
theorem dX5_branchesOf_7 : decode cX5_branchesOf 7 = .ok (.if_icmp .eq 5, 3) := by decide +kernel
theorem dX5_branchesOf_10 : decode cX5_branchesOf 10 = .ok (.iconst 0, 1) := by decide +kernel
theorem dX5_branchesOf_11 : decode cX5_branchesOf 11 = .ok (.ireturn, 1) := by decide +kernel
theorem dX5_branchesOf_12 : decode cX5_branchesOf 12 = .ok (.iconst 0, 1) := by decide +kernel
theorem dX5_branchesOf_13 : decode cX5_branchesOf 13 = .ok (.istore_n 2, 1) := by decide +kernel
theorem dX5_branchesOf_14 : decode cX5_branchesOf 14 = .ok (.aload_n 0, 1) := by decide +kernel
theorem dX5_branchesOf_15 : decode cX5_branchesOf 15 = .ok (.iload_n 1, 1) := by decide +kernel
theorem dX5_branchesOf_16 : decode cX5_branchesOf 16 = .ok (.invokevirtual 86, 3) := by decide +kernel
theorem dX5_branchesOf_19 : decode cX5_branchesOf 19 = .ok (.istore_n 3, 1) := by decide +kernel
theorem dX5_branchesOf_20 : decode cX5_branchesOf 20 = .ok (.iload_n 3, 1) := by decide +kernel
theorem dX5_branchesOf_21 : decode cX5_branchesOf 21 = .ok (.iconst (-1), 1) := by decide +kernel
theorem dX5_branchesOf_22 : decode cX5_branchesOf 22 = .ok (.if_icmp .eq 20, 3) := by decide +kernel
theorem dX5_branchesOf_25 : decode cX5_branchesOf 25 = .ok (.iload_n 2, 1) := by decide +kernel
theorem dX5_branchesOf_26 : decode cX5_branchesOf 26 = .ok (.iconst 4, 1) := by decide +kernel
theorem dX5_branchesOf_27 : decode cX5_branchesOf 27 = .ok (.if_icmp .ge 15, 3) := by decide +kernel
theorem dX5_branchesOf_30 : decode cX5_branchesOf 30 = .ok (.iinc 2 1, 3) := by decide +kernel
theorem dX5_branchesOf_33 : decode cX5_branchesOf 33 = .ok (.aload_n 0, 1) := by decide +kernel
theorem dX5_branchesOf_34 : decode cX5_branchesOf 34 = .ok (.iload_n 3, 1) := by decide +kernel
theorem dX5_branchesOf_35 : decode cX5_branchesOf 35 = .ok (.invokevirtual 89, 3) := by decide +kernel
theorem dX5_branchesOf_38 : decode cX5_branchesOf 38 = .ok (.istore_n 3, 1) := by decide +kernel
theorem dX5_branchesOf_39 : decode cX5_branchesOf 39 = .ok (.goto (-19), 3) := by decide +kernel
theorem dX5_branchesOf_42 : decode cX5_branchesOf 42 = .ok (.iload_n 2, 1) := by decide +kernel
theorem dX5_branchesOf_43 : decode cX5_branchesOf 43 = .ok (.ireturn, 1) := by decide +kernel
theorem dX5_innerOf_0 : decode cX5_innerOf 0 = .ok (.aload_n 0, 1) := by decide +kernel
theorem dX5_innerOf_1 : decode cX5_innerOf 1 = .ok (.iload_n 1, 1) := by decide +kernel
theorem dX5_innerOf_2 : decode cX5_innerOf 2 = .ok (.invokevirtual 79, 3) := by decide +kernel
theorem dX5_innerOf_5 : decode cX5_innerOf 5 = .ok (.ifCond .eq 12, 3) := by decide +kernel
theorem dX5_innerOf_8 : decode cX5_innerOf 8 = .ok (.aload_n 0, 1) := by decide +kernel
theorem dX5_innerOf_9 : decode cX5_innerOf 9 = .ok (.getfield 53, 3) := by decide +kernel
theorem dX5_innerOf_12 : decode cX5_innerOf 12 = .ok (.iload_n 1, 1) := by decide +kernel
theorem dX5_innerOf_13 : decode cX5_innerOf 13 = .ok (.iaload, 1) := by decide +kernel
theorem dX5_innerOf_14 : decode cX5_innerOf 14 = .ok (.goto 4, 3) := by decide +kernel
theorem dX5_innerOf_17 : decode cX5_innerOf 17 = .ok (.iconst (-1), 1) := by decide +kernel
theorem dX5_innerOf_18 : decode cX5_innerOf 18 = .ok (.ireturn, 1) := by decide +kernel
theorem dX5_isType_0 : decode cX5_isType 0 = .ok (.iload_n 1, 1) := by decide +kernel
theorem dX5_isType_1 : decode cX5_isType 1 = .ok (.ifCond .lt 22, 3) := by decide +kernel
theorem dX5_isType_4 : decode cX5_isType 4 = .ok (.iload_n 1, 1) := by decide +kernel
theorem dX5_isType_5 : decode cX5_isType 5 = .ok (.aload_n 0, 1) := by decide +kernel
theorem dX5_isType_6 : decode cX5_isType 6 = .ok (.getfield 15, 3) := by decide +kernel
theorem dX5_isType_9 : decode cX5_isType 9 = .ok (.if_icmp .ge 14, 3) := by decide +kernel
theorem dX5_isType_12 : decode cX5_isType 12 = .ok (.iload_n 1, 1) := by decide +kernel
theorem dX5_isType_13 : decode cX5_isType 13 = .ok (.sipush 262, 3) := by decide +kernel
theorem dX5_isType_16 : decode cX5_isType 16 = .ok (.if_icmp .ge 7, 3) := by decide +kernel
theorem dX5_isType_19 : decode cX5_isType 19 = .ok (.iconst 1, 1) := by decide +kernel
theorem dX5_isType_20 : decode cX5_isType 20 = .ok (.goto 4, 3) := by decide +kernel
theorem dX5_isType_23 : decode cX5_isType 23 = .ok (.iconst 0, 1) := by decide +kernel
theorem dX5_isType_24 : decode cX5_isType 24 = .ok (.ireturn, 1) := by decide +kernel
theorem dX5_setInner_0 : decode cX5_setInner 0 = .ok (.aload_n 0, 1) := by decide +kernel
theorem dX5_setInner_1 : decode cX5_setInner 1 = .ok (.iload_n 1, 1) := by decide +kernel
theorem dX5_setInner_2 : decode cX5_setInner 2 = .ok (.invokevirtual 79, 3) := by decide +kernel
theorem dX5_setInner_5 : decode cX5_setInner 5 = .ok (.ifCond .eq 10, 3) := by decide +kernel
theorem dX5_setInner_8 : decode cX5_setInner 8 = .ok (.aload_n 0, 1) := by decide +kernel
theorem dX5_setInner_9 : decode cX5_setInner 9 = .ok (.getfield 53, 3) := by decide +kernel
theorem dX5_setInner_12 : decode cX5_setInner 12 = .ok (.iload_n 1, 1) := by decide +kernel
theorem dX5_setInner_13 : decode cX5_setInner 13 = .ok (.iload_n 2, 1) := by decide +kernel
theorem dX5_setInner_14 : decode cX5_setInner 14 = .ok (.iastore, 1) := by decide +kernel
theorem dX5_setInner_15 : decode cX5_setInner 15 = .ok (.return_, 1) := by decide +kernel
theorem dX5_sortOf_0 : decode cX5_sortOf 0 = .ok (.aload_n 0, 1) := by decide +kernel
theorem dX5_sortOf_1 : decode cX5_sortOf 1 = .ok (.iload_n 1, 1) := by decide +kernel
theorem dX5_sortOf_2 : decode cX5_sortOf 2 = .ok (.invokevirtual 79, 3) := by decide +kernel
theorem dX5_sortOf_5 : decode cX5_sortOf 5 = .ok (.ifCond .eq 12, 3) := by decide +kernel
theorem dX5_sortOf_8 : decode cX5_sortOf 8 = .ok (.aload_n 0, 1) := by decide +kernel
theorem dX5_sortOf_9 : decode cX5_sortOf 9 = .ok (.getfield 50, 3) := by decide +kernel
theorem dX5_sortOf_12 : decode cX5_sortOf 12 = .ok (.iload_n 1, 1) := by decide +kernel
theorem dX5_sortOf_13 : decode cX5_sortOf 13 = .ok (.iaload, 1) := by decide +kernel
theorem dX5_sortOf_14 : decode cX5_sortOf 14 = .ok (.goto 4, 3) := by decide +kernel
theorem dX5_sortOf_17 : decode cX5_sortOf 17 = .ok (.iconst (-1), 1) := by decide +kernel
theorem dX5_sortOf_18 : decode cX5_sortOf 18 = .ok (.ireturn, 1) := by decide +kernel
theorem dX6_faultAnswer_0 : decode cX6_faultAnswer 0 = .ok (.bipush (-2), 2) := by decide +kernel
theorem dX6_faultAnswer_2 : decode cX6_faultAnswer 2 = .ok (.bipush 8, 2) := by decide +kernel
theorem dX6_faultAnswer_4 : decode cX6_faultAnswer 4 = .ok (.aload_n 0, 1) := by decide +kernel
theorem dX6_faultAnswer_5 : decode cX6_faultAnswer 5 = .ok (.getfield 51, 3) := by decide +kernel
theorem dX6_faultAnswer_8 : decode cX6_faultAnswer 8 = .ok (.imul, 1) := by decide +kernel
theorem dX6_faultAnswer_9 : decode cX6_faultAnswer 9 = .ok (.aload_n 0, 1) := by decide +kernel
theorem dX6_faultAnswer_10 : decode cX6_faultAnswer 10 = .ok (.getfield 48, 3) := by decide +kernel
theorem dX6_faultAnswer_13 : decode cX6_faultAnswer 13 = .ok (.iadd, 1) := by decide +kernel
theorem dX6_faultAnswer_14 : decode cX6_faultAnswer 14 = .ok (.isub, 1) := by decide +kernel
theorem dX6_faultAnswer_15 : decode cX6_faultAnswer 15 = .ok (.ireturn, 1) := by decide +kernel
theorem dX6_isKeyword_0 : decode cX6_isKeyword 0 = .ok (.aload_n 0, 1) := by decide +kernel
theorem dX6_isKeyword_1 : decode cX6_isKeyword 1 = .ok (.getfield 22, 3) := by decide +kernel
theorem dX6_isKeyword_4 : decode cX6_isKeyword 4 = .ok (.iconst 2, 1) := by decide +kernel
theorem dX6_isKeyword_5 : decode cX6_isKeyword 5 = .ok (.if_icmp .ne 15, 3) := by decide +kernel
theorem dX6_isKeyword_8 : decode cX6_isKeyword 8 = .ok (.aload_n 0, 1) := by decide +kernel
theorem dX6_isKeyword_9 : decode cX6_isKeyword 9 = .ok (.getfield 28, 3) := by decide +kernel
theorem dX6_isKeyword_12 : decode cX6_isKeyword 12 = .ok (.iload_n 1, 1) := by decide +kernel
theorem dX6_isKeyword_13 : decode cX6_isKeyword 13 = .ok (.if_icmp .ne 7, 3) := by decide +kernel
theorem dX6_isKeyword_16 : decode cX6_isKeyword 16 = .ok (.iconst 1, 1) := by decide +kernel
theorem dX6_isKeyword_17 : decode cX6_isKeyword 17 = .ok (.goto 4, 3) := by decide +kernel
theorem dX6_isKeyword_20 : decode cX6_isKeyword 20 = .ok (.iconst 0, 1) := by decide +kernel
theorem dX6_isKeyword_21 : decode cX6_isKeyword 21 = .ok (.ireturn, 1) := by decide +kernel
theorem dX6_signAt_0 : decode cX6_signAt 0 = .ok (.iload_n 1, 1) := by decide +kernel
theorem dX6_signAt_1 : decode cX6_signAt 1 = .ok (.ifCond .lt 33, 3) := by decide +kernel
theorem dX6_signAt_4 : decode cX6_signAt 4 = .ok (.iload_n 1, 1) := by decide +kernel
theorem dX6_signAt_5 : decode cX6_signAt 5 = .ok (.aload_n 0, 1) := by decide +kernel
theorem dX6_signAt_6 : decode cX6_signAt 6 = .ok (.getfield 15, 3) := by decide +kernel
theorem dX6_signAt_9 : decode cX6_signAt 9 = .ok (.if_icmp .ge 25, 3) := by decide +kernel
theorem dX6_signAt_12 : decode cX6_signAt 12 = .ok (.iload_n 1, 1) := by decide +kernel
theorem dX6_signAt_13 : decode cX6_signAt 13 = .ok (.aload_n 0, 1) := by decide +kernel
theorem dX6_signAt_14 : decode cX6_signAt 14 = .ok (.getfield 54, 3) := by decide +kernel
theorem dX6_signAt_17 : decode cX6_signAt 17 = .ok (.arraylength, 1) := by decide +kernel
theorem dX6_signAt_18 : decode cX6_signAt 18 = .ok (.if_icmp .ge 16, 3) := by decide +kernel
theorem dX6_signAt_21 : decode cX6_signAt 21 = .ok (.aload_n 0, 1) := by decide +kernel
theorem dX6_signAt_22 : decode cX6_signAt 22 = .ok (.getfield 54, 3) := by decide +kernel
theorem dX6_signAt_25 : decode cX6_signAt 25 = .ok (.iload_n 1, 1) := by decide +kernel
theorem dX6_signAt_26 : decode cX6_signAt 26 = .ok (.baload, 1) := by decide +kernel
theorem dX6_signAt_27 : decode cX6_signAt 27 = .ok (.sipush 255, 3) := by decide +kernel
theorem dX6_signAt_30 : decode cX6_signAt 30 = .ok (.iand, 1) := by decide +kernel
theorem dX6_signAt_31 : decode cX6_signAt 31 = .ok (.goto 4, 3) := by decide +kernel
theorem dX6_signAt_34 : decode cX6_signAt 34 = .ok (.iconst 0, 1) := by decide +kernel
theorem dX6_signAt_35 : decode cX6_signAt 35 = .ok (.ireturn, 1) := by decide +kernel
theorem dX6_sortBegun_0 : decode cX6_sortBegun 0 = .ok (.aload_n 0, 1) := by decide +kernel
theorem dX6_sortBegun_1 : decode cX6_sortBegun 1 = .ok (.getfield 22, 3) := by decide +kernel
theorem dX6_sortBegun_4 : decode cX6_sortBegun 4 = .ok (.iconst 3, 1) := by decide +kernel
theorem dX6_sortBegun_5 : decode cX6_sortBegun 5 = .ok (.if_icmp .ne 6, 3) := by decide +kernel
theorem dX6_sortBegun_8 : decode cX6_sortBegun 8 = .ok (.bipush 7, 2) := by decide +kernel
theorem dX6_sortBegun_10 : decode cX6_sortBegun 10 = .ok (.ireturn, 1) := by decide +kernel
theorem dX6_sortBegun_11 : decode cX6_sortBegun 11 = .ok (.aload_n 0, 1) := by decide +kernel
theorem dX6_sortBegun_12 : decode cX6_sortBegun 12 = .ok (.getfield 22, 3) := by decide +kernel
theorem dX6_sortBegun_15 : decode cX6_sortBegun 15 = .ok (.iconst 2, 1) := by decide +kernel
theorem dX6_sortBegun_16 : decode cX6_sortBegun 16 = .ok (.if_icmp .eq 5, 3) := by decide +kernel
theorem dX6_sortBegun_19 : decode cX6_sortBegun 19 = .ok (.iconst (-1), 1) := by decide +kernel
theorem dX6_sortBegun_20 : decode cX6_sortBegun 20 = .ok (.ireturn, 1) := by decide +kernel
theorem dX6_sortBegun_21 : decode cX6_sortBegun 21 = .ok (.aload_n 0, 1) := by decide +kernel
theorem dX6_sortBegun_22 : decode cX6_sortBegun 22 = .ok (.getfield 28, 3) := by decide +kernel
theorem dX6_sortBegun_25 : decode cX6_sortBegun 25 = .ok (.iconst 4, 1) := by decide +kernel
theorem dX6_sortBegun_26 : decode cX6_sortBegun 26 = .ok (.if_icmp .ne 6, 3) := by decide +kernel
theorem dX6_sortBegun_29 : decode cX6_sortBegun 29 = .ok (.bipush 6, 2) := by decide +kernel
theorem dX6_sortBegun_31 : decode cX6_sortBegun 31 = .ok (.ireturn, 1) := by decide +kernel
theorem dX6_sortBegun_32 : decode cX6_sortBegun 32 = .ok (.aload_n 0, 1) := by decide +kernel
theorem dX6_sortBegun_33 : decode cX6_sortBegun 33 = .ok (.getfield 28, 3) := by decide +kernel
theorem dX6_sortBegun_36 : decode cX6_sortBegun 36 = .ok (.iconst 5, 1) := by decide +kernel
theorem dX6_sortBegun_37 : decode cX6_sortBegun 37 = .ok (.if_icmp .ne 6, 3) := by decide +kernel
theorem dX6_sortBegun_40 : decode cX6_sortBegun 40 = .ok (.bipush 8, 2) := by decide +kernel
theorem dX6_sortBegun_42 : decode cX6_sortBegun 42 = .ok (.ireturn, 1) := by decide +kernel
theorem dX6_sortBegun_43 : decode cX6_sortBegun 43 = .ok (.aload_n 0, 1) := by decide +kernel
theorem dX6_sortBegun_44 : decode cX6_sortBegun 44 = .ok (.getfield 28, 3) := by decide +kernel
theorem dX6_sortBegun_47 : decode cX6_sortBegun 47 = .ok (.bipush 7, 2) := by decide +kernel
theorem dX6_sortBegun_49 : decode cX6_sortBegun 49 = .ok (.if_icmp .lt 22, 3) := by decide +kernel
theorem dX6_sortBegun_52 : decode cX6_sortBegun 52 = .ok (.aload_n 0, 1) := by decide +kernel
theorem dX6_sortBegun_53 : decode cX6_sortBegun 53 = .ok (.getfield 28, 3) := by decide +kernel
theorem dX6_sortBegun_56 : decode cX6_sortBegun 56 = .ok (.bipush 12, 2) := by decide +kernel
theorem dX6_sortBegun_58 : decode cX6_sortBegun 58 = .ok (.if_icmp .gt 13, 3) := by decide +kernel
theorem dX6_sortBegun_61 : decode cX6_sortBegun 61 = .ok (.aload_n 0, 1) := by decide +kernel
theorem dX6_sortBegun_62 : decode cX6_sortBegun 62 = .ok (.getfield 28, 3) := by decide +kernel
theorem dX6_sortBegun_65 : decode cX6_sortBegun 65 = .ok (.bipush 7, 2) := by decide +kernel
theorem dX6_sortBegun_67 : decode cX6_sortBegun 67 = .ok (.isub, 1) := by decide +kernel
theorem dX6_sortBegun_68 : decode cX6_sortBegun 68 = .ok (.goto 4, 3) := by decide +kernel
theorem dX6_sortBegun_71 : decode cX6_sortBegun 71 = .ok (.iconst (-1), 1) := by decide +kernel
theorem dX6_sortBegun_72 : decode cX6_sortBegun 72 = .ok (.ireturn, 1) := by decide +kernel
theorem dX7_isRow_0 : decode cX7_isRow 0 = .ok (.iload_n 1, 1) := by decide +kernel
theorem dX7_isRow_1 : decode cX7_isRow 1 = .ok (.ifCond .lt 23, 3) := by decide +kernel
theorem dX7_isRow_4 : decode cX7_isRow 4 = .ok (.iload_n 1, 1) := by decide +kernel
theorem dX7_isRow_5 : decode cX7_isRow 5 = .ok (.aload_n 0, 1) := by decide +kernel
theorem dX7_isRow_6 : decode cX7_isRow 6 = .ok (.getfield 9, 3) := by decide +kernel
theorem dX7_isRow_9 : decode cX7_isRow 9 = .ok (.if_icmp .ge 15, 3) := by decide +kernel
theorem dX7_isRow_12 : decode cX7_isRow 12 = .ok (.iload_n 1, 1) := by decide +kernel
theorem dX7_isRow_13 : decode cX7_isRow 13 = .ok (.aload_n 0, 1) := by decide +kernel
theorem dX7_isRow_14 : decode cX7_isRow 14 = .ok (.getfield 15, 3) := by decide +kernel
theorem dX7_isRow_17 : decode cX7_isRow 17 = .ok (.if_icmp .ge 7, 3) := by decide +kernel
theorem dX7_isRow_20 : decode cX7_isRow 20 = .ok (.iconst 1, 1) := by decide +kernel
theorem dX7_isRow_21 : decode cX7_isRow 21 = .ok (.goto 4, 3) := by decide +kernel
theorem dX7_isRow_24 : decode cX7_isRow 24 = .ok (.iconst 0, 1) := by decide +kernel
theorem dX7_isRow_25 : decode cX7_isRow 25 = .ok (.ireturn, 1) := by decide +kernel
theorem dX7_setWorth_0 : decode cX7_setWorth 0 = .ok (.aload_n 0, 1) := by decide +kernel
theorem dX7_setWorth_1 : decode cX7_setWorth 1 = .ok (.iload_n 1, 1) := by decide +kernel
theorem dX7_setWorth_2 : decode cX7_setWorth 2 = .ok (.invokevirtual 54, 3) := by decide +kernel
theorem dX7_setWorth_5 : decode cX7_setWorth 5 = .ok (.ifCond .eq 17, 3) := by decide +kernel
theorem dX7_setWorth_8 : decode cX7_setWorth 8 = .ok (.aload_n 0, 1) := by decide +kernel
theorem dX7_setWorth_9 : decode cX7_setWorth 9 = .ok (.getfield 28, 3) := by decide +kernel
theorem dX7_setWorth_12 : decode cX7_setWorth 12 = .ok (.iload_n 1, 1) := by decide +kernel
theorem dX7_setWorth_13 : decode cX7_setWorth 13 = .ok (.iload_n 2, 1) := by decide +kernel
theorem dX7_setWorth_14 : decode cX7_setWorth 14 = .ok (.iastore, 1) := by decide +kernel
theorem dX7_setWorth_15 : decode cX7_setWorth 15 = .ok (.aload_n 0, 1) := by decide +kernel
theorem dX7_setWorth_16 : decode cX7_setWorth 16 = .ok (.getfield 35, 3) := by decide +kernel
theorem dX7_setWorth_19 : decode cX7_setWorth 19 = .ok (.iload_n 1, 1) := by decide +kernel
theorem dX7_setWorth_20 : decode cX7_setWorth 20 = .ok (.lload_n 3, 1) := by decide +kernel
theorem dX7_setWorth_21 : decode cX7_setWorth 21 = .ok (.lastore, 1) := by decide +kernel
theorem dX7_setWorth_22 : decode cX7_setWorth 22 = .ok (.return_, 1) := by decide +kernel
theorem dX7_sortAt_0 : decode cX7_sortAt 0 = .ok (.aload_n 0, 1) := by decide +kernel
theorem dX7_sortAt_1 : decode cX7_sortAt 1 = .ok (.iload_n 1, 1) := by decide +kernel
theorem dX7_sortAt_2 : decode cX7_sortAt 2 = .ok (.invokevirtual 54, 3) := by decide +kernel
theorem dX7_sortAt_5 : decode cX7_sortAt 5 = .ok (.ifCond .eq 12, 3) := by decide +kernel
theorem dX7_sortAt_8 : decode cX7_sortAt 8 = .ok (.aload_n 0, 1) := by decide +kernel
theorem dX7_sortAt_9 : decode cX7_sortAt 9 = .ok (.getfield 18, 3) := by decide +kernel
theorem dX7_sortAt_12 : decode cX7_sortAt 12 = .ok (.iload_n 1, 1) := by decide +kernel
theorem dX7_sortAt_13 : decode cX7_sortAt 13 = .ok (.iaload, 1) := by decide +kernel
theorem dX7_sortAt_14 : decode cX7_sortAt 14 = .ok (.goto 4, 3) := by decide +kernel
theorem dX7_sortAt_17 : decode cX7_sortAt 17 = .ok (.iconst (-1), 1) := by decide +kernel
theorem dX7_sortAt_18 : decode cX7_sortAt 18 = .ok (.ireturn, 1) := by decide +kernel
def f_X5_isType (b : Nat) (p0 : Int32) (σ : ST) : Option (Int32 × ST) := if p0 < 0 then (some (0, σ)) else (if (σ.1 b 1) ≤ p0 then (some (0, σ)) else (if 262 ≤ p0 then (some (0, σ)) else (some (1, σ))))

set_option maxRecDepth 100000 in
set_option maxHeartbeats 4000000 in
theorem b_X5_isType_e_4 {p : Program} {l : Launch} {e : Env} {s : State} {m : MethodId} {args : Array Value} {below : List Frame} {meth : Method} {c : Code} {dC : Nat → ClassId} {dI : Nat → Nat → Nat} {a : Nat → Nat} {k : Nat → ClassId} {A : Nat → Prop} {q : Int32 × ST} (hC : CxA p s m args meth c dC dI k A cX5_isType RX5 (some .boolean) 2)   {p0 : Int32} {σ : ST} (h : f_X5_isType 4 p0 σ = some q) : GoA p l e ({ frames := 1, cells := 0, slots := 0, locals := 0 } : Room) s m args below meth c (MQ below (qAi dC dI a k A q) args s 0 0 A) dC dI a k A 2 0 σ (lv_args 0 [.ref (a 4), .int p0]) [] := by
  have hC0 := hC
  obtain ⟨hx, hb, hr, hml, hown, hts, hlocks, hA, hN, hK⟩ := hC0
  intro H locs ls hP hD hS hl
  have hD0 : ∀ σ1 : ST, va_D A (wA a k σ1) := fun σ1 => wA_D hD
  replace hl : lv_has ls 2 [(0, .ref (a 4)), (1, .int p0)] := hl
  unfold f_X5_isType at h
  refine lv_iload_n hx hb dX5_isType_0 rfl (lv_at hl 1 rfl) ?_
  refine lv_if_lt (tgt := 23) hx hb dX5_isType_1 (by decide) (fun hc => ?_) (fun hc => ?_)
  · replace h := ip hc h
    refine lv_iconst (v := 0) hx hb dX5_isType_23 (by decide) ?_
    obtain rfl := Option.some.inj h
    exact W.zret hx hb hr rfl (fun t ht hW => ⟨⟨_, (), rfl, rfl, ⟨by rw [ht]; exact hP, va_K.moved hW.alike hK, hD⟩⟩, hS.F ht⟩) hS.2.2 dX5_isType_24
  · replace h := iq hc h
    refine lv_iload_n hx hb dX5_isType_4 rfl (lv_at hl 1 rfl) ?_
    refine lv_aload_n hx hb dX5_isType_5 rfl (lv_at hl 0 rfl) ?_
    refine va_get (D := (dC, dI)) (ci := 5) (C := RX5) (T := TX5) (N := 17) hx hb hts inlX5 hown hK hP 4 gA_4 rfl 1 (by decide) (hts (.fieldLink RX5 15 "ShapeReader$Shapes" "typeCount" "I") mw_14_13) (fun _ h9 => h9) rfl dX5_isType_6 ?_
    refine lv_icmp_ge (tgt := 23) hx hb dX5_isType_9 (by decide) (fun hc => ?_) (fun hc => ?_)
    · replace h := ip hc h
      refine lv_iconst (v := 0) hx hb dX5_isType_23 (by decide) ?_
      obtain rfl := Option.some.inj h
      exact W.zret hx hb hr rfl (fun t ht hW => ⟨⟨_, (), rfl, rfl, ⟨by rw [ht]; exact hP, va_K.moved hW.alike hK, hD⟩⟩, hS.F ht⟩) hS.2.2 dX5_isType_24
    · replace h := iq hc h
      refine lv_iload_n hx hb dX5_isType_12 rfl (lv_at hl 1 rfl) ?_
      refine lv_sipush (v := 262) hx hb dX5_isType_13 (by decide) ?_
      refine lv_icmp_ge (tgt := 23) hx hb dX5_isType_16 (by decide) (fun hc => ?_) (fun hc => ?_)
      · replace h := ip hc h
        refine lv_iconst (v := 0) hx hb dX5_isType_23 (by decide) ?_
        obtain rfl := Option.some.inj h
        exact W.zret hx hb hr rfl (fun t ht hW => ⟨⟨_, (), rfl, rfl, ⟨by rw [ht]; exact hP, va_K.moved hW.alike hK, hD⟩⟩, hS.F ht⟩) hS.2.2 dX5_isType_24
      · replace h := iq hc h
        refine lv_iconst (v := 1) hx hb dX5_isType_19 (by decide) ?_
        refine lv_goto (tgt := 24) hx hb dX5_isType_20 (by decide) ?_
        obtain rfl := Option.some.inj h
        exact W.zret hx hb hr rfl (fun t ht hW => ⟨⟨_, (), rfl, rfl, ⟨by rw [ht]; exact hP, va_K.moved hW.alike hK, hD⟩⟩, hS.F ht⟩) hS.2.2 dX5_isType_24

theorem s_X5_isType_4 {l : Launch} {dC : Nat → ClassId} {dI : Nat → Nat → Nat} {a : Nat → Nat} {k : Nat → ClassId} {sz : Nat} {p0 : Int32} {σ : ST} {q : Int32 × ST} (h : f_X5_isType 4 p0 σ = some q) : Met l yX5_isType (.code yX5_isType cX5_isType 2 (some .boolean) :: pw) ({ frames := 1, cells := 0, slots := 0, locals := 0 } : Room) (va_Pc [.ref (a 4), .int p0] (vPre dC dI (wA a k σ) (tA k) sz)) (qAi dC dI a k (va_A (wA a k σ) sz) q) 0 0 (va_A (wA a k σ) sz) := metA (fun A => qAi dC dI a k A q) (plainFor_of_name (by decide)) (Nat.le_of_ble_eq_true rfl) (fun _ _ _ _ _ _ _ _ hC => b_X5_isType_e_4 hC h)

set_option maxRecDepth 100000 in
set_option maxHeartbeats 4000000 in
theorem b_X5_isType_e_20 {p : Program} {l : Launch} {e : Env} {s : State} {m : MethodId} {args : Array Value} {below : List Frame} {meth : Method} {c : Code} {dC : Nat → ClassId} {dI : Nat → Nat → Nat} {a : Nat → Nat} {k : Nat → ClassId} {A : Nat → Prop} {q : Int32 × ST} (hC : CxA p s m args meth c dC dI k A cX5_isType RX5 (some .boolean) 2)   {p0 : Int32} {σ : ST} (h : f_X5_isType 20 p0 σ = some q) : GoA p l e ({ frames := 1, cells := 0, slots := 0, locals := 0 } : Room) s m args below meth c (MQ below (qAi dC dI a k A q) args s 0 0 A) dC dI a k A 2 0 σ (lv_args 0 [.ref (a 20), .int p0]) [] := by
  have hC0 := hC
  obtain ⟨hx, hb, hr, hml, hown, hts, hlocks, hA, hN, hK⟩ := hC0
  intro H locs ls hP hD hS hl
  have hD0 : ∀ σ1 : ST, va_D A (wA a k σ1) := fun σ1 => wA_D hD
  replace hl : lv_has ls 2 [(0, .ref (a 20)), (1, .int p0)] := hl
  unfold f_X5_isType at h
  refine lv_iload_n hx hb dX5_isType_0 rfl (lv_at hl 1 rfl) ?_
  refine lv_if_lt (tgt := 23) hx hb dX5_isType_1 (by decide) (fun hc => ?_) (fun hc => ?_)
  · replace h := ip hc h
    refine lv_iconst (v := 0) hx hb dX5_isType_23 (by decide) ?_
    obtain rfl := Option.some.inj h
    exact W.zret hx hb hr rfl (fun t ht hW => ⟨⟨_, (), rfl, rfl, ⟨by rw [ht]; exact hP, va_K.moved hW.alike hK, hD⟩⟩, hS.F ht⟩) hS.2.2 dX5_isType_24
  · replace h := iq hc h
    refine lv_iload_n hx hb dX5_isType_4 rfl (lv_at hl 1 rfl) ?_
    refine lv_aload_n hx hb dX5_isType_5 rfl (lv_at hl 0 rfl) ?_
    refine va_get (D := (dC, dI)) (ci := 5) (C := RX5) (T := TX5) (N := 17) hx hb hts inlX5 hown hK hP 20 gA_20 rfl 1 (by decide) (hts (.fieldLink RX5 15 "ShapeReader$Shapes" "typeCount" "I") mw_14_13) (fun _ h9 => h9) rfl dX5_isType_6 ?_
    refine lv_icmp_ge (tgt := 23) hx hb dX5_isType_9 (by decide) (fun hc => ?_) (fun hc => ?_)
    · replace h := ip hc h
      refine lv_iconst (v := 0) hx hb dX5_isType_23 (by decide) ?_
      obtain rfl := Option.some.inj h
      exact W.zret hx hb hr rfl (fun t ht hW => ⟨⟨_, (), rfl, rfl, ⟨by rw [ht]; exact hP, va_K.moved hW.alike hK, hD⟩⟩, hS.F ht⟩) hS.2.2 dX5_isType_24
    · replace h := iq hc h
      refine lv_iload_n hx hb dX5_isType_12 rfl (lv_at hl 1 rfl) ?_
      refine lv_sipush (v := 262) hx hb dX5_isType_13 (by decide) ?_
      refine lv_icmp_ge (tgt := 23) hx hb dX5_isType_16 (by decide) (fun hc => ?_) (fun hc => ?_)
      · replace h := ip hc h
        refine lv_iconst (v := 0) hx hb dX5_isType_23 (by decide) ?_
        obtain rfl := Option.some.inj h
        exact W.zret hx hb hr rfl (fun t ht hW => ⟨⟨_, (), rfl, rfl, ⟨by rw [ht]; exact hP, va_K.moved hW.alike hK, hD⟩⟩, hS.F ht⟩) hS.2.2 dX5_isType_24
      · replace h := iq hc h
        refine lv_iconst (v := 1) hx hb dX5_isType_19 (by decide) ?_
        refine lv_goto (tgt := 24) hx hb dX5_isType_20 (by decide) ?_
        obtain rfl := Option.some.inj h
        exact W.zret hx hb hr rfl (fun t ht hW => ⟨⟨_, (), rfl, rfl, ⟨by rw [ht]; exact hP, va_K.moved hW.alike hK, hD⟩⟩, hS.F ht⟩) hS.2.2 dX5_isType_24

theorem s_X5_isType_20 {l : Launch} {dC : Nat → ClassId} {dI : Nat → Nat → Nat} {a : Nat → Nat} {k : Nat → ClassId} {sz : Nat} {p0 : Int32} {σ : ST} {q : Int32 × ST} (h : f_X5_isType 20 p0 σ = some q) : Met l yX5_isType (.code yX5_isType cX5_isType 2 (some .boolean) :: pw) ({ frames := 1, cells := 0, slots := 0, locals := 0 } : Room) (va_Pc [.ref (a 20), .int p0] (vPre dC dI (wA a k σ) (tA k) sz)) (qAi dC dI a k (va_A (wA a k σ) sz) q) 0 0 (va_A (wA a k σ) sz) := metA (fun A => qAi dC dI a k A q) (plainFor_of_name (by decide)) (Nat.le_of_ble_eq_true rfl) (fun _ _ _ _ _ _ _ _ hC => b_X5_isType_e_20 hC h)

def f_X5_sortOf (b : Nat) (p0 : Int32) (σ : ST) : Option (Int32 × ST) := (f_X5_isType b p0 σ).bind fun q1 => if q1.1 = 0 then (some ((-1), q1.2)) else (if 0 ≤ p0.toInt ∧ p0.toInt < 262 then (some ((q1.2.1 (b + 11) p0.toNatClampNeg), q1.2)) else none)

set_option maxRecDepth 100000 in
set_option maxHeartbeats 4000000 in
theorem b_X5_sortOf_e_4 {p : Program} {l : Launch} {e : Env} {s : State} {m : MethodId} {args : Array Value} {below : List Frame} {meth : Method} {c : Code} {dC : Nat → ClassId} {dI : Nat → Nat → Nat} {a : Nat → Nat} {k : Nat → ClassId} {A : Nat → Prop} {q : Int32 × ST} (hC : CxA p s m args meth c dC dI k A cX5_sortOf RX5 (some .int) 2)   {p0 : Int32} {σ : ST} (h : f_X5_sortOf 4 p0 σ = some q) : GoA p l e ({ frames := 2, cells := 0, slots := 0, locals := 21 } : Room) s m args below meth c (MQ below (qAi dC dI a k A q) args s 0 0 A) dC dI a k A 2 0 σ (lv_args 0 [.ref (a 4), .int p0]) [] := by
  have hC0 := hC
  obtain ⟨hx, hb, hr, hml, hown, hts, hlocks, hA, hN, hK⟩ := hC0
  intro H locs ls hP hD hS hl
  have hD0 : ∀ σ1 : ST, va_D A (wA a k σ1) := fun σ1 => wA_D hD
  replace hl : lv_has ls 2 [(0, .ref (a 4)), (1, .int p0)] := hl
  unfold f_X5_sortOf at h
  refine lv_aload_n hx hb dX5_sortOf_0 rfl (lv_at hl 0 rfl) ?_
  refine lv_iload_n hx hb dX5_sortOf_1 rfl (lv_at hl 1 rfl) ?_
  obtain ⟨q1, hc, h⟩ := ib h
  have hF := va_frees hD hS hA
  refine va_calli (va_runV (As := [.int p0]) (rest := []) ⟨hx, hb, hml, hown, hts⟩ (s_X5_isType_4 hc) (cwV 1 hts (gV mw_15_3 mw_15_4 mw_15_5 mw_0_9 mw_48_26) rfl rfl rfl (by decide +kernel) ⟨(Nat.le_of_ble_eq_true rfl), (Nat.le_of_ble_eq_true rfl)⟩) (vV (ci := 5) (q0 := 4) hK hP hD hN rfl gA_4) rfl rfl hl.1 rfl (lv_room (Nat.le_of_ble_eq_true rfl)) dX5_sortOf_2 ⟨(Nat.le_of_ble_eq_true rfl), (Nat.le_of_ble_eq_true rfl)⟩) hS (fun q _ h => hF q h) hF (fun r2 u t H locs ht hvm hw hB _ _ hS => ?_)
  obtain rfl : r2 = q1.1 := hw
  replace hP : va_P (dC, dI) vwCl (wA a k q1.2) H := by rw [← ht]; exact hB.1
  replace hD := hD0 (q1.2)
  clear hB hF
  refine lv_if_eq (tgt := 17) hx hb dX5_sortOf_5 (by decide) (fun hc => ?_) (fun hc => ?_)
  · replace h := ip hc h
    refine lv_iconst (v := (-1)) hx hb dX5_sortOf_17 (by decide) ?_
    obtain rfl := Option.some.inj h
    exact W.iret hx hb hr (fun t ht hW => ⟨⟨_, (), rfl, rfl, ⟨by rw [ht]; exact hP, va_K.moved hW.alike hK, hD⟩⟩, hS.F ht⟩) hS.2.2 dX5_sortOf_18
  · replace h := iq hc h
    refine lv_aload_n hx hb dX5_sortOf_8 rfl (lv_at hl 0 rfl) ?_
    refine va_get (D := (dC, dI)) (ci := 5) (C := RX5) (T := TX5) (N := 17) hx hb hts inlX5 hown hK hP 4 gA_4 rfl 12 (by decide) (hts (.fieldLink RX5 50 "ShapeReader$Shapes" "sorts" "[I") mw_14_24) (fun _ h9 => h9) rfl dX5_sortOf_9 ?_
    refine lv_iload_n hx hb dX5_sortOf_12 rfl (lv_at hl 1 rfl) ?_
    obtain ⟨hg3, h⟩ := ig h
    refine va_iald hx hb hK hP 15 12 gA_15 yA_15 (vp_in_iff.mpr hg3) dX5_sortOf_13 ?_
    refine lv_goto (tgt := 18) hx hb dX5_sortOf_14 (by decide) ?_
    obtain rfl := Option.some.inj h
    exact W.iret hx hb hr (fun t ht hW => ⟨⟨_, (), rfl, rfl, ⟨by rw [ht]; exact hP, va_K.moved hW.alike hK, hD⟩⟩, hS.F ht⟩) hS.2.2 dX5_sortOf_18

theorem s_X5_sortOf_4 {l : Launch} {dC : Nat → ClassId} {dI : Nat → Nat → Nat} {a : Nat → Nat} {k : Nat → ClassId} {sz : Nat} {p0 : Int32} {σ : ST} {q : Int32 × ST} (h : f_X5_sortOf 4 p0 σ = some q) : Met l yX5_sortOf (.code yX5_sortOf cX5_sortOf 2 (some .int) :: pw) ({ frames := 2, cells := 0, slots := 0, locals := 21 } : Room) (va_Pc [.ref (a 4), .int p0] (vPre dC dI (wA a k σ) (tA k) sz)) (qAi dC dI a k (va_A (wA a k σ) sz) q) 0 0 (va_A (wA a k σ) sz) := metA (fun A => qAi dC dI a k A q) (plainFor_of_name (by decide)) (Nat.le_of_ble_eq_true rfl) (fun _ _ _ _ _ _ _ _ hC => b_X5_sortOf_e_4 hC h)

set_option maxRecDepth 100000 in
set_option maxHeartbeats 4000000 in
theorem b_X5_sortOf_e_20 {p : Program} {l : Launch} {e : Env} {s : State} {m : MethodId} {args : Array Value} {below : List Frame} {meth : Method} {c : Code} {dC : Nat → ClassId} {dI : Nat → Nat → Nat} {a : Nat → Nat} {k : Nat → ClassId} {A : Nat → Prop} {q : Int32 × ST} (hC : CxA p s m args meth c dC dI k A cX5_sortOf RX5 (some .int) 2)   {p0 : Int32} {σ : ST} (h : f_X5_sortOf 20 p0 σ = some q) : GoA p l e ({ frames := 2, cells := 0, slots := 0, locals := 21 } : Room) s m args below meth c (MQ below (qAi dC dI a k A q) args s 0 0 A) dC dI a k A 2 0 σ (lv_args 0 [.ref (a 20), .int p0]) [] := by
  have hC0 := hC
  obtain ⟨hx, hb, hr, hml, hown, hts, hlocks, hA, hN, hK⟩ := hC0
  intro H locs ls hP hD hS hl
  have hD0 : ∀ σ1 : ST, va_D A (wA a k σ1) := fun σ1 => wA_D hD
  replace hl : lv_has ls 2 [(0, .ref (a 20)), (1, .int p0)] := hl
  unfold f_X5_sortOf at h
  refine lv_aload_n hx hb dX5_sortOf_0 rfl (lv_at hl 0 rfl) ?_
  refine lv_iload_n hx hb dX5_sortOf_1 rfl (lv_at hl 1 rfl) ?_
  obtain ⟨q1, hc, h⟩ := ib h
  have hF := va_frees hD hS hA
  refine va_calli (va_runV (As := [.int p0]) (rest := []) ⟨hx, hb, hml, hown, hts⟩ (s_X5_isType_20 hc) (cwV 1 hts (gV mw_15_3 mw_15_4 mw_15_5 mw_0_9 mw_48_26) rfl rfl rfl (by decide +kernel) ⟨(Nat.le_of_ble_eq_true rfl), (Nat.le_of_ble_eq_true rfl)⟩) (vV (ci := 5) (q0 := 20) hK hP hD hN rfl gA_20) rfl rfl hl.1 rfl (lv_room (Nat.le_of_ble_eq_true rfl)) dX5_sortOf_2 ⟨(Nat.le_of_ble_eq_true rfl), (Nat.le_of_ble_eq_true rfl)⟩) hS (fun q _ h => hF q h) hF (fun r2 u t H locs ht hvm hw hB _ _ hS => ?_)
  obtain rfl : r2 = q1.1 := hw
  replace hP : va_P (dC, dI) vwCl (wA a k q1.2) H := by rw [← ht]; exact hB.1
  replace hD := hD0 (q1.2)
  clear hB hF
  refine lv_if_eq (tgt := 17) hx hb dX5_sortOf_5 (by decide) (fun hc => ?_) (fun hc => ?_)
  · replace h := ip hc h
    refine lv_iconst (v := (-1)) hx hb dX5_sortOf_17 (by decide) ?_
    obtain rfl := Option.some.inj h
    exact W.iret hx hb hr (fun t ht hW => ⟨⟨_, (), rfl, rfl, ⟨by rw [ht]; exact hP, va_K.moved hW.alike hK, hD⟩⟩, hS.F ht⟩) hS.2.2 dX5_sortOf_18
  · replace h := iq hc h
    refine lv_aload_n hx hb dX5_sortOf_8 rfl (lv_at hl 0 rfl) ?_
    refine va_get (D := (dC, dI)) (ci := 5) (C := RX5) (T := TX5) (N := 17) hx hb hts inlX5 hown hK hP 20 gA_20 rfl 12 (by decide) (hts (.fieldLink RX5 50 "ShapeReader$Shapes" "sorts" "[I") mw_14_24) (fun _ h9 => h9) rfl dX5_sortOf_9 ?_
    refine lv_iload_n hx hb dX5_sortOf_12 rfl (lv_at hl 1 rfl) ?_
    obtain ⟨hg3, h⟩ := ig h
    refine va_iald hx hb hK hP 31 27 gA_31 yA_31 (vp_in_iff.mpr hg3) dX5_sortOf_13 ?_
    refine lv_goto (tgt := 18) hx hb dX5_sortOf_14 (by decide) ?_
    obtain rfl := Option.some.inj h
    exact W.iret hx hb hr (fun t ht hW => ⟨⟨_, (), rfl, rfl, ⟨by rw [ht]; exact hP, va_K.moved hW.alike hK, hD⟩⟩, hS.F ht⟩) hS.2.2 dX5_sortOf_18

theorem s_X5_sortOf_20 {l : Launch} {dC : Nat → ClassId} {dI : Nat → Nat → Nat} {a : Nat → Nat} {k : Nat → ClassId} {sz : Nat} {p0 : Int32} {σ : ST} {q : Int32 × ST} (h : f_X5_sortOf 20 p0 σ = some q) : Met l yX5_sortOf (.code yX5_sortOf cX5_sortOf 2 (some .int) :: pw) ({ frames := 2, cells := 0, slots := 0, locals := 21 } : Room) (va_Pc [.ref (a 20), .int p0] (vPre dC dI (wA a k σ) (tA k) sz)) (qAi dC dI a k (va_A (wA a k σ) sz) q) 0 0 (va_A (wA a k σ) sz) := metA (fun A => qAi dC dI a k A q) (plainFor_of_name (by decide)) (Nat.le_of_ble_eq_true rfl) (fun _ _ _ _ _ _ _ _ hC => b_X5_sortOf_e_20 hC h)

def f_X5_innerOf (b : Nat) (p0 : Int32) (σ : ST) : Option (Int32 × ST) := (f_X5_isType b p0 σ).bind fun q1 => if q1.1 = 0 then (some ((-1), q1.2)) else (if 0 ≤ p0.toInt ∧ p0.toInt < 262 then (some ((q1.2.1 (b + 12) p0.toNatClampNeg), q1.2)) else none)

set_option maxRecDepth 100000 in
set_option maxHeartbeats 4000000 in
theorem b_X5_innerOf_e_4 {p : Program} {l : Launch} {e : Env} {s : State} {m : MethodId} {args : Array Value} {below : List Frame} {meth : Method} {c : Code} {dC : Nat → ClassId} {dI : Nat → Nat → Nat} {a : Nat → Nat} {k : Nat → ClassId} {A : Nat → Prop} {q : Int32 × ST} (hC : CxA p s m args meth c dC dI k A cX5_innerOf RX5 (some .int) 2)   {p0 : Int32} {σ : ST} (h : f_X5_innerOf 4 p0 σ = some q) : GoA p l e ({ frames := 2, cells := 0, slots := 0, locals := 21 } : Room) s m args below meth c (MQ below (qAi dC dI a k A q) args s 0 0 A) dC dI a k A 2 0 σ (lv_args 0 [.ref (a 4), .int p0]) [] := by
  have hC0 := hC
  obtain ⟨hx, hb, hr, hml, hown, hts, hlocks, hA, hN, hK⟩ := hC0
  intro H locs ls hP hD hS hl
  have hD0 : ∀ σ1 : ST, va_D A (wA a k σ1) := fun σ1 => wA_D hD
  replace hl : lv_has ls 2 [(0, .ref (a 4)), (1, .int p0)] := hl
  unfold f_X5_innerOf at h
  refine lv_aload_n hx hb dX5_innerOf_0 rfl (lv_at hl 0 rfl) ?_
  refine lv_iload_n hx hb dX5_innerOf_1 rfl (lv_at hl 1 rfl) ?_
  obtain ⟨q1, hc, h⟩ := ib h
  have hF := va_frees hD hS hA
  refine va_calli (va_runV (As := [.int p0]) (rest := []) ⟨hx, hb, hml, hown, hts⟩ (s_X5_isType_4 hc) (cwV 1 hts (gV mw_15_3 mw_15_4 mw_15_5 mw_0_9 mw_48_26) rfl rfl rfl (by decide +kernel) ⟨(Nat.le_of_ble_eq_true rfl), (Nat.le_of_ble_eq_true rfl)⟩) (vV (ci := 5) (q0 := 4) hK hP hD hN rfl gA_4) rfl rfl hl.1 rfl (lv_room (Nat.le_of_ble_eq_true rfl)) dX5_innerOf_2 ⟨(Nat.le_of_ble_eq_true rfl), (Nat.le_of_ble_eq_true rfl)⟩) hS (fun q _ h => hF q h) hF (fun r2 u t H locs ht hvm hw hB _ _ hS => ?_)
  obtain rfl : r2 = q1.1 := hw
  replace hP : va_P (dC, dI) vwCl (wA a k q1.2) H := by rw [← ht]; exact hB.1
  replace hD := hD0 (q1.2)
  clear hB hF
  refine lv_if_eq (tgt := 17) hx hb dX5_innerOf_5 (by decide) (fun hc => ?_) (fun hc => ?_)
  · replace h := ip hc h
    refine lv_iconst (v := (-1)) hx hb dX5_innerOf_17 (by decide) ?_
    obtain rfl := Option.some.inj h
    exact W.iret hx hb hr (fun t ht hW => ⟨⟨_, (), rfl, rfl, ⟨by rw [ht]; exact hP, va_K.moved hW.alike hK, hD⟩⟩, hS.F ht⟩) hS.2.2 dX5_innerOf_18
  · replace h := iq hc h
    refine lv_aload_n hx hb dX5_innerOf_8 rfl (lv_at hl 0 rfl) ?_
    refine va_get (D := (dC, dI)) (ci := 5) (C := RX5) (T := TX5) (N := 17) hx hb hts inlX5 hown hK hP 4 gA_4 rfl 13 (by decide) (hts (.fieldLink RX5 53 "ShapeReader$Shapes" "inners" "[I") mw_14_25) (fun _ h9 => h9) rfl dX5_innerOf_9 ?_
    refine lv_iload_n hx hb dX5_innerOf_12 rfl (lv_at hl 1 rfl) ?_
    obtain ⟨hg3, h⟩ := ig h
    refine va_iald hx hb hK hP 16 13 gA_16 yA_16 (vp_in_iff.mpr hg3) dX5_innerOf_13 ?_
    refine lv_goto (tgt := 18) hx hb dX5_innerOf_14 (by decide) ?_
    obtain rfl := Option.some.inj h
    exact W.iret hx hb hr (fun t ht hW => ⟨⟨_, (), rfl, rfl, ⟨by rw [ht]; exact hP, va_K.moved hW.alike hK, hD⟩⟩, hS.F ht⟩) hS.2.2 dX5_innerOf_18

theorem s_X5_innerOf_4 {l : Launch} {dC : Nat → ClassId} {dI : Nat → Nat → Nat} {a : Nat → Nat} {k : Nat → ClassId} {sz : Nat} {p0 : Int32} {σ : ST} {q : Int32 × ST} (h : f_X5_innerOf 4 p0 σ = some q) : Met l yX5_innerOf (.code yX5_innerOf cX5_innerOf 2 (some .int) :: pw) ({ frames := 2, cells := 0, slots := 0, locals := 21 } : Room) (va_Pc [.ref (a 4), .int p0] (vPre dC dI (wA a k σ) (tA k) sz)) (qAi dC dI a k (va_A (wA a k σ) sz) q) 0 0 (va_A (wA a k σ) sz) := metA (fun A => qAi dC dI a k A q) (plainFor_of_name (by decide)) (Nat.le_of_ble_eq_true rfl) (fun _ _ _ _ _ _ _ _ hC => b_X5_innerOf_e_4 hC h)

set_option maxRecDepth 100000 in
set_option maxHeartbeats 4000000 in
theorem b_X5_innerOf_e_20 {p : Program} {l : Launch} {e : Env} {s : State} {m : MethodId} {args : Array Value} {below : List Frame} {meth : Method} {c : Code} {dC : Nat → ClassId} {dI : Nat → Nat → Nat} {a : Nat → Nat} {k : Nat → ClassId} {A : Nat → Prop} {q : Int32 × ST} (hC : CxA p s m args meth c dC dI k A cX5_innerOf RX5 (some .int) 2)   {p0 : Int32} {σ : ST} (h : f_X5_innerOf 20 p0 σ = some q) : GoA p l e ({ frames := 2, cells := 0, slots := 0, locals := 21 } : Room) s m args below meth c (MQ below (qAi dC dI a k A q) args s 0 0 A) dC dI a k A 2 0 σ (lv_args 0 [.ref (a 20), .int p0]) [] := by
  have hC0 := hC
  obtain ⟨hx, hb, hr, hml, hown, hts, hlocks, hA, hN, hK⟩ := hC0
  intro H locs ls hP hD hS hl
  have hD0 : ∀ σ1 : ST, va_D A (wA a k σ1) := fun σ1 => wA_D hD
  replace hl : lv_has ls 2 [(0, .ref (a 20)), (1, .int p0)] := hl
  unfold f_X5_innerOf at h
  refine lv_aload_n hx hb dX5_innerOf_0 rfl (lv_at hl 0 rfl) ?_
  refine lv_iload_n hx hb dX5_innerOf_1 rfl (lv_at hl 1 rfl) ?_
  obtain ⟨q1, hc, h⟩ := ib h
  have hF := va_frees hD hS hA
  refine va_calli (va_runV (As := [.int p0]) (rest := []) ⟨hx, hb, hml, hown, hts⟩ (s_X5_isType_20 hc) (cwV 1 hts (gV mw_15_3 mw_15_4 mw_15_5 mw_0_9 mw_48_26) rfl rfl rfl (by decide +kernel) ⟨(Nat.le_of_ble_eq_true rfl), (Nat.le_of_ble_eq_true rfl)⟩) (vV (ci := 5) (q0 := 20) hK hP hD hN rfl gA_20) rfl rfl hl.1 rfl (lv_room (Nat.le_of_ble_eq_true rfl)) dX5_innerOf_2 ⟨(Nat.le_of_ble_eq_true rfl), (Nat.le_of_ble_eq_true rfl)⟩) hS (fun q _ h => hF q h) hF (fun r2 u t H locs ht hvm hw hB _ _ hS => ?_)
  obtain rfl : r2 = q1.1 := hw
  replace hP : va_P (dC, dI) vwCl (wA a k q1.2) H := by rw [← ht]; exact hB.1
  replace hD := hD0 (q1.2)
  clear hB hF
  refine lv_if_eq (tgt := 17) hx hb dX5_innerOf_5 (by decide) (fun hc => ?_) (fun hc => ?_)
  · replace h := ip hc h
    refine lv_iconst (v := (-1)) hx hb dX5_innerOf_17 (by decide) ?_
    obtain rfl := Option.some.inj h
    exact W.iret hx hb hr (fun t ht hW => ⟨⟨_, (), rfl, rfl, ⟨by rw [ht]; exact hP, va_K.moved hW.alike hK, hD⟩⟩, hS.F ht⟩) hS.2.2 dX5_innerOf_18
  · replace h := iq hc h
    refine lv_aload_n hx hb dX5_innerOf_8 rfl (lv_at hl 0 rfl) ?_
    refine va_get (D := (dC, dI)) (ci := 5) (C := RX5) (T := TX5) (N := 17) hx hb hts inlX5 hown hK hP 20 gA_20 rfl 13 (by decide) (hts (.fieldLink RX5 53 "ShapeReader$Shapes" "inners" "[I") mw_14_25) (fun _ h9 => h9) rfl dX5_innerOf_9 ?_
    refine lv_iload_n hx hb dX5_innerOf_12 rfl (lv_at hl 1 rfl) ?_
    obtain ⟨hg3, h⟩ := ig h
    refine va_iald hx hb hK hP 32 28 gA_32 yA_32 (vp_in_iff.mpr hg3) dX5_innerOf_13 ?_
    refine lv_goto (tgt := 18) hx hb dX5_innerOf_14 (by decide) ?_
    obtain rfl := Option.some.inj h
    exact W.iret hx hb hr (fun t ht hW => ⟨⟨_, (), rfl, rfl, ⟨by rw [ht]; exact hP, va_K.moved hW.alike hK, hD⟩⟩, hS.F ht⟩) hS.2.2 dX5_innerOf_18

theorem s_X5_innerOf_20 {l : Launch} {dC : Nat → ClassId} {dI : Nat → Nat → Nat} {a : Nat → Nat} {k : Nat → ClassId} {sz : Nat} {p0 : Int32} {σ : ST} {q : Int32 × ST} (h : f_X5_innerOf 20 p0 σ = some q) : Met l yX5_innerOf (.code yX5_innerOf cX5_innerOf 2 (some .int) :: pw) ({ frames := 2, cells := 0, slots := 0, locals := 21 } : Room) (va_Pc [.ref (a 20), .int p0] (vPre dC dI (wA a k σ) (tA k) sz)) (qAi dC dI a k (va_A (wA a k σ) sz) q) 0 0 (va_A (wA a k σ) sz) := metA (fun A => qAi dC dI a k A q) (plainFor_of_name (by decide)) (Nat.le_of_ble_eq_true rfl) (fun _ _ _ _ _ _ _ _ hC => b_X5_innerOf_e_20 hC h)

def f_X5_branchAfter (b : Nat) (p0 : Int32) (σ : ST) : Option (Int32 × ST) := (f_X5_isType b p0 σ).bind fun q1 => if q1.1 = 0 then (some ((-1), q1.2)) else (if 0 ≤ p0.toInt ∧ p0.toInt < 262 then (some ((q1.2.1 (b + 13) p0.toNatClampNeg), q1.2)) else none)

set_option maxRecDepth 100000 in
set_option maxHeartbeats 4000000 in
theorem b_X5_branchAfter_e_4 {p : Program} {l : Launch} {e : Env} {s : State} {m : MethodId} {args : Array Value} {below : List Frame} {meth : Method} {c : Code} {dC : Nat → ClassId} {dI : Nat → Nat → Nat} {a : Nat → Nat} {k : Nat → ClassId} {A : Nat → Prop} {q : Int32 × ST} (hC : CxA p s m args meth c dC dI k A cX5_branchAfter RX5 (some .int) 2)   {p0 : Int32} {σ : ST} (h : f_X5_branchAfter 4 p0 σ = some q) : GoA p l e ({ frames := 2, cells := 0, slots := 0, locals := 21 } : Room) s m args below meth c (MQ below (qAi dC dI a k A q) args s 0 0 A) dC dI a k A 2 0 σ (lv_args 0 [.ref (a 4), .int p0]) [] := by
  have hC0 := hC
  obtain ⟨hx, hb, hr, hml, hown, hts, hlocks, hA, hN, hK⟩ := hC0
  intro H locs ls hP hD hS hl
  have hD0 : ∀ σ1 : ST, va_D A (wA a k σ1) := fun σ1 => wA_D hD
  replace hl : lv_has ls 2 [(0, .ref (a 4)), (1, .int p0)] := hl
  unfold f_X5_branchAfter at h
  refine lv_aload_n hx hb dX5_branchAfter_0 rfl (lv_at hl 0 rfl) ?_
  refine lv_iload_n hx hb dX5_branchAfter_1 rfl (lv_at hl 1 rfl) ?_
  obtain ⟨q1, hc, h⟩ := ib h
  have hF := va_frees hD hS hA
  refine va_calli (va_runV (As := [.int p0]) (rest := []) ⟨hx, hb, hml, hown, hts⟩ (s_X5_isType_4 hc) (cwV 1 hts (gV mw_15_3 mw_15_4 mw_15_5 mw_0_9 mw_48_26) rfl rfl rfl (by decide +kernel) ⟨(Nat.le_of_ble_eq_true rfl), (Nat.le_of_ble_eq_true rfl)⟩) (vV (ci := 5) (q0 := 4) hK hP hD hN rfl gA_4) rfl rfl hl.1 rfl (lv_room (Nat.le_of_ble_eq_true rfl)) dX5_branchAfter_2 ⟨(Nat.le_of_ble_eq_true rfl), (Nat.le_of_ble_eq_true rfl)⟩) hS (fun q _ h => hF q h) hF (fun r2 u t H locs ht hvm hw hB _ _ hS => ?_)
  obtain rfl : r2 = q1.1 := hw
  replace hP : va_P (dC, dI) vwCl (wA a k q1.2) H := by rw [← ht]; exact hB.1
  replace hD := hD0 (q1.2)
  clear hB hF
  refine lv_if_eq (tgt := 17) hx hb dX5_branchAfter_5 (by decide) (fun hc => ?_) (fun hc => ?_)
  · replace h := ip hc h
    refine lv_iconst (v := (-1)) hx hb dX5_branchAfter_17 (by decide) ?_
    obtain rfl := Option.some.inj h
    exact W.iret hx hb hr (fun t ht hW => ⟨⟨_, (), rfl, rfl, ⟨by rw [ht]; exact hP, va_K.moved hW.alike hK, hD⟩⟩, hS.F ht⟩) hS.2.2 dX5_branchAfter_18
  · replace h := iq hc h
    refine lv_aload_n hx hb dX5_branchAfter_8 rfl (lv_at hl 0 rfl) ?_
    refine va_get (D := (dC, dI)) (ci := 5) (C := RX5) (T := TX5) (N := 17) hx hb hts inlX5 hown hK hP 4 gA_4 rfl 14 (by decide) (hts (.fieldLink RX5 56 "ShapeReader$Shapes" "nextBranches" "[I") mw_14_26) (fun _ h9 => h9) rfl dX5_branchAfter_9 ?_
    refine lv_iload_n hx hb dX5_branchAfter_12 rfl (lv_at hl 1 rfl) ?_
    obtain ⟨hg3, h⟩ := ig h
    refine va_iald hx hb hK hP 17 14 gA_17 yA_17 (vp_in_iff.mpr hg3) dX5_branchAfter_13 ?_
    refine lv_goto (tgt := 18) hx hb dX5_branchAfter_14 (by decide) ?_
    obtain rfl := Option.some.inj h
    exact W.iret hx hb hr (fun t ht hW => ⟨⟨_, (), rfl, rfl, ⟨by rw [ht]; exact hP, va_K.moved hW.alike hK, hD⟩⟩, hS.F ht⟩) hS.2.2 dX5_branchAfter_18

theorem s_X5_branchAfter_4 {l : Launch} {dC : Nat → ClassId} {dI : Nat → Nat → Nat} {a : Nat → Nat} {k : Nat → ClassId} {sz : Nat} {p0 : Int32} {σ : ST} {q : Int32 × ST} (h : f_X5_branchAfter 4 p0 σ = some q) : Met l yX5_branchAfter (.code yX5_branchAfter cX5_branchAfter 2 (some .int) :: pw) ({ frames := 2, cells := 0, slots := 0, locals := 21 } : Room) (va_Pc [.ref (a 4), .int p0] (vPre dC dI (wA a k σ) (tA k) sz)) (qAi dC dI a k (va_A (wA a k σ) sz) q) 0 0 (va_A (wA a k σ) sz) := metA (fun A => qAi dC dI a k A q) (plainFor_of_name (by decide)) (Nat.le_of_ble_eq_true rfl) (fun _ _ _ _ _ _ _ _ hC => b_X5_branchAfter_e_4 hC h)

set_option maxRecDepth 100000 in
set_option maxHeartbeats 4000000 in
theorem b_X5_branchAfter_e_20 {p : Program} {l : Launch} {e : Env} {s : State} {m : MethodId} {args : Array Value} {below : List Frame} {meth : Method} {c : Code} {dC : Nat → ClassId} {dI : Nat → Nat → Nat} {a : Nat → Nat} {k : Nat → ClassId} {A : Nat → Prop} {q : Int32 × ST} (hC : CxA p s m args meth c dC dI k A cX5_branchAfter RX5 (some .int) 2)   {p0 : Int32} {σ : ST} (h : f_X5_branchAfter 20 p0 σ = some q) : GoA p l e ({ frames := 2, cells := 0, slots := 0, locals := 21 } : Room) s m args below meth c (MQ below (qAi dC dI a k A q) args s 0 0 A) dC dI a k A 2 0 σ (lv_args 0 [.ref (a 20), .int p0]) [] := by
  have hC0 := hC
  obtain ⟨hx, hb, hr, hml, hown, hts, hlocks, hA, hN, hK⟩ := hC0
  intro H locs ls hP hD hS hl
  have hD0 : ∀ σ1 : ST, va_D A (wA a k σ1) := fun σ1 => wA_D hD
  replace hl : lv_has ls 2 [(0, .ref (a 20)), (1, .int p0)] := hl
  unfold f_X5_branchAfter at h
  refine lv_aload_n hx hb dX5_branchAfter_0 rfl (lv_at hl 0 rfl) ?_
  refine lv_iload_n hx hb dX5_branchAfter_1 rfl (lv_at hl 1 rfl) ?_
  obtain ⟨q1, hc, h⟩ := ib h
  have hF := va_frees hD hS hA
  refine va_calli (va_runV (As := [.int p0]) (rest := []) ⟨hx, hb, hml, hown, hts⟩ (s_X5_isType_20 hc) (cwV 1 hts (gV mw_15_3 mw_15_4 mw_15_5 mw_0_9 mw_48_26) rfl rfl rfl (by decide +kernel) ⟨(Nat.le_of_ble_eq_true rfl), (Nat.le_of_ble_eq_true rfl)⟩) (vV (ci := 5) (q0 := 20) hK hP hD hN rfl gA_20) rfl rfl hl.1 rfl (lv_room (Nat.le_of_ble_eq_true rfl)) dX5_branchAfter_2 ⟨(Nat.le_of_ble_eq_true rfl), (Nat.le_of_ble_eq_true rfl)⟩) hS (fun q _ h => hF q h) hF (fun r2 u t H locs ht hvm hw hB _ _ hS => ?_)
  obtain rfl : r2 = q1.1 := hw
  replace hP : va_P (dC, dI) vwCl (wA a k q1.2) H := by rw [← ht]; exact hB.1
  replace hD := hD0 (q1.2)
  clear hB hF
  refine lv_if_eq (tgt := 17) hx hb dX5_branchAfter_5 (by decide) (fun hc => ?_) (fun hc => ?_)
  · replace h := ip hc h
    refine lv_iconst (v := (-1)) hx hb dX5_branchAfter_17 (by decide) ?_
    obtain rfl := Option.some.inj h
    exact W.iret hx hb hr (fun t ht hW => ⟨⟨_, (), rfl, rfl, ⟨by rw [ht]; exact hP, va_K.moved hW.alike hK, hD⟩⟩, hS.F ht⟩) hS.2.2 dX5_branchAfter_18
  · replace h := iq hc h
    refine lv_aload_n hx hb dX5_branchAfter_8 rfl (lv_at hl 0 rfl) ?_
    refine va_get (D := (dC, dI)) (ci := 5) (C := RX5) (T := TX5) (N := 17) hx hb hts inlX5 hown hK hP 20 gA_20 rfl 14 (by decide) (hts (.fieldLink RX5 56 "ShapeReader$Shapes" "nextBranches" "[I") mw_14_26) (fun _ h9 => h9) rfl dX5_branchAfter_9 ?_
    refine lv_iload_n hx hb dX5_branchAfter_12 rfl (lv_at hl 1 rfl) ?_
    obtain ⟨hg3, h⟩ := ig h
    refine va_iald hx hb hK hP 33 29 gA_33 yA_33 (vp_in_iff.mpr hg3) dX5_branchAfter_13 ?_
    refine lv_goto (tgt := 18) hx hb dX5_branchAfter_14 (by decide) ?_
    obtain rfl := Option.some.inj h
    exact W.iret hx hb hr (fun t ht hW => ⟨⟨_, (), rfl, rfl, ⟨by rw [ht]; exact hP, va_K.moved hW.alike hK, hD⟩⟩, hS.F ht⟩) hS.2.2 dX5_branchAfter_18

theorem s_X5_branchAfter_20 {l : Launch} {dC : Nat → ClassId} {dI : Nat → Nat → Nat} {a : Nat → Nat} {k : Nat → ClassId} {sz : Nat} {p0 : Int32} {σ : ST} {q : Int32 × ST} (h : f_X5_branchAfter 20 p0 σ = some q) : Met l yX5_branchAfter (.code yX5_branchAfter cX5_branchAfter 2 (some .int) :: pw) ({ frames := 2, cells := 0, slots := 0, locals := 21 } : Room) (va_Pc [.ref (a 20), .int p0] (vPre dC dI (wA a k σ) (tA k) sz)) (qAi dC dI a k (va_A (wA a k σ) sz) q) 0 0 (va_A (wA a k σ) sz) := metA (fun A => qAi dC dI a k A q) (plainFor_of_name (by decide)) (Nat.le_of_ble_eq_true rfl) (fun _ _ _ _ _ _ _ _ hC => b_X5_branchAfter_e_20 hC h)

def f_X5_addType (b : Nat) (p0 : Int32) (σ : ST) : Option (Int32 × ST) := if (σ.1 b 1) < 262 then (if 0 ≤ (σ.1 b 1).toInt ∧ (σ.1 b 1).toInt < 262 then ((some (stI (stI (stI σ (b + 11) (σ.1 b 1).toNatClampNeg p0) (b + 12) (σ.1 b 1).toNatClampNeg (-1)) (b + 13) (σ.1 b 1).toNatClampNeg (-1))).bind fun z2 => (some (stI (stI (stL z2 (b + 14) (σ.1 b 1).toNatClampNeg 0) (b + 15) (σ.1 b 1).toNatClampNeg 0) b 1 (((stI (stL z2 (b + 14) (σ.1 b 1).toNatClampNeg 0) (b + 15) (σ.1 b 1).toNatClampNeg 0).1 b 1) + 1))).bind fun z3 => some ((σ.1 b 1), z3)) else none) else (some ((-1), σ))

set_option maxRecDepth 100000 in
set_option maxHeartbeats 4000000 in
theorem b_X5_addType_e_4 {p : Program} {l : Launch} {e : Env} {s : State} {m : MethodId} {args : Array Value} {below : List Frame} {meth : Method} {c : Code} {dC : Nat → ClassId} {dI : Nat → Nat → Nat} {a : Nat → Nat} {k : Nat → ClassId} {A : Nat → Prop} {q : Int32 × ST} (hC : CxA p s m args meth c dC dI k A cX5_addType RX5 (some .int) 3)   {p0 : Int32} {σ : ST} (h : f_X5_addType 4 p0 σ = some q) : GoA p l e ({ frames := 1, cells := 0, slots := 0, locals := 0 } : Room) s m args below meth c (MQ below (qAi dC dI a k A q) args s 0 0 A) dC dI a k A 3 0 σ (lv_args 0 [.ref (a 4), .int p0]) [] := by
  have hC0 := hC
  obtain ⟨hx, hb, hr, hml, hown, hts, hlocks, hA, hN, hK⟩ := hC0
  intro H locs ls hP hD hS hl
  have hD0 : ∀ σ1 : ST, va_D A (wA a k σ1) := fun σ1 => wA_D hD
  replace hl : lv_has ls 3 [(0, .ref (a 4)), (1, .int p0)] := hl
  unfold f_X5_addType at h
  refine lv_aload_n hx hb dX5_addType_0 rfl (lv_at hl 0 rfl) ?_
  refine va_get (D := (dC, dI)) (ci := 5) (C := RX5) (T := TX5) (N := 17) hx hb hts inlX5 hown hK hP 4 gA_4 rfl 1 (by decide) (hts (.fieldLink RX5 15 "ShapeReader$Shapes" "typeCount" "I") mw_14_13) (fun _ h9 => h9) rfl dX5_addType_1 ?_
  refine lv_sipush (v := 262) hx hb dX5_addType_4 (by decide) ?_
  refine lv_icmp_lt (tgt := 12) hx hb dX5_addType_7 (by decide) (fun hc => ?_) (fun hc => ?_)
  · replace h := ip hc h
    refine lv_aload_n hx hb dX5_addType_12 rfl (lv_at hl 0 rfl) ?_
    refine va_get (D := (dC, dI)) (ci := 5) (C := RX5) (T := TX5) (N := 17) hx hb hts inlX5 hown hK hP 4 gA_4 rfl 1 (by decide) (hts (.fieldLink RX5 15 "ShapeReader$Shapes" "typeCount" "I") mw_14_13) (fun _ h9 => h9) rfl dX5_addType_13 ?_
    refine lv_istore_n (lv' := [(2, .int (σ.1 4 1)), (0, .ref (a 4)), (1, .int p0)]) hx hb dX5_addType_16 rfl hl (by decide) rfl (fun ls hl => ?_)
    refine lv_aload_n hx hb dX5_addType_17 rfl (lv_at hl 1 rfl) ?_
    refine va_get (D := (dC, dI)) (ci := 5) (C := RX5) (T := TX5) (N := 17) hx hb hts inlX5 hown hK hP 4 gA_4 rfl 12 (by decide) (hts (.fieldLink RX5 50 "ShapeReader$Shapes" "sorts" "[I") mw_14_24) (fun _ h9 => h9) rfl dX5_addType_18 ?_
    refine lv_iload_n hx hb dX5_addType_21 rfl (lv_at hl 0 rfl) ?_
    refine lv_iload_n hx hb dX5_addType_22 rfl (lv_at hl 2 rfl) ?_
    obtain ⟨hg1, h⟩ := ig h
    refine va_iast hx hb hK hP hD hS 15 12 gA_15 yA_15 (vp_in_iff.mpr hg1) dX5_addType_23 (fun H locs hP hD hS => ?_)
    replace hP := uA_15 hP
    replace hD := hD0 ((stI σ 15 (σ.1 4 1).toNatClampNeg p0))
    refine lv_aload_n hx hb dX5_addType_24 rfl (lv_at hl 1 rfl) ?_
    refine va_get (D := (dC, dI)) (ci := 5) (C := RX5) (T := TX5) (N := 17) hx hb hts inlX5 hown hK hP 4 gA_4 rfl 13 (by decide) (hts (.fieldLink RX5 53 "ShapeReader$Shapes" "inners" "[I") mw_14_25) (fun _ h9 => h9) rfl dX5_addType_25 ?_
    refine lv_iload_n hx hb dX5_addType_28 rfl (lv_at hl 0 rfl) ?_
    refine lv_iconst (v := (-1)) hx hb dX5_addType_29 (by decide) ?_
    refine va_iast hx hb hK hP hD hS 16 13 gA_16 yA_16 (vp_in_iff.mpr hg1) dX5_addType_30 (fun H locs hP hD hS => ?_)
    replace hP := uA_16 hP
    replace hD := hD0 ((stI (stI σ 15 (σ.1 4 1).toNatClampNeg p0) 16 (σ.1 4 1).toNatClampNeg (-1)))
    refine lv_aload_n hx hb dX5_addType_31 rfl (lv_at hl 1 rfl) ?_
    refine va_get (D := (dC, dI)) (ci := 5) (C := RX5) (T := TX5) (N := 17) hx hb hts inlX5 hown hK hP 4 gA_4 rfl 14 (by decide) (hts (.fieldLink RX5 56 "ShapeReader$Shapes" "nextBranches" "[I") mw_14_26) (fun _ h9 => h9) rfl dX5_addType_32 ?_
    refine lv_iload_n hx hb dX5_addType_35 rfl (lv_at hl 0 rfl) ?_
    refine lv_iconst (v := (-1)) hx hb dX5_addType_36 (by decide) ?_
    refine va_iast hx hb hK hP hD hS 17 14 gA_17 yA_17 (vp_in_iff.mpr hg1) dX5_addType_37 (fun H locs hP hD hS => ?_)
    replace hP := uA_17 hP
    replace hD := hD0 ((stI (stI (stI σ 15 (σ.1 4 1).toNatClampNeg p0) 16 (σ.1 4 1).toNatClampNeg (-1)) 17 (σ.1 4 1).toNatClampNeg (-1)))
    obtain ⟨z2, hs, h⟩ := ib h
    replace hs := Option.some.inj hs
    replace hP : va_P (dC, dI) vwCl (wA a k z2) H := by rw [← hs]; exact hP
    replace hD := hD0 z2
    clear hs
    refine lv_aload_n hx hb dX5_addType_38 rfl (lv_at hl 1 rfl) ?_
    refine va_get (D := (dC, dI)) (ci := 5) (C := RX5) (T := TX5) (N := 17) hx hb hts inlX5 hown hK hP 4 gA_4 rfl 15 (by decide) (hts (.fieldLink RX5 59 "ShapeReader$Shapes" "askedNames" "[J") mw_14_27) (fun _ h9 => h9) rfl dX5_addType_39 ?_
    refine lv_iload_n hx hb dX5_addType_42 rfl (lv_at hl 0 rfl) ?_
    refine lv_lconst (v := 0) hx hb dX5_addType_43 (by decide) ?_
    refine va_last hx hb hK hP hD hS 18 15 gA_18 yA_18 (vp_in_iff.mpr hg1) dX5_addType_44 (fun H locs hP hD hS => ?_)
    replace hP := uA_18 hP
    replace hD := hD0 ((stL z2 18 (σ.1 4 1).toNatClampNeg 0))
    refine lv_aload_n hx hb dX5_addType_45 rfl (lv_at hl 1 rfl) ?_
    refine va_get (D := (dC, dI)) (ci := 5) (C := RX5) (T := TX5) (N := 17) hx hb hts inlX5 hown hK hP 4 gA_4 rfl 16 (by decide) (hts (.fieldLink RX5 62 "ShapeReader$Shapes" "askedPlaces" "[I") mw_14_28) (fun _ h9 => h9) rfl dX5_addType_46 ?_
    refine lv_iload_n hx hb dX5_addType_49 rfl (lv_at hl 0 rfl) ?_
    refine lv_iconst (v := 0) hx hb dX5_addType_50 (by decide) ?_
    refine va_iast hx hb hK hP hD hS 19 16 gA_19 yA_19 (vp_in_iff.mpr hg1) dX5_addType_51 (fun H locs hP hD hS => ?_)
    replace hP := uA_19 hP
    replace hD := hD0 ((stI (stL z2 18 (σ.1 4 1).toNatClampNeg 0) 19 (σ.1 4 1).toNatClampNeg 0))
    refine lv_aload_n hx hb dX5_addType_52 rfl (lv_at hl 1 rfl) ?_
    refine lv_dup hx hb dX5_addType_53 rfl ?_
    refine va_get (D := (dC, dI)) (ci := 5) (C := RX5) (T := TX5) (N := 17) hx hb hts inlX5 hown hK hP 4 gA_4 rfl 1 (by decide) (hts (.fieldLink RX5 15 "ShapeReader$Shapes" "typeCount" "I") mw_14_13) (fun _ h9 => h9) rfl dX5_addType_54 ?_
    refine lv_iconst (v := 1) hx hb dX5_addType_57 (by decide) ?_
    refine lv_iadd hx hb dX5_addType_58 ?_
    refine va_put (D := (dC, dI)) (ci := 5) (ty := .int) (C := RX5) (T := TX5) (N := 17) hx hb hts inlX5 tyX5 tyX5_ok nmX5 hown hK hP hD hS 4 gA_4 rfl 1 (by decide) (hts (.fieldLink RX5 15 "ShapeReader$Shapes" "typeCount" "I") mw_14_13) (fun _ h9 => h9) rfl (by decide +kernel) rfl rfl (Nat.le_of_ble_eq_true rfl) dX5_addType_59 (fun H locs hP hD hS => ?_)
    replace hP := uA_4_1 hP
    replace hD := hD0 ((stI (stI (stL z2 18 (σ.1 4 1).toNatClampNeg 0) 19 (σ.1 4 1).toNatClampNeg 0) 4 1 (((stI (stL z2 18 (σ.1 4 1).toNatClampNeg 0) 19 (σ.1 4 1).toNatClampNeg 0).1 4 1) + 1)))
    obtain ⟨z3, hs, h⟩ := ib h
    replace hs := Option.some.inj hs
    replace hP : va_P (dC, dI) vwCl (wA a k z3) H := by rw [← hs]; exact hP
    replace hD := hD0 z3
    clear hs
    refine lv_iload_n hx hb dX5_addType_62 rfl (lv_at hl 0 rfl) ?_
    obtain rfl := Option.some.inj h
    exact W.iret hx hb hr (fun t ht hW => ⟨⟨_, (), rfl, rfl, ⟨by rw [ht]; exact hP, va_K.moved hW.alike hK, hD⟩⟩, hS.F ht⟩) hS.2.2 dX5_addType_63
  · replace h := iq hc h
    refine lv_iconst (v := (-1)) hx hb dX5_addType_10 (by decide) ?_
    obtain rfl := Option.some.inj h
    exact W.iret hx hb hr (fun t ht hW => ⟨⟨_, (), rfl, rfl, ⟨by rw [ht]; exact hP, va_K.moved hW.alike hK, hD⟩⟩, hS.F ht⟩) hS.2.2 dX5_addType_11

theorem s_X5_addType_4 {l : Launch} {dC : Nat → ClassId} {dI : Nat → Nat → Nat} {a : Nat → Nat} {k : Nat → ClassId} {sz : Nat} {p0 : Int32} {σ : ST} {q : Int32 × ST} (h : f_X5_addType 4 p0 σ = some q) : Met l yX5_addType (.code yX5_addType cX5_addType 3 (some .int) :: pw) ({ frames := 1, cells := 0, slots := 0, locals := 0 } : Room) (va_Pc [.ref (a 4), .int p0] (vPre dC dI (wA a k σ) (tA k) sz)) (qAi dC dI a k (va_A (wA a k σ) sz) q) 0 0 (va_A (wA a k σ) sz) := metA (fun A => qAi dC dI a k A q) (plainFor_of_name (by decide)) (Nat.le_of_ble_eq_true rfl) (fun _ _ _ _ _ _ _ _ hC => b_X5_addType_e_4 hC h)

set_option maxRecDepth 100000 in
set_option maxHeartbeats 4000000 in
theorem b_X5_addType_e_20 {p : Program} {l : Launch} {e : Env} {s : State} {m : MethodId} {args : Array Value} {below : List Frame} {meth : Method} {c : Code} {dC : Nat → ClassId} {dI : Nat → Nat → Nat} {a : Nat → Nat} {k : Nat → ClassId} {A : Nat → Prop} {q : Int32 × ST} (hC : CxA p s m args meth c dC dI k A cX5_addType RX5 (some .int) 3)   {p0 : Int32} {σ : ST} (h : f_X5_addType 20 p0 σ = some q) : GoA p l e ({ frames := 1, cells := 0, slots := 0, locals := 0 } : Room) s m args below meth c (MQ below (qAi dC dI a k A q) args s 0 0 A) dC dI a k A 3 0 σ (lv_args 0 [.ref (a 20), .int p0]) [] := by
  have hC0 := hC
  obtain ⟨hx, hb, hr, hml, hown, hts, hlocks, hA, hN, hK⟩ := hC0
  intro H locs ls hP hD hS hl
  have hD0 : ∀ σ1 : ST, va_D A (wA a k σ1) := fun σ1 => wA_D hD
  replace hl : lv_has ls 3 [(0, .ref (a 20)), (1, .int p0)] := hl
  unfold f_X5_addType at h
  refine lv_aload_n hx hb dX5_addType_0 rfl (lv_at hl 0 rfl) ?_
  refine va_get (D := (dC, dI)) (ci := 5) (C := RX5) (T := TX5) (N := 17) hx hb hts inlX5 hown hK hP 20 gA_20 rfl 1 (by decide) (hts (.fieldLink RX5 15 "ShapeReader$Shapes" "typeCount" "I") mw_14_13) (fun _ h9 => h9) rfl dX5_addType_1 ?_
  refine lv_sipush (v := 262) hx hb dX5_addType_4 (by decide) ?_
  refine lv_icmp_lt (tgt := 12) hx hb dX5_addType_7 (by decide) (fun hc => ?_) (fun hc => ?_)
  · replace h := ip hc h
    refine lv_aload_n hx hb dX5_addType_12 rfl (lv_at hl 0 rfl) ?_
    refine va_get (D := (dC, dI)) (ci := 5) (C := RX5) (T := TX5) (N := 17) hx hb hts inlX5 hown hK hP 20 gA_20 rfl 1 (by decide) (hts (.fieldLink RX5 15 "ShapeReader$Shapes" "typeCount" "I") mw_14_13) (fun _ h9 => h9) rfl dX5_addType_13 ?_
    refine lv_istore_n (lv' := [(2, .int (σ.1 20 1)), (0, .ref (a 20)), (1, .int p0)]) hx hb dX5_addType_16 rfl hl (by decide) rfl (fun ls hl => ?_)
    refine lv_aload_n hx hb dX5_addType_17 rfl (lv_at hl 1 rfl) ?_
    refine va_get (D := (dC, dI)) (ci := 5) (C := RX5) (T := TX5) (N := 17) hx hb hts inlX5 hown hK hP 20 gA_20 rfl 12 (by decide) (hts (.fieldLink RX5 50 "ShapeReader$Shapes" "sorts" "[I") mw_14_24) (fun _ h9 => h9) rfl dX5_addType_18 ?_
    refine lv_iload_n hx hb dX5_addType_21 rfl (lv_at hl 0 rfl) ?_
    refine lv_iload_n hx hb dX5_addType_22 rfl (lv_at hl 2 rfl) ?_
    obtain ⟨hg1, h⟩ := ig h
    refine va_iast hx hb hK hP hD hS 31 27 gA_31 yA_31 (vp_in_iff.mpr hg1) dX5_addType_23 (fun H locs hP hD hS => ?_)
    replace hP := uA_31 hP
    replace hD := hD0 ((stI σ 31 (σ.1 20 1).toNatClampNeg p0))
    refine lv_aload_n hx hb dX5_addType_24 rfl (lv_at hl 1 rfl) ?_
    refine va_get (D := (dC, dI)) (ci := 5) (C := RX5) (T := TX5) (N := 17) hx hb hts inlX5 hown hK hP 20 gA_20 rfl 13 (by decide) (hts (.fieldLink RX5 53 "ShapeReader$Shapes" "inners" "[I") mw_14_25) (fun _ h9 => h9) rfl dX5_addType_25 ?_
    refine lv_iload_n hx hb dX5_addType_28 rfl (lv_at hl 0 rfl) ?_
    refine lv_iconst (v := (-1)) hx hb dX5_addType_29 (by decide) ?_
    refine va_iast hx hb hK hP hD hS 32 28 gA_32 yA_32 (vp_in_iff.mpr hg1) dX5_addType_30 (fun H locs hP hD hS => ?_)
    replace hP := uA_32 hP
    replace hD := hD0 ((stI (stI σ 31 (σ.1 20 1).toNatClampNeg p0) 32 (σ.1 20 1).toNatClampNeg (-1)))
    refine lv_aload_n hx hb dX5_addType_31 rfl (lv_at hl 1 rfl) ?_
    refine va_get (D := (dC, dI)) (ci := 5) (C := RX5) (T := TX5) (N := 17) hx hb hts inlX5 hown hK hP 20 gA_20 rfl 14 (by decide) (hts (.fieldLink RX5 56 "ShapeReader$Shapes" "nextBranches" "[I") mw_14_26) (fun _ h9 => h9) rfl dX5_addType_32 ?_
    refine lv_iload_n hx hb dX5_addType_35 rfl (lv_at hl 0 rfl) ?_
    refine lv_iconst (v := (-1)) hx hb dX5_addType_36 (by decide) ?_
    refine va_iast hx hb hK hP hD hS 33 29 gA_33 yA_33 (vp_in_iff.mpr hg1) dX5_addType_37 (fun H locs hP hD hS => ?_)
    replace hP := uA_33 hP
    replace hD := hD0 ((stI (stI (stI σ 31 (σ.1 20 1).toNatClampNeg p0) 32 (σ.1 20 1).toNatClampNeg (-1)) 33 (σ.1 20 1).toNatClampNeg (-1)))
    obtain ⟨z2, hs, h⟩ := ib h
    replace hs := Option.some.inj hs
    replace hP : va_P (dC, dI) vwCl (wA a k z2) H := by rw [← hs]; exact hP
    replace hD := hD0 z2
    clear hs
    refine lv_aload_n hx hb dX5_addType_38 rfl (lv_at hl 1 rfl) ?_
    refine va_get (D := (dC, dI)) (ci := 5) (C := RX5) (T := TX5) (N := 17) hx hb hts inlX5 hown hK hP 20 gA_20 rfl 15 (by decide) (hts (.fieldLink RX5 59 "ShapeReader$Shapes" "askedNames" "[J") mw_14_27) (fun _ h9 => h9) rfl dX5_addType_39 ?_
    refine lv_iload_n hx hb dX5_addType_42 rfl (lv_at hl 0 rfl) ?_
    refine lv_lconst (v := 0) hx hb dX5_addType_43 (by decide) ?_
    refine va_last hx hb hK hP hD hS 34 30 gA_34 yA_34 (vp_in_iff.mpr hg1) dX5_addType_44 (fun H locs hP hD hS => ?_)
    replace hP := uA_34 hP
    replace hD := hD0 ((stL z2 34 (σ.1 20 1).toNatClampNeg 0))
    refine lv_aload_n hx hb dX5_addType_45 rfl (lv_at hl 1 rfl) ?_
    refine va_get (D := (dC, dI)) (ci := 5) (C := RX5) (T := TX5) (N := 17) hx hb hts inlX5 hown hK hP 20 gA_20 rfl 16 (by decide) (hts (.fieldLink RX5 62 "ShapeReader$Shapes" "askedPlaces" "[I") mw_14_28) (fun _ h9 => h9) rfl dX5_addType_46 ?_
    refine lv_iload_n hx hb dX5_addType_49 rfl (lv_at hl 0 rfl) ?_
    refine lv_iconst (v := 0) hx hb dX5_addType_50 (by decide) ?_
    refine va_iast hx hb hK hP hD hS 35 31 gA_35 yA_35 (vp_in_iff.mpr hg1) dX5_addType_51 (fun H locs hP hD hS => ?_)
    replace hP := uA_35 hP
    replace hD := hD0 ((stI (stL z2 34 (σ.1 20 1).toNatClampNeg 0) 35 (σ.1 20 1).toNatClampNeg 0))
    refine lv_aload_n hx hb dX5_addType_52 rfl (lv_at hl 1 rfl) ?_
    refine lv_dup hx hb dX5_addType_53 rfl ?_
    refine va_get (D := (dC, dI)) (ci := 5) (C := RX5) (T := TX5) (N := 17) hx hb hts inlX5 hown hK hP 20 gA_20 rfl 1 (by decide) (hts (.fieldLink RX5 15 "ShapeReader$Shapes" "typeCount" "I") mw_14_13) (fun _ h9 => h9) rfl dX5_addType_54 ?_
    refine lv_iconst (v := 1) hx hb dX5_addType_57 (by decide) ?_
    refine lv_iadd hx hb dX5_addType_58 ?_
    refine va_put (D := (dC, dI)) (ci := 5) (ty := .int) (C := RX5) (T := TX5) (N := 17) hx hb hts inlX5 tyX5 tyX5_ok nmX5 hown hK hP hD hS 20 gA_20 rfl 1 (by decide) (hts (.fieldLink RX5 15 "ShapeReader$Shapes" "typeCount" "I") mw_14_13) (fun _ h9 => h9) rfl (by decide +kernel) rfl rfl (Nat.le_of_ble_eq_true rfl) dX5_addType_59 (fun H locs hP hD hS => ?_)
    replace hP := uA_20_1 hP
    replace hD := hD0 ((stI (stI (stL z2 34 (σ.1 20 1).toNatClampNeg 0) 35 (σ.1 20 1).toNatClampNeg 0) 20 1 (((stI (stL z2 34 (σ.1 20 1).toNatClampNeg 0) 35 (σ.1 20 1).toNatClampNeg 0).1 20 1) + 1)))
    obtain ⟨z3, hs, h⟩ := ib h
    replace hs := Option.some.inj hs
    replace hP : va_P (dC, dI) vwCl (wA a k z3) H := by rw [← hs]; exact hP
    replace hD := hD0 z3
    clear hs
    refine lv_iload_n hx hb dX5_addType_62 rfl (lv_at hl 0 rfl) ?_
    obtain rfl := Option.some.inj h
    exact W.iret hx hb hr (fun t ht hW => ⟨⟨_, (), rfl, rfl, ⟨by rw [ht]; exact hP, va_K.moved hW.alike hK, hD⟩⟩, hS.F ht⟩) hS.2.2 dX5_addType_63
  · replace h := iq hc h
    refine lv_iconst (v := (-1)) hx hb dX5_addType_10 (by decide) ?_
    obtain rfl := Option.some.inj h
    exact W.iret hx hb hr (fun t ht hW => ⟨⟨_, (), rfl, rfl, ⟨by rw [ht]; exact hP, va_K.moved hW.alike hK, hD⟩⟩, hS.F ht⟩) hS.2.2 dX5_addType_11

theorem s_X5_addType_20 {l : Launch} {dC : Nat → ClassId} {dI : Nat → Nat → Nat} {a : Nat → Nat} {k : Nat → ClassId} {sz : Nat} {p0 : Int32} {σ : ST} {q : Int32 × ST} (h : f_X5_addType 20 p0 σ = some q) : Met l yX5_addType (.code yX5_addType cX5_addType 3 (some .int) :: pw) ({ frames := 1, cells := 0, slots := 0, locals := 0 } : Room) (va_Pc [.ref (a 20), .int p0] (vPre dC dI (wA a k σ) (tA k) sz)) (qAi dC dI a k (va_A (wA a k σ) sz) q) 0 0 (va_A (wA a k σ) sz) := metA (fun A => qAi dC dI a k A q) (plainFor_of_name (by decide)) (Nat.le_of_ble_eq_true rfl) (fun _ _ _ _ _ _ _ _ hC => b_X5_addType_e_20 hC h)

def f_X5_branchesOf_20 (b : Nat) : Nat → Int32 → Int32 → ST → Option (Int32 × ST)
  | 0, _, _, _ => none
  | n + 1, x2, x3, σ => if x3 = (-1) then (some (x2, σ)) else (if 4 ≤ x2 then (some (x2, σ)) else ((f_X5_branchAfter b x3 σ).bind fun q1 => f_X5_branchesOf_20 b n (x2 + 1) q1.1 q1.2))
def f_X5_branchesOf (b : Nat) (p0 : Int32) (σ : ST) : Option (Int32 × ST) := (f_X5_sortOf b p0 σ).bind fun q1 => if q1.1 = 8 then ((f_X5_innerOf b p0 q1.2).bind fun q3 => f_X5_branchesOf_20 b FU 0 q3.1 q3.2) else (some (0, q1.2))

set_option maxRecDepth 100000 in
set_option maxHeartbeats 4000000 in
theorem b_X5_branchesOf_20_4 {p : Program} {l : Launch} {e : Env} {s : State} {m : MethodId} {args : Array Value} {below : List Frame} {meth : Method} {c : Code} {dC : Nat → ClassId} {dI : Nat → Nat → Nat} {a : Nat → Nat} {k : Nat → ClassId} {A : Nat → Prop} {q : Int32 × ST} (hC : CxA p s m args meth c dC dI k A cX5_branchesOf RX5 (some .int) 4)   : ∀ (n : Nat) (x2 : Int32) (x3 : Int32) (σ : ST), f_X5_branchesOf_20 4 n x2 x3 σ = some q → GoA p l e ({ frames := 3, cells := 0, slots := 0, locals := 42 } : Room) s m args below meth c (MQ below (qAi dC dI a k A q) args s 0 0 A) dC dI a k A 4 20 σ [(0, .ref (a 4)), (2, .int x2), (3, .int x3)] [] := by
  intro n
  induction n with
  | zero =>
    intro x2 x3 σ h
    rw [f_X5_branchesOf_20] at h
    cases h
  | succ n ih =>
    intro x2 x3 σ h
    have hC0 := hC
    obtain ⟨hx, hb, hr, hml, hown, hts, hlocks, hA, hN, hK⟩ := hC0
    intro H locs ls hP hD hS hl
    have hD0 : ∀ σ1 : ST, va_D A (wA a k σ1) := fun σ1 => wA_D hD
    rw [f_X5_branchesOf_20] at h
    refine lv_iload_n hx hb dX5_branchesOf_20 rfl (lv_at hl 2 rfl) ?_
    refine lv_iconst (v := (-1)) hx hb dX5_branchesOf_21 (by decide) ?_
    refine lv_icmp_eq (tgt := 42) hx hb dX5_branchesOf_22 (by decide) (fun hc => ?_) (fun hc => ?_)
    · replace h := ip hc h
      refine lv_iload_n hx hb dX5_branchesOf_42 rfl (lv_at hl 1 rfl) ?_
      obtain rfl := Option.some.inj h
      exact W.iret hx hb hr (fun t ht hW => ⟨⟨_, (), rfl, rfl, ⟨by rw [ht]; exact hP, va_K.moved hW.alike hK, hD⟩⟩, hS.F ht⟩) hS.2.2 dX5_branchesOf_43
    · replace h := iq hc h
      refine lv_iload_n hx hb dX5_branchesOf_25 rfl (lv_at hl 1 rfl) ?_
      refine lv_iconst (v := 4) hx hb dX5_branchesOf_26 (by decide) ?_
      refine lv_icmp_ge (tgt := 42) hx hb dX5_branchesOf_27 (by decide) (fun hc => ?_) (fun hc => ?_)
      · replace h := ip hc h
        refine lv_iload_n hx hb dX5_branchesOf_42 rfl (lv_at hl 1 rfl) ?_
        obtain rfl := Option.some.inj h
        exact W.iret hx hb hr (fun t ht hW => ⟨⟨_, (), rfl, rfl, ⟨by rw [ht]; exact hP, va_K.moved hW.alike hK, hD⟩⟩, hS.F ht⟩) hS.2.2 dX5_branchesOf_43
      · replace h := iq hc h
        refine lv_iinc (v := (x2 + 1)) (lv' := [(2, .int (x2 + 1)), (0, .ref (a 4)), (3, .int x3)]) hx hb dX5_branchesOf_30 hl (k := 1) rfl rfl (by decide) rfl (fun ls hl => ?_)
        refine lv_aload_n hx hb dX5_branchesOf_33 rfl (lv_at hl 1 rfl) ?_
        refine lv_iload_n hx hb dX5_branchesOf_34 rfl (lv_at hl 2 rfl) ?_
        obtain ⟨q1, hc, h⟩ := ib h
        have hF := va_frees hD hS hA
        refine va_calli (va_runV (As := [.int x3]) (rest := []) ⟨hx, hb, hml, hown, hts⟩ (s_X5_branchAfter_4 hc) (cwV 1 hts (gV mw_15_8 mw_2_19 mw_2_20 mw_0_9 mw_49_8) rfl rfl rfl (by decide +kernel) ⟨(Nat.le_of_ble_eq_true rfl), (Nat.le_of_ble_eq_true rfl)⟩) (vV (ci := 5) (q0 := 4) hK hP hD hN rfl gA_4) rfl rfl hl.1 rfl (lv_room (Nat.le_of_ble_eq_true rfl)) dX5_branchesOf_35 ⟨(Nat.le_of_ble_eq_true rfl), (Nat.le_of_ble_eq_true rfl)⟩) hS (fun q _ h => hF q h) hF (fun r2 u t H locs ht hvm hw hB _ _ hS => ?_)
        obtain rfl : r2 = q1.1 := hw
        replace hP : va_P (dC, dI) vwCl (wA a k q1.2) H := by rw [← ht]; exact hB.1
        replace hD := hD0 (q1.2)
        clear hB hF
        refine lv_istore_n (lv' := [(3, .int q1.1), (2, .int (x2 + 1)), (0, .ref (a 4))]) hx hb dX5_branchesOf_38 rfl hl (by decide) rfl (fun ls hl => ?_)
        refine lv_goto (tgt := 20) hx hb dX5_branchesOf_39 (by decide) ?_
        exact ih _ _ _ h _ _ _ hP hD hS (lv_sub hl [2, 1, 0] rfl)

set_option maxRecDepth 100000 in
set_option maxHeartbeats 4000000 in
theorem b_X5_branchesOf_e_4 {p : Program} {l : Launch} {e : Env} {s : State} {m : MethodId} {args : Array Value} {below : List Frame} {meth : Method} {c : Code} {dC : Nat → ClassId} {dI : Nat → Nat → Nat} {a : Nat → Nat} {k : Nat → ClassId} {A : Nat → Prop} {q : Int32 × ST} (hC : CxA p s m args meth c dC dI k A cX5_branchesOf RX5 (some .int) 4)   {p0 : Int32} {σ : ST} (h : f_X5_branchesOf 4 p0 σ = some q) : GoA p l e ({ frames := 3, cells := 0, slots := 0, locals := 42 } : Room) s m args below meth c (MQ below (qAi dC dI a k A q) args s 0 0 A) dC dI a k A 4 0 σ (lv_args 0 [.ref (a 4), .int p0]) [] := by
  have hC0 := hC
  obtain ⟨hx, hb, hr, hml, hown, hts, hlocks, hA, hN, hK⟩ := hC0
  intro H locs ls hP hD hS hl
  have hD0 : ∀ σ1 : ST, va_D A (wA a k σ1) := fun σ1 => wA_D hD
  replace hl : lv_has ls 4 [(0, .ref (a 4)), (1, .int p0)] := hl
  unfold f_X5_branchesOf at h
  refine lv_aload_n hx hb dX5_branchesOf_0 rfl (lv_at hl 0 rfl) ?_
  refine lv_iload_n hx hb dX5_branchesOf_1 rfl (lv_at hl 1 rfl) ?_
  obtain ⟨q1, hc, h⟩ := ib h
  have hF := va_frees hD hS hA
  refine va_calli (va_runV (As := [.int p0]) (rest := []) ⟨hx, hb, hml, hown, hts⟩ (s_X5_sortOf_4 hc) (cwV 1 hts (gV mw_15_6 mw_2_13 mw_2_14 mw_0_9 mw_49_6) rfl rfl rfl (by decide +kernel) ⟨(Nat.le_of_ble_eq_true rfl), (Nat.le_of_ble_eq_true rfl)⟩) (vV (ci := 5) (q0 := 4) hK hP hD hN rfl gA_4) rfl rfl hl.1 rfl (lv_room (Nat.le_of_ble_eq_true rfl)) dX5_branchesOf_2 ⟨(Nat.le_of_ble_eq_true rfl), (Nat.le_of_ble_eq_true rfl)⟩) hS (fun q _ h => hF q h) hF (fun r2 u t H locs ht hvm hw hB _ _ hS => ?_)
  obtain rfl : r2 = q1.1 := hw
  replace hP : va_P (dC, dI) vwCl (wA a k q1.2) H := by rw [← ht]; exact hB.1
  replace hD := hD0 (q1.2)
  clear hB hF
  refine lv_bipush (v := 8) hx hb dX5_branchesOf_5 (by decide) ?_
  refine lv_icmp_eq (tgt := 12) hx hb dX5_branchesOf_7 (by decide) (fun hc => ?_) (fun hc => ?_)
  · replace h := ip hc h
    refine lv_iconst (v := 0) hx hb dX5_branchesOf_12 (by decide) ?_
    refine lv_istore_n (lv' := [(2, .int 0), (0, .ref (a 4)), (1, .int p0)]) hx hb dX5_branchesOf_13 rfl hl (by decide) rfl (fun ls hl => ?_)
    refine lv_aload_n hx hb dX5_branchesOf_14 rfl (lv_at hl 1 rfl) ?_
    refine lv_iload_n hx hb dX5_branchesOf_15 rfl (lv_at hl 2 rfl) ?_
    obtain ⟨q3, hc, h⟩ := ib h
    have hF := va_frees hD hS hA
    refine va_calli (va_runV (As := [.int p0]) (rest := []) ⟨hx, hb, hml, hown, hts⟩ (s_X5_innerOf_4 hc) (cwV 1 hts (gV mw_15_7 mw_2_16 mw_2_17 mw_0_9 mw_49_7) rfl rfl rfl (by decide +kernel) ⟨(Nat.le_of_ble_eq_true rfl), (Nat.le_of_ble_eq_true rfl)⟩) (vV (ci := 5) (q0 := 4) hK hP hD hN rfl gA_4) rfl rfl hl.1 rfl (lv_room (Nat.le_of_ble_eq_true rfl)) dX5_branchesOf_16 ⟨(Nat.le_of_ble_eq_true rfl), (Nat.le_of_ble_eq_true rfl)⟩) hS (fun q _ h => hF q h) hF (fun r4 u t H locs ht hvm hw hB _ _ hS => ?_)
    obtain rfl : r4 = q3.1 := hw
    replace hP : va_P (dC, dI) vwCl (wA a k q3.2) H := by rw [← ht]; exact hB.1
    replace hD := hD0 (q3.2)
    clear hB hF
    refine lv_istore_n (lv' := [(3, .int q3.1), (2, .int 0), (0, .ref (a 4)), (1, .int p0)]) hx hb dX5_branchesOf_19 rfl hl (by decide) rfl (fun ls hl => ?_)
    exact b_X5_branchesOf_20_4 hC FU _ _ _ h _ _ _ hP hD hS (lv_sub hl [2, 1, 0] rfl)
  · replace h := iq hc h
    refine lv_iconst (v := 0) hx hb dX5_branchesOf_10 (by decide) ?_
    obtain rfl := Option.some.inj h
    exact W.iret hx hb hr (fun t ht hW => ⟨⟨_, (), rfl, rfl, ⟨by rw [ht]; exact hP, va_K.moved hW.alike hK, hD⟩⟩, hS.F ht⟩) hS.2.2 dX5_branchesOf_11

theorem s_X5_branchesOf_4 {l : Launch} {dC : Nat → ClassId} {dI : Nat → Nat → Nat} {a : Nat → Nat} {k : Nat → ClassId} {sz : Nat} {p0 : Int32} {σ : ST} {q : Int32 × ST} (h : f_X5_branchesOf 4 p0 σ = some q) : Met l yX5_branchesOf (.code yX5_branchesOf cX5_branchesOf 4 (some .int) :: pw) ({ frames := 3, cells := 0, slots := 0, locals := 42 } : Room) (va_Pc [.ref (a 4), .int p0] (vPre dC dI (wA a k σ) (tA k) sz)) (qAi dC dI a k (va_A (wA a k σ) sz) q) 0 0 (va_A (wA a k σ) sz) := metA (fun A => qAi dC dI a k A q) (plainFor_of_name (by decide)) (Nat.le_of_ble_eq_true rfl) (fun _ _ _ _ _ _ _ _ hC => b_X5_branchesOf_e_4 hC h)

set_option maxRecDepth 100000 in
set_option maxHeartbeats 4000000 in
theorem b_X5_branchesOf_20_20 {p : Program} {l : Launch} {e : Env} {s : State} {m : MethodId} {args : Array Value} {below : List Frame} {meth : Method} {c : Code} {dC : Nat → ClassId} {dI : Nat → Nat → Nat} {a : Nat → Nat} {k : Nat → ClassId} {A : Nat → Prop} {q : Int32 × ST} (hC : CxA p s m args meth c dC dI k A cX5_branchesOf RX5 (some .int) 4)   : ∀ (n : Nat) (x2 : Int32) (x3 : Int32) (σ : ST), f_X5_branchesOf_20 20 n x2 x3 σ = some q → GoA p l e ({ frames := 3, cells := 0, slots := 0, locals := 42 } : Room) s m args below meth c (MQ below (qAi dC dI a k A q) args s 0 0 A) dC dI a k A 4 20 σ [(0, .ref (a 20)), (2, .int x2), (3, .int x3)] [] := by
  intro n
  induction n with
  | zero =>
    intro x2 x3 σ h
    rw [f_X5_branchesOf_20] at h
    cases h
  | succ n ih =>
    intro x2 x3 σ h
    have hC0 := hC
    obtain ⟨hx, hb, hr, hml, hown, hts, hlocks, hA, hN, hK⟩ := hC0
    intro H locs ls hP hD hS hl
    have hD0 : ∀ σ1 : ST, va_D A (wA a k σ1) := fun σ1 => wA_D hD
    rw [f_X5_branchesOf_20] at h
    refine lv_iload_n hx hb dX5_branchesOf_20 rfl (lv_at hl 2 rfl) ?_
    refine lv_iconst (v := (-1)) hx hb dX5_branchesOf_21 (by decide) ?_
    refine lv_icmp_eq (tgt := 42) hx hb dX5_branchesOf_22 (by decide) (fun hc => ?_) (fun hc => ?_)
    · replace h := ip hc h
      refine lv_iload_n hx hb dX5_branchesOf_42 rfl (lv_at hl 1 rfl) ?_
      obtain rfl := Option.some.inj h
      exact W.iret hx hb hr (fun t ht hW => ⟨⟨_, (), rfl, rfl, ⟨by rw [ht]; exact hP, va_K.moved hW.alike hK, hD⟩⟩, hS.F ht⟩) hS.2.2 dX5_branchesOf_43
    · replace h := iq hc h
      refine lv_iload_n hx hb dX5_branchesOf_25 rfl (lv_at hl 1 rfl) ?_
      refine lv_iconst (v := 4) hx hb dX5_branchesOf_26 (by decide) ?_
      refine lv_icmp_ge (tgt := 42) hx hb dX5_branchesOf_27 (by decide) (fun hc => ?_) (fun hc => ?_)
      · replace h := ip hc h
        refine lv_iload_n hx hb dX5_branchesOf_42 rfl (lv_at hl 1 rfl) ?_
        obtain rfl := Option.some.inj h
        exact W.iret hx hb hr (fun t ht hW => ⟨⟨_, (), rfl, rfl, ⟨by rw [ht]; exact hP, va_K.moved hW.alike hK, hD⟩⟩, hS.F ht⟩) hS.2.2 dX5_branchesOf_43
      · replace h := iq hc h
        refine lv_iinc (v := (x2 + 1)) (lv' := [(2, .int (x2 + 1)), (0, .ref (a 20)), (3, .int x3)]) hx hb dX5_branchesOf_30 hl (k := 1) rfl rfl (by decide) rfl (fun ls hl => ?_)
        refine lv_aload_n hx hb dX5_branchesOf_33 rfl (lv_at hl 1 rfl) ?_
        refine lv_iload_n hx hb dX5_branchesOf_34 rfl (lv_at hl 2 rfl) ?_
        obtain ⟨q1, hc, h⟩ := ib h
        have hF := va_frees hD hS hA
        refine va_calli (va_runV (As := [.int x3]) (rest := []) ⟨hx, hb, hml, hown, hts⟩ (s_X5_branchAfter_20 hc) (cwV 1 hts (gV mw_15_8 mw_2_19 mw_2_20 mw_0_9 mw_49_8) rfl rfl rfl (by decide +kernel) ⟨(Nat.le_of_ble_eq_true rfl), (Nat.le_of_ble_eq_true rfl)⟩) (vV (ci := 5) (q0 := 20) hK hP hD hN rfl gA_20) rfl rfl hl.1 rfl (lv_room (Nat.le_of_ble_eq_true rfl)) dX5_branchesOf_35 ⟨(Nat.le_of_ble_eq_true rfl), (Nat.le_of_ble_eq_true rfl)⟩) hS (fun q _ h => hF q h) hF (fun r2 u t H locs ht hvm hw hB _ _ hS => ?_)
        obtain rfl : r2 = q1.1 := hw
        replace hP : va_P (dC, dI) vwCl (wA a k q1.2) H := by rw [← ht]; exact hB.1
        replace hD := hD0 (q1.2)
        clear hB hF
        refine lv_istore_n (lv' := [(3, .int q1.1), (2, .int (x2 + 1)), (0, .ref (a 20))]) hx hb dX5_branchesOf_38 rfl hl (by decide) rfl (fun ls hl => ?_)
        refine lv_goto (tgt := 20) hx hb dX5_branchesOf_39 (by decide) ?_
        exact ih _ _ _ h _ _ _ hP hD hS (lv_sub hl [2, 1, 0] rfl)

set_option maxRecDepth 100000 in
set_option maxHeartbeats 4000000 in
theorem b_X5_branchesOf_e_20 {p : Program} {l : Launch} {e : Env} {s : State} {m : MethodId} {args : Array Value} {below : List Frame} {meth : Method} {c : Code} {dC : Nat → ClassId} {dI : Nat → Nat → Nat} {a : Nat → Nat} {k : Nat → ClassId} {A : Nat → Prop} {q : Int32 × ST} (hC : CxA p s m args meth c dC dI k A cX5_branchesOf RX5 (some .int) 4)   {p0 : Int32} {σ : ST} (h : f_X5_branchesOf 20 p0 σ = some q) : GoA p l e ({ frames := 3, cells := 0, slots := 0, locals := 42 } : Room) s m args below meth c (MQ below (qAi dC dI a k A q) args s 0 0 A) dC dI a k A 4 0 σ (lv_args 0 [.ref (a 20), .int p0]) [] := by
  have hC0 := hC
  obtain ⟨hx, hb, hr, hml, hown, hts, hlocks, hA, hN, hK⟩ := hC0
  intro H locs ls hP hD hS hl
  have hD0 : ∀ σ1 : ST, va_D A (wA a k σ1) := fun σ1 => wA_D hD
  replace hl : lv_has ls 4 [(0, .ref (a 20)), (1, .int p0)] := hl
  unfold f_X5_branchesOf at h
  refine lv_aload_n hx hb dX5_branchesOf_0 rfl (lv_at hl 0 rfl) ?_
  refine lv_iload_n hx hb dX5_branchesOf_1 rfl (lv_at hl 1 rfl) ?_
  obtain ⟨q1, hc, h⟩ := ib h
  have hF := va_frees hD hS hA
  refine va_calli (va_runV (As := [.int p0]) (rest := []) ⟨hx, hb, hml, hown, hts⟩ (s_X5_sortOf_20 hc) (cwV 1 hts (gV mw_15_6 mw_2_13 mw_2_14 mw_0_9 mw_49_6) rfl rfl rfl (by decide +kernel) ⟨(Nat.le_of_ble_eq_true rfl), (Nat.le_of_ble_eq_true rfl)⟩) (vV (ci := 5) (q0 := 20) hK hP hD hN rfl gA_20) rfl rfl hl.1 rfl (lv_room (Nat.le_of_ble_eq_true rfl)) dX5_branchesOf_2 ⟨(Nat.le_of_ble_eq_true rfl), (Nat.le_of_ble_eq_true rfl)⟩) hS (fun q _ h => hF q h) hF (fun r2 u t H locs ht hvm hw hB _ _ hS => ?_)
  obtain rfl : r2 = q1.1 := hw
  replace hP : va_P (dC, dI) vwCl (wA a k q1.2) H := by rw [← ht]; exact hB.1
  replace hD := hD0 (q1.2)
  clear hB hF
  refine lv_bipush (v := 8) hx hb dX5_branchesOf_5 (by decide) ?_
  refine lv_icmp_eq (tgt := 12) hx hb dX5_branchesOf_7 (by decide) (fun hc => ?_) (fun hc => ?_)
  · replace h := ip hc h
    refine lv_iconst (v := 0) hx hb dX5_branchesOf_12 (by decide) ?_
    refine lv_istore_n (lv' := [(2, .int 0), (0, .ref (a 20)), (1, .int p0)]) hx hb dX5_branchesOf_13 rfl hl (by decide) rfl (fun ls hl => ?_)
    refine lv_aload_n hx hb dX5_branchesOf_14 rfl (lv_at hl 1 rfl) ?_
    refine lv_iload_n hx hb dX5_branchesOf_15 rfl (lv_at hl 2 rfl) ?_
    obtain ⟨q3, hc, h⟩ := ib h
    have hF := va_frees hD hS hA
    refine va_calli (va_runV (As := [.int p0]) (rest := []) ⟨hx, hb, hml, hown, hts⟩ (s_X5_innerOf_20 hc) (cwV 1 hts (gV mw_15_7 mw_2_16 mw_2_17 mw_0_9 mw_49_7) rfl rfl rfl (by decide +kernel) ⟨(Nat.le_of_ble_eq_true rfl), (Nat.le_of_ble_eq_true rfl)⟩) (vV (ci := 5) (q0 := 20) hK hP hD hN rfl gA_20) rfl rfl hl.1 rfl (lv_room (Nat.le_of_ble_eq_true rfl)) dX5_branchesOf_16 ⟨(Nat.le_of_ble_eq_true rfl), (Nat.le_of_ble_eq_true rfl)⟩) hS (fun q _ h => hF q h) hF (fun r4 u t H locs ht hvm hw hB _ _ hS => ?_)
    obtain rfl : r4 = q3.1 := hw
    replace hP : va_P (dC, dI) vwCl (wA a k q3.2) H := by rw [← ht]; exact hB.1
    replace hD := hD0 (q3.2)
    clear hB hF
    refine lv_istore_n (lv' := [(3, .int q3.1), (2, .int 0), (0, .ref (a 20)), (1, .int p0)]) hx hb dX5_branchesOf_19 rfl hl (by decide) rfl (fun ls hl => ?_)
    exact b_X5_branchesOf_20_20 hC FU _ _ _ h _ _ _ hP hD hS (lv_sub hl [2, 1, 0] rfl)
  · replace h := iq hc h
    refine lv_iconst (v := 0) hx hb dX5_branchesOf_10 (by decide) ?_
    obtain rfl := Option.some.inj h
    exact W.iret hx hb hr (fun t ht hW => ⟨⟨_, (), rfl, rfl, ⟨by rw [ht]; exact hP, va_K.moved hW.alike hK, hD⟩⟩, hS.F ht⟩) hS.2.2 dX5_branchesOf_11

theorem s_X5_branchesOf_20 {l : Launch} {dC : Nat → ClassId} {dI : Nat → Nat → Nat} {a : Nat → Nat} {k : Nat → ClassId} {sz : Nat} {p0 : Int32} {σ : ST} {q : Int32 × ST} (h : f_X5_branchesOf 20 p0 σ = some q) : Met l yX5_branchesOf (.code yX5_branchesOf cX5_branchesOf 4 (some .int) :: pw) ({ frames := 3, cells := 0, slots := 0, locals := 42 } : Room) (va_Pc [.ref (a 20), .int p0] (vPre dC dI (wA a k σ) (tA k) sz)) (qAi dC dI a k (va_A (wA a k σ) sz) q) 0 0 (va_A (wA a k σ) sz) := metA (fun A => qAi dC dI a k A q) (plainFor_of_name (by decide)) (Nat.le_of_ble_eq_true rfl) (fun _ _ _ _ _ _ _ _ hC => b_X5_branchesOf_e_20 hC h)

def f_X5_setInner (b : Nat) (p0 : Int32) (p1 : Int32) (σ : ST) : Option (ST) := (f_X5_isType b p0 σ).bind fun q1 => if q1.1 = 0 then (some q1.2) else (if 0 ≤ p0.toInt ∧ p0.toInt < 262 then (some (stI q1.2 (b + 12) p0.toNatClampNeg p1)) else none)

set_option maxRecDepth 100000 in
set_option maxHeartbeats 4000000 in
theorem b_X5_setInner_e_4 {p : Program} {l : Launch} {e : Env} {s : State} {m : MethodId} {args : Array Value} {below : List Frame} {meth : Method} {c : Code} {dC : Nat → ClassId} {dI : Nat → Nat → Nat} {a : Nat → Nat} {k : Nat → ClassId} {A : Nat → Prop} {q : ST} (hC : CxA p s m args meth c dC dI k A cX5_setInner RX5 none 3)   {p0 : Int32} {p1 : Int32} {σ : ST} (h : f_X5_setInner 4 p0 p1 σ = some q) : GoA p l e ({ frames := 2, cells := 0, slots := 0, locals := 21 } : Room) s m args below meth c (MQ below (qAv dC dI a k A q) args s 0 0 A) dC dI a k A 3 0 σ (lv_args 0 [.ref (a 4), .int p0, .int p1]) [] := by
  have hC0 := hC
  obtain ⟨hx, hb, hr, hml, hown, hts, hlocks, hA, hN, hK⟩ := hC0
  intro H locs ls hP hD hS hl
  have hD0 : ∀ σ1 : ST, va_D A (wA a k σ1) := fun σ1 => wA_D hD
  replace hl : lv_has ls 3 [(0, .ref (a 4)), (1, .int p0), (2, .int p1)] := hl
  unfold f_X5_setInner at h
  refine lv_aload_n hx hb dX5_setInner_0 rfl (lv_at hl 0 rfl) ?_
  refine lv_iload_n hx hb dX5_setInner_1 rfl (lv_at hl 1 rfl) ?_
  obtain ⟨q1, hc, h⟩ := ib h
  have hF := va_frees hD hS hA
  refine va_calli (va_runV (As := [.int p0]) (rest := []) ⟨hx, hb, hml, hown, hts⟩ (s_X5_isType_4 hc) (cwV 1 hts (gV mw_15_3 mw_15_4 mw_15_5 mw_0_9 mw_48_26) rfl rfl rfl (by decide +kernel) ⟨(Nat.le_of_ble_eq_true rfl), (Nat.le_of_ble_eq_true rfl)⟩) (vV (ci := 5) (q0 := 4) hK hP hD hN rfl gA_4) rfl rfl hl.1 rfl (lv_room (Nat.le_of_ble_eq_true rfl)) dX5_setInner_2 ⟨(Nat.le_of_ble_eq_true rfl), (Nat.le_of_ble_eq_true rfl)⟩) hS (fun q _ h => hF q h) hF (fun r2 u t H locs ht hvm hw hB _ _ hS => ?_)
  obtain rfl : r2 = q1.1 := hw
  replace hP : va_P (dC, dI) vwCl (wA a k q1.2) H := by rw [← ht]; exact hB.1
  replace hD := hD0 (q1.2)
  clear hB hF
  refine lv_if_eq (tgt := 15) hx hb dX5_setInner_5 (by decide) (fun hc => ?_) (fun hc => ?_)
  · replace h := ip hc h
    obtain rfl := Option.some.inj h
    exact W.vret hx hb hr (fun t ht hW => ⟨⟨(), rfl, trivial, ⟨by rw [ht]; exact hP, va_K.moved hW.alike hK, hD⟩⟩, hS.F ht⟩) hS.2.2 dX5_setInner_15
  · replace h := iq hc h
    refine lv_aload_n hx hb dX5_setInner_8 rfl (lv_at hl 0 rfl) ?_
    refine va_get (D := (dC, dI)) (ci := 5) (C := RX5) (T := TX5) (N := 17) hx hb hts inlX5 hown hK hP 4 gA_4 rfl 13 (by decide) (hts (.fieldLink RX5 53 "ShapeReader$Shapes" "inners" "[I") mw_14_25) (fun _ h9 => h9) rfl dX5_setInner_9 ?_
    refine lv_iload_n hx hb dX5_setInner_12 rfl (lv_at hl 1 rfl) ?_
    refine lv_iload_n hx hb dX5_setInner_13 rfl (lv_at hl 2 rfl) ?_
    obtain ⟨hg3, h⟩ := ig h
    refine va_iast hx hb hK hP hD hS 16 13 gA_16 yA_16 (vp_in_iff.mpr hg3) dX5_setInner_14 (fun H locs hP hD hS => ?_)
    replace hP := uA_16 hP
    replace hD := hD0 ((stI q1.2 16 p0.toNatClampNeg p1))
    obtain rfl := Option.some.inj h
    exact W.vret hx hb hr (fun t ht hW => ⟨⟨(), rfl, trivial, ⟨by rw [ht]; exact hP, va_K.moved hW.alike hK, hD⟩⟩, hS.F ht⟩) hS.2.2 dX5_setInner_15

theorem s_X5_setInner_4 {l : Launch} {dC : Nat → ClassId} {dI : Nat → Nat → Nat} {a : Nat → Nat} {k : Nat → ClassId} {sz : Nat} {p0 : Int32} {p1 : Int32} {σ : ST} {q : ST} (h : f_X5_setInner 4 p0 p1 σ = some q) : Met l yX5_setInner (.code yX5_setInner cX5_setInner 3 none :: pw) ({ frames := 2, cells := 0, slots := 0, locals := 21 } : Room) (va_Pc [.ref (a 4), .int p0, .int p1] (vPre dC dI (wA a k σ) (tA k) sz)) (qAv dC dI a k (va_A (wA a k σ) sz) q) 0 0 (va_A (wA a k σ) sz) := metA (fun A => qAv dC dI a k A q) (plainFor_of_name (by decide)) (Nat.le_of_ble_eq_true rfl) (fun _ _ _ _ _ _ _ _ hC => b_X5_setInner_e_4 hC h)

set_option maxRecDepth 100000 in
set_option maxHeartbeats 4000000 in
theorem b_X5_setInner_e_20 {p : Program} {l : Launch} {e : Env} {s : State} {m : MethodId} {args : Array Value} {below : List Frame} {meth : Method} {c : Code} {dC : Nat → ClassId} {dI : Nat → Nat → Nat} {a : Nat → Nat} {k : Nat → ClassId} {A : Nat → Prop} {q : ST} (hC : CxA p s m args meth c dC dI k A cX5_setInner RX5 none 3)   {p0 : Int32} {p1 : Int32} {σ : ST} (h : f_X5_setInner 20 p0 p1 σ = some q) : GoA p l e ({ frames := 2, cells := 0, slots := 0, locals := 21 } : Room) s m args below meth c (MQ below (qAv dC dI a k A q) args s 0 0 A) dC dI a k A 3 0 σ (lv_args 0 [.ref (a 20), .int p0, .int p1]) [] := by
  have hC0 := hC
  obtain ⟨hx, hb, hr, hml, hown, hts, hlocks, hA, hN, hK⟩ := hC0
  intro H locs ls hP hD hS hl
  have hD0 : ∀ σ1 : ST, va_D A (wA a k σ1) := fun σ1 => wA_D hD
  replace hl : lv_has ls 3 [(0, .ref (a 20)), (1, .int p0), (2, .int p1)] := hl
  unfold f_X5_setInner at h
  refine lv_aload_n hx hb dX5_setInner_0 rfl (lv_at hl 0 rfl) ?_
  refine lv_iload_n hx hb dX5_setInner_1 rfl (lv_at hl 1 rfl) ?_
  obtain ⟨q1, hc, h⟩ := ib h
  have hF := va_frees hD hS hA
  refine va_calli (va_runV (As := [.int p0]) (rest := []) ⟨hx, hb, hml, hown, hts⟩ (s_X5_isType_20 hc) (cwV 1 hts (gV mw_15_3 mw_15_4 mw_15_5 mw_0_9 mw_48_26) rfl rfl rfl (by decide +kernel) ⟨(Nat.le_of_ble_eq_true rfl), (Nat.le_of_ble_eq_true rfl)⟩) (vV (ci := 5) (q0 := 20) hK hP hD hN rfl gA_20) rfl rfl hl.1 rfl (lv_room (Nat.le_of_ble_eq_true rfl)) dX5_setInner_2 ⟨(Nat.le_of_ble_eq_true rfl), (Nat.le_of_ble_eq_true rfl)⟩) hS (fun q _ h => hF q h) hF (fun r2 u t H locs ht hvm hw hB _ _ hS => ?_)
  obtain rfl : r2 = q1.1 := hw
  replace hP : va_P (dC, dI) vwCl (wA a k q1.2) H := by rw [← ht]; exact hB.1
  replace hD := hD0 (q1.2)
  clear hB hF
  refine lv_if_eq (tgt := 15) hx hb dX5_setInner_5 (by decide) (fun hc => ?_) (fun hc => ?_)
  · replace h := ip hc h
    obtain rfl := Option.some.inj h
    exact W.vret hx hb hr (fun t ht hW => ⟨⟨(), rfl, trivial, ⟨by rw [ht]; exact hP, va_K.moved hW.alike hK, hD⟩⟩, hS.F ht⟩) hS.2.2 dX5_setInner_15
  · replace h := iq hc h
    refine lv_aload_n hx hb dX5_setInner_8 rfl (lv_at hl 0 rfl) ?_
    refine va_get (D := (dC, dI)) (ci := 5) (C := RX5) (T := TX5) (N := 17) hx hb hts inlX5 hown hK hP 20 gA_20 rfl 13 (by decide) (hts (.fieldLink RX5 53 "ShapeReader$Shapes" "inners" "[I") mw_14_25) (fun _ h9 => h9) rfl dX5_setInner_9 ?_
    refine lv_iload_n hx hb dX5_setInner_12 rfl (lv_at hl 1 rfl) ?_
    refine lv_iload_n hx hb dX5_setInner_13 rfl (lv_at hl 2 rfl) ?_
    obtain ⟨hg3, h⟩ := ig h
    refine va_iast hx hb hK hP hD hS 32 28 gA_32 yA_32 (vp_in_iff.mpr hg3) dX5_setInner_14 (fun H locs hP hD hS => ?_)
    replace hP := uA_32 hP
    replace hD := hD0 ((stI q1.2 32 p0.toNatClampNeg p1))
    obtain rfl := Option.some.inj h
    exact W.vret hx hb hr (fun t ht hW => ⟨⟨(), rfl, trivial, ⟨by rw [ht]; exact hP, va_K.moved hW.alike hK, hD⟩⟩, hS.F ht⟩) hS.2.2 dX5_setInner_15

theorem s_X5_setInner_20 {l : Launch} {dC : Nat → ClassId} {dI : Nat → Nat → Nat} {a : Nat → Nat} {k : Nat → ClassId} {sz : Nat} {p0 : Int32} {p1 : Int32} {σ : ST} {q : ST} (h : f_X5_setInner 20 p0 p1 σ = some q) : Met l yX5_setInner (.code yX5_setInner cX5_setInner 3 none :: pw) ({ frames := 2, cells := 0, slots := 0, locals := 21 } : Room) (va_Pc [.ref (a 20), .int p0, .int p1] (vPre dC dI (wA a k σ) (tA k) sz)) (qAv dC dI a k (va_A (wA a k σ) sz) q) 0 0 (va_A (wA a k σ) sz) := metA (fun A => qAv dC dI a k A q) (plainFor_of_name (by decide)) (Nat.le_of_ble_eq_true rfl) (fun _ _ _ _ _ _ _ _ hC => b_X5_setInner_e_20 hC h)

def f_X7_isRow (b : Nat) (p0 : Int32) (σ : ST) : Option (Int32 × ST) := if p0 < 0 then (some (0, σ)) else (if (σ.1 b 1) ≤ p0 then (some (0, σ)) else (if (σ.1 b 0) ≤ p0 then (some (0, σ)) else (some (1, σ))))

set_option maxRecDepth 100000 in
set_option maxHeartbeats 4000000 in
theorem b_X7_isRow_e_50 {p : Program} {l : Launch} {e : Env} {s : State} {m : MethodId} {args : Array Value} {below : List Frame} {meth : Method} {c : Code} {dC : Nat → ClassId} {dI : Nat → Nat → Nat} {a : Nat → Nat} {k : Nat → ClassId} {A : Nat → Prop} {q : Int32 × ST} (hC : CxA p s m args meth c dC dI k A cX7_isRow RX7 (some .boolean) 2)   {p0 : Int32} {σ : ST} (h : f_X7_isRow 50 p0 σ = some q) : GoA p l e ({ frames := 1, cells := 0, slots := 0, locals := 0 } : Room) s m args below meth c (MQ below (qAi dC dI a k A q) args s 0 0 A) dC dI a k A 2 0 σ (lv_args 0 [.ref (a 50), .int p0]) [] := by
  have hC0 := hC
  obtain ⟨hx, hb, hr, hml, hown, hts, hlocks, hA, hN, hK⟩ := hC0
  intro H locs ls hP hD hS hl
  have hD0 : ∀ σ1 : ST, va_D A (wA a k σ1) := fun σ1 => wA_D hD
  replace hl : lv_has ls 2 [(0, .ref (a 50)), (1, .int p0)] := hl
  unfold f_X7_isRow at h
  refine lv_iload_n hx hb dX7_isRow_0 rfl (lv_at hl 1 rfl) ?_
  refine lv_if_lt (tgt := 24) hx hb dX7_isRow_1 (by decide) (fun hc => ?_) (fun hc => ?_)
  · replace h := ip hc h
    refine lv_iconst (v := 0) hx hb dX7_isRow_24 (by decide) ?_
    obtain rfl := Option.some.inj h
    exact W.zret hx hb hr rfl (fun t ht hW => ⟨⟨_, (), rfl, rfl, ⟨by rw [ht]; exact hP, va_K.moved hW.alike hK, hD⟩⟩, hS.F ht⟩) hS.2.2 dX7_isRow_25
  · replace h := iq hc h
    refine lv_iload_n hx hb dX7_isRow_4 rfl (lv_at hl 1 rfl) ?_
    refine lv_aload_n hx hb dX7_isRow_5 rfl (lv_at hl 0 rfl) ?_
    refine va_get (D := (dC, dI)) (ci := 7) (C := RX7) (T := TX7) (N := 13) hx hb hts inlX7 hown hK hP 50 gA_50 rfl 1 (by decide) (hts (.fieldLink RX7 9 "ShapeReader$Tree" "size" "I") mw_17_22) (fun _ h9 => h9) rfl dX7_isRow_6 ?_
    refine lv_icmp_ge (tgt := 24) hx hb dX7_isRow_9 (by decide) (fun hc => ?_) (fun hc => ?_)
    · replace h := ip hc h
      refine lv_iconst (v := 0) hx hb dX7_isRow_24 (by decide) ?_
      obtain rfl := Option.some.inj h
      exact W.zret hx hb hr rfl (fun t ht hW => ⟨⟨_, (), rfl, rfl, ⟨by rw [ht]; exact hP, va_K.moved hW.alike hK, hD⟩⟩, hS.F ht⟩) hS.2.2 dX7_isRow_25
    · replace h := iq hc h
      refine lv_iload_n hx hb dX7_isRow_12 rfl (lv_at hl 1 rfl) ?_
      refine lv_aload_n hx hb dX7_isRow_13 rfl (lv_at hl 0 rfl) ?_
      refine va_get (D := (dC, dI)) (ci := 7) (C := RX7) (T := TX7) (N := 13) hx hb hts inlX7 hown hK hP 50 gA_50 rfl 0 (by decide) (hts (.fieldLink RX7 15 "ShapeReader$Tree" "rows" "I") mw_17_23) (fun _ h9 => h9) rfl dX7_isRow_14 ?_
      refine lv_icmp_ge (tgt := 24) hx hb dX7_isRow_17 (by decide) (fun hc => ?_) (fun hc => ?_)
      · replace h := ip hc h
        refine lv_iconst (v := 0) hx hb dX7_isRow_24 (by decide) ?_
        obtain rfl := Option.some.inj h
        exact W.zret hx hb hr rfl (fun t ht hW => ⟨⟨_, (), rfl, rfl, ⟨by rw [ht]; exact hP, va_K.moved hW.alike hK, hD⟩⟩, hS.F ht⟩) hS.2.2 dX7_isRow_25
      · replace h := iq hc h
        refine lv_iconst (v := 1) hx hb dX7_isRow_20 (by decide) ?_
        refine lv_goto (tgt := 25) hx hb dX7_isRow_21 (by decide) ?_
        obtain rfl := Option.some.inj h
        exact W.zret hx hb hr rfl (fun t ht hW => ⟨⟨_, (), rfl, rfl, ⟨by rw [ht]; exact hP, va_K.moved hW.alike hK, hD⟩⟩, hS.F ht⟩) hS.2.2 dX7_isRow_25

theorem s_X7_isRow_50 {l : Launch} {dC : Nat → ClassId} {dI : Nat → Nat → Nat} {a : Nat → Nat} {k : Nat → ClassId} {sz : Nat} {p0 : Int32} {σ : ST} {q : Int32 × ST} (h : f_X7_isRow 50 p0 σ = some q) : Met l yX7_isRow (.code yX7_isRow cX7_isRow 2 (some .boolean) :: pw) ({ frames := 1, cells := 0, slots := 0, locals := 0 } : Room) (va_Pc [.ref (a 50), .int p0] (vPre dC dI (wA a k σ) (tA k) sz)) (qAi dC dI a k (va_A (wA a k σ) sz) q) 0 0 (va_A (wA a k σ) sz) := metA (fun A => qAi dC dI a k A q) (plainFor_of_name (by decide)) (Nat.le_of_ble_eq_true rfl) (fun _ _ _ _ _ _ _ _ hC => b_X7_isRow_e_50 hC h)

set_option maxRecDepth 100000 in
set_option maxHeartbeats 4000000 in
theorem b_X7_isRow_e_62 {p : Program} {l : Launch} {e : Env} {s : State} {m : MethodId} {args : Array Value} {below : List Frame} {meth : Method} {c : Code} {dC : Nat → ClassId} {dI : Nat → Nat → Nat} {a : Nat → Nat} {k : Nat → ClassId} {A : Nat → Prop} {q : Int32 × ST} (hC : CxA p s m args meth c dC dI k A cX7_isRow RX7 (some .boolean) 2)   {p0 : Int32} {σ : ST} (h : f_X7_isRow 62 p0 σ = some q) : GoA p l e ({ frames := 1, cells := 0, slots := 0, locals := 0 } : Room) s m args below meth c (MQ below (qAi dC dI a k A q) args s 0 0 A) dC dI a k A 2 0 σ (lv_args 0 [.ref (a 62), .int p0]) [] := by
  have hC0 := hC
  obtain ⟨hx, hb, hr, hml, hown, hts, hlocks, hA, hN, hK⟩ := hC0
  intro H locs ls hP hD hS hl
  have hD0 : ∀ σ1 : ST, va_D A (wA a k σ1) := fun σ1 => wA_D hD
  replace hl : lv_has ls 2 [(0, .ref (a 62)), (1, .int p0)] := hl
  unfold f_X7_isRow at h
  refine lv_iload_n hx hb dX7_isRow_0 rfl (lv_at hl 1 rfl) ?_
  refine lv_if_lt (tgt := 24) hx hb dX7_isRow_1 (by decide) (fun hc => ?_) (fun hc => ?_)
  · replace h := ip hc h
    refine lv_iconst (v := 0) hx hb dX7_isRow_24 (by decide) ?_
    obtain rfl := Option.some.inj h
    exact W.zret hx hb hr rfl (fun t ht hW => ⟨⟨_, (), rfl, rfl, ⟨by rw [ht]; exact hP, va_K.moved hW.alike hK, hD⟩⟩, hS.F ht⟩) hS.2.2 dX7_isRow_25
  · replace h := iq hc h
    refine lv_iload_n hx hb dX7_isRow_4 rfl (lv_at hl 1 rfl) ?_
    refine lv_aload_n hx hb dX7_isRow_5 rfl (lv_at hl 0 rfl) ?_
    refine va_get (D := (dC, dI)) (ci := 7) (C := RX7) (T := TX7) (N := 13) hx hb hts inlX7 hown hK hP 62 gA_62 rfl 1 (by decide) (hts (.fieldLink RX7 9 "ShapeReader$Tree" "size" "I") mw_17_22) (fun _ h9 => h9) rfl dX7_isRow_6 ?_
    refine lv_icmp_ge (tgt := 24) hx hb dX7_isRow_9 (by decide) (fun hc => ?_) (fun hc => ?_)
    · replace h := ip hc h
      refine lv_iconst (v := 0) hx hb dX7_isRow_24 (by decide) ?_
      obtain rfl := Option.some.inj h
      exact W.zret hx hb hr rfl (fun t ht hW => ⟨⟨_, (), rfl, rfl, ⟨by rw [ht]; exact hP, va_K.moved hW.alike hK, hD⟩⟩, hS.F ht⟩) hS.2.2 dX7_isRow_25
    · replace h := iq hc h
      refine lv_iload_n hx hb dX7_isRow_12 rfl (lv_at hl 1 rfl) ?_
      refine lv_aload_n hx hb dX7_isRow_13 rfl (lv_at hl 0 rfl) ?_
      refine va_get (D := (dC, dI)) (ci := 7) (C := RX7) (T := TX7) (N := 13) hx hb hts inlX7 hown hK hP 62 gA_62 rfl 0 (by decide) (hts (.fieldLink RX7 15 "ShapeReader$Tree" "rows" "I") mw_17_23) (fun _ h9 => h9) rfl dX7_isRow_14 ?_
      refine lv_icmp_ge (tgt := 24) hx hb dX7_isRow_17 (by decide) (fun hc => ?_) (fun hc => ?_)
      · replace h := ip hc h
        refine lv_iconst (v := 0) hx hb dX7_isRow_24 (by decide) ?_
        obtain rfl := Option.some.inj h
        exact W.zret hx hb hr rfl (fun t ht hW => ⟨⟨_, (), rfl, rfl, ⟨by rw [ht]; exact hP, va_K.moved hW.alike hK, hD⟩⟩, hS.F ht⟩) hS.2.2 dX7_isRow_25
      · replace h := iq hc h
        refine lv_iconst (v := 1) hx hb dX7_isRow_20 (by decide) ?_
        refine lv_goto (tgt := 25) hx hb dX7_isRow_21 (by decide) ?_
        obtain rfl := Option.some.inj h
        exact W.zret hx hb hr rfl (fun t ht hW => ⟨⟨_, (), rfl, rfl, ⟨by rw [ht]; exact hP, va_K.moved hW.alike hK, hD⟩⟩, hS.F ht⟩) hS.2.2 dX7_isRow_25

theorem s_X7_isRow_62 {l : Launch} {dC : Nat → ClassId} {dI : Nat → Nat → Nat} {a : Nat → Nat} {k : Nat → ClassId} {sz : Nat} {p0 : Int32} {σ : ST} {q : Int32 × ST} (h : f_X7_isRow 62 p0 σ = some q) : Met l yX7_isRow (.code yX7_isRow cX7_isRow 2 (some .boolean) :: pw) ({ frames := 1, cells := 0, slots := 0, locals := 0 } : Room) (va_Pc [.ref (a 62), .int p0] (vPre dC dI (wA a k σ) (tA k) sz)) (qAi dC dI a k (va_A (wA a k σ) sz) q) 0 0 (va_A (wA a k σ) sz) := metA (fun A => qAi dC dI a k A q) (plainFor_of_name (by decide)) (Nat.le_of_ble_eq_true rfl) (fun _ _ _ _ _ _ _ _ hC => b_X7_isRow_e_62 hC h)

set_option maxRecDepth 100000 in
set_option maxHeartbeats 4000000 in
theorem b_X7_isRow_e_74 {p : Program} {l : Launch} {e : Env} {s : State} {m : MethodId} {args : Array Value} {below : List Frame} {meth : Method} {c : Code} {dC : Nat → ClassId} {dI : Nat → Nat → Nat} {a : Nat → Nat} {k : Nat → ClassId} {A : Nat → Prop} {q : Int32 × ST} (hC : CxA p s m args meth c dC dI k A cX7_isRow RX7 (some .boolean) 2)   {p0 : Int32} {σ : ST} (h : f_X7_isRow 74 p0 σ = some q) : GoA p l e ({ frames := 1, cells := 0, slots := 0, locals := 0 } : Room) s m args below meth c (MQ below (qAi dC dI a k A q) args s 0 0 A) dC dI a k A 2 0 σ (lv_args 0 [.ref (a 74), .int p0]) [] := by
  have hC0 := hC
  obtain ⟨hx, hb, hr, hml, hown, hts, hlocks, hA, hN, hK⟩ := hC0
  intro H locs ls hP hD hS hl
  have hD0 : ∀ σ1 : ST, va_D A (wA a k σ1) := fun σ1 => wA_D hD
  replace hl : lv_has ls 2 [(0, .ref (a 74)), (1, .int p0)] := hl
  unfold f_X7_isRow at h
  refine lv_iload_n hx hb dX7_isRow_0 rfl (lv_at hl 1 rfl) ?_
  refine lv_if_lt (tgt := 24) hx hb dX7_isRow_1 (by decide) (fun hc => ?_) (fun hc => ?_)
  · replace h := ip hc h
    refine lv_iconst (v := 0) hx hb dX7_isRow_24 (by decide) ?_
    obtain rfl := Option.some.inj h
    exact W.zret hx hb hr rfl (fun t ht hW => ⟨⟨_, (), rfl, rfl, ⟨by rw [ht]; exact hP, va_K.moved hW.alike hK, hD⟩⟩, hS.F ht⟩) hS.2.2 dX7_isRow_25
  · replace h := iq hc h
    refine lv_iload_n hx hb dX7_isRow_4 rfl (lv_at hl 1 rfl) ?_
    refine lv_aload_n hx hb dX7_isRow_5 rfl (lv_at hl 0 rfl) ?_
    refine va_get (D := (dC, dI)) (ci := 7) (C := RX7) (T := TX7) (N := 13) hx hb hts inlX7 hown hK hP 74 gA_74 rfl 1 (by decide) (hts (.fieldLink RX7 9 "ShapeReader$Tree" "size" "I") mw_17_22) (fun _ h9 => h9) rfl dX7_isRow_6 ?_
    refine lv_icmp_ge (tgt := 24) hx hb dX7_isRow_9 (by decide) (fun hc => ?_) (fun hc => ?_)
    · replace h := ip hc h
      refine lv_iconst (v := 0) hx hb dX7_isRow_24 (by decide) ?_
      obtain rfl := Option.some.inj h
      exact W.zret hx hb hr rfl (fun t ht hW => ⟨⟨_, (), rfl, rfl, ⟨by rw [ht]; exact hP, va_K.moved hW.alike hK, hD⟩⟩, hS.F ht⟩) hS.2.2 dX7_isRow_25
    · replace h := iq hc h
      refine lv_iload_n hx hb dX7_isRow_12 rfl (lv_at hl 1 rfl) ?_
      refine lv_aload_n hx hb dX7_isRow_13 rfl (lv_at hl 0 rfl) ?_
      refine va_get (D := (dC, dI)) (ci := 7) (C := RX7) (T := TX7) (N := 13) hx hb hts inlX7 hown hK hP 74 gA_74 rfl 0 (by decide) (hts (.fieldLink RX7 15 "ShapeReader$Tree" "rows" "I") mw_17_23) (fun _ h9 => h9) rfl dX7_isRow_14 ?_
      refine lv_icmp_ge (tgt := 24) hx hb dX7_isRow_17 (by decide) (fun hc => ?_) (fun hc => ?_)
      · replace h := ip hc h
        refine lv_iconst (v := 0) hx hb dX7_isRow_24 (by decide) ?_
        obtain rfl := Option.some.inj h
        exact W.zret hx hb hr rfl (fun t ht hW => ⟨⟨_, (), rfl, rfl, ⟨by rw [ht]; exact hP, va_K.moved hW.alike hK, hD⟩⟩, hS.F ht⟩) hS.2.2 dX7_isRow_25
      · replace h := iq hc h
        refine lv_iconst (v := 1) hx hb dX7_isRow_20 (by decide) ?_
        refine lv_goto (tgt := 25) hx hb dX7_isRow_21 (by decide) ?_
        obtain rfl := Option.some.inj h
        exact W.zret hx hb hr rfl (fun t ht hW => ⟨⟨_, (), rfl, rfl, ⟨by rw [ht]; exact hP, va_K.moved hW.alike hK, hD⟩⟩, hS.F ht⟩) hS.2.2 dX7_isRow_25

theorem s_X7_isRow_74 {l : Launch} {dC : Nat → ClassId} {dI : Nat → Nat → Nat} {a : Nat → Nat} {k : Nat → ClassId} {sz : Nat} {p0 : Int32} {σ : ST} {q : Int32 × ST} (h : f_X7_isRow 74 p0 σ = some q) : Met l yX7_isRow (.code yX7_isRow cX7_isRow 2 (some .boolean) :: pw) ({ frames := 1, cells := 0, slots := 0, locals := 0 } : Room) (va_Pc [.ref (a 74), .int p0] (vPre dC dI (wA a k σ) (tA k) sz)) (qAi dC dI a k (va_A (wA a k σ) sz) q) 0 0 (va_A (wA a k σ) sz) := metA (fun A => qAi dC dI a k A q) (plainFor_of_name (by decide)) (Nat.le_of_ble_eq_true rfl) (fun _ _ _ _ _ _ _ _ hC => b_X7_isRow_e_74 hC h)

def f_X7_sortAt (b : Nat) (p0 : Int32) (σ : ST) : Option (Int32 × ST) := (f_X7_isRow b p0 σ).bind fun q1 => if q1.1 = 0 then (some ((-1), q1.2)) else (if 0 ≤ p0.toInt ∧ p0.toInt < (ln7 b : Nat) then (some ((q1.2.1 (b + 1) p0.toNatClampNeg), q1.2)) else none)

set_option maxRecDepth 100000 in
set_option maxHeartbeats 4000000 in
theorem b_X7_sortAt_e_50 {p : Program} {l : Launch} {e : Env} {s : State} {m : MethodId} {args : Array Value} {below : List Frame} {meth : Method} {c : Code} {dC : Nat → ClassId} {dI : Nat → Nat → Nat} {a : Nat → Nat} {k : Nat → ClassId} {A : Nat → Prop} {q : Int32 × ST} (hC : CxA p s m args meth c dC dI k A cX7_sortAt RX7 (some .int) 2)   {p0 : Int32} {σ : ST} (h : f_X7_sortAt 50 p0 σ = some q) : GoA p l e ({ frames := 2, cells := 0, slots := 0, locals := 21 } : Room) s m args below meth c (MQ below (qAi dC dI a k A q) args s 0 0 A) dC dI a k A 2 0 σ (lv_args 0 [.ref (a 50), .int p0]) [] := by
  have hC0 := hC
  obtain ⟨hx, hb, hr, hml, hown, hts, hlocks, hA, hN, hK⟩ := hC0
  intro H locs ls hP hD hS hl
  have hD0 : ∀ σ1 : ST, va_D A (wA a k σ1) := fun σ1 => wA_D hD
  replace hl : lv_has ls 2 [(0, .ref (a 50)), (1, .int p0)] := hl
  unfold f_X7_sortAt at h
  refine lv_aload_n hx hb dX7_sortAt_0 rfl (lv_at hl 0 rfl) ?_
  refine lv_iload_n hx hb dX7_sortAt_1 rfl (lv_at hl 1 rfl) ?_
  obtain ⟨q1, hc, h⟩ := ib h
  have hF := va_frees hD hS hA
  refine va_calli (va_runV (As := [.int p0]) (rest := []) ⟨hx, hb, hml, hown, hts⟩ (s_X7_isRow_50 hc) (cwV 1 hts (gV mw_18_5 mw_18_6 mw_18_7 mw_0_11 mw_50_23) rfl rfl rfl (by decide +kernel) ⟨(Nat.le_of_ble_eq_true rfl), (Nat.le_of_ble_eq_true rfl)⟩) (vV (ci := 7) (q0 := 50) hK hP hD hN rfl gA_50) rfl rfl hl.1 rfl (lv_room (Nat.le_of_ble_eq_true rfl)) dX7_sortAt_2 ⟨(Nat.le_of_ble_eq_true rfl), (Nat.le_of_ble_eq_true rfl)⟩) hS (fun q _ h => hF q h) hF (fun r2 u t H locs ht hvm hw hB _ _ hS => ?_)
  obtain rfl : r2 = q1.1 := hw
  replace hP : va_P (dC, dI) vwCl (wA a k q1.2) H := by rw [← ht]; exact hB.1
  replace hD := hD0 (q1.2)
  clear hB hF
  refine lv_if_eq (tgt := 17) hx hb dX7_sortAt_5 (by decide) (fun hc => ?_) (fun hc => ?_)
  · replace h := ip hc h
    refine lv_iconst (v := (-1)) hx hb dX7_sortAt_17 (by decide) ?_
    obtain rfl := Option.some.inj h
    exact W.iret hx hb hr (fun t ht hW => ⟨⟨_, (), rfl, rfl, ⟨by rw [ht]; exact hP, va_K.moved hW.alike hK, hD⟩⟩, hS.F ht⟩) hS.2.2 dX7_sortAt_18
  · replace h := iq hc h
    refine lv_aload_n hx hb dX7_sortAt_8 rfl (lv_at hl 0 rfl) ?_
    refine va_get (D := (dC, dI)) (ci := 7) (C := RX7) (T := TX7) (N := 13) hx hb hts inlX7 hown hK hP 50 gA_50 rfl 2 (by decide) (hts (.fieldLink RX7 18 "ShapeReader$Tree" "sorts" "[I") mw_17_24) (fun _ h9 => h9) rfl dX7_sortAt_9 ?_
    refine lv_iload_n hx hb dX7_sortAt_12 rfl (lv_at hl 1 rfl) ?_
    obtain ⟨hg3, h⟩ := ig h
    refine va_iald hx hb hK hP 51 42 gA_51 yA_51 (vp_in_iff.mpr hg3) dX7_sortAt_13 ?_
    refine lv_goto (tgt := 18) hx hb dX7_sortAt_14 (by decide) ?_
    obtain rfl := Option.some.inj h
    exact W.iret hx hb hr (fun t ht hW => ⟨⟨_, (), rfl, rfl, ⟨by rw [ht]; exact hP, va_K.moved hW.alike hK, hD⟩⟩, hS.F ht⟩) hS.2.2 dX7_sortAt_18

theorem s_X7_sortAt_50 {l : Launch} {dC : Nat → ClassId} {dI : Nat → Nat → Nat} {a : Nat → Nat} {k : Nat → ClassId} {sz : Nat} {p0 : Int32} {σ : ST} {q : Int32 × ST} (h : f_X7_sortAt 50 p0 σ = some q) : Met l yX7_sortAt (.code yX7_sortAt cX7_sortAt 2 (some .int) :: pw) ({ frames := 2, cells := 0, slots := 0, locals := 21 } : Room) (va_Pc [.ref (a 50), .int p0] (vPre dC dI (wA a k σ) (tA k) sz)) (qAi dC dI a k (va_A (wA a k σ) sz) q) 0 0 (va_A (wA a k σ) sz) := metA (fun A => qAi dC dI a k A q) (plainFor_of_name (by decide)) (Nat.le_of_ble_eq_true rfl) (fun _ _ _ _ _ _ _ _ hC => b_X7_sortAt_e_50 hC h)

set_option maxRecDepth 100000 in
set_option maxHeartbeats 4000000 in
theorem b_X7_sortAt_e_62 {p : Program} {l : Launch} {e : Env} {s : State} {m : MethodId} {args : Array Value} {below : List Frame} {meth : Method} {c : Code} {dC : Nat → ClassId} {dI : Nat → Nat → Nat} {a : Nat → Nat} {k : Nat → ClassId} {A : Nat → Prop} {q : Int32 × ST} (hC : CxA p s m args meth c dC dI k A cX7_sortAt RX7 (some .int) 2)   {p0 : Int32} {σ : ST} (h : f_X7_sortAt 62 p0 σ = some q) : GoA p l e ({ frames := 2, cells := 0, slots := 0, locals := 21 } : Room) s m args below meth c (MQ below (qAi dC dI a k A q) args s 0 0 A) dC dI a k A 2 0 σ (lv_args 0 [.ref (a 62), .int p0]) [] := by
  have hC0 := hC
  obtain ⟨hx, hb, hr, hml, hown, hts, hlocks, hA, hN, hK⟩ := hC0
  intro H locs ls hP hD hS hl
  have hD0 : ∀ σ1 : ST, va_D A (wA a k σ1) := fun σ1 => wA_D hD
  replace hl : lv_has ls 2 [(0, .ref (a 62)), (1, .int p0)] := hl
  unfold f_X7_sortAt at h
  refine lv_aload_n hx hb dX7_sortAt_0 rfl (lv_at hl 0 rfl) ?_
  refine lv_iload_n hx hb dX7_sortAt_1 rfl (lv_at hl 1 rfl) ?_
  obtain ⟨q1, hc, h⟩ := ib h
  have hF := va_frees hD hS hA
  refine va_calli (va_runV (As := [.int p0]) (rest := []) ⟨hx, hb, hml, hown, hts⟩ (s_X7_isRow_62 hc) (cwV 1 hts (gV mw_18_5 mw_18_6 mw_18_7 mw_0_11 mw_50_23) rfl rfl rfl (by decide +kernel) ⟨(Nat.le_of_ble_eq_true rfl), (Nat.le_of_ble_eq_true rfl)⟩) (vV (ci := 7) (q0 := 62) hK hP hD hN rfl gA_62) rfl rfl hl.1 rfl (lv_room (Nat.le_of_ble_eq_true rfl)) dX7_sortAt_2 ⟨(Nat.le_of_ble_eq_true rfl), (Nat.le_of_ble_eq_true rfl)⟩) hS (fun q _ h => hF q h) hF (fun r2 u t H locs ht hvm hw hB _ _ hS => ?_)
  obtain rfl : r2 = q1.1 := hw
  replace hP : va_P (dC, dI) vwCl (wA a k q1.2) H := by rw [← ht]; exact hB.1
  replace hD := hD0 (q1.2)
  clear hB hF
  refine lv_if_eq (tgt := 17) hx hb dX7_sortAt_5 (by decide) (fun hc => ?_) (fun hc => ?_)
  · replace h := ip hc h
    refine lv_iconst (v := (-1)) hx hb dX7_sortAt_17 (by decide) ?_
    obtain rfl := Option.some.inj h
    exact W.iret hx hb hr (fun t ht hW => ⟨⟨_, (), rfl, rfl, ⟨by rw [ht]; exact hP, va_K.moved hW.alike hK, hD⟩⟩, hS.F ht⟩) hS.2.2 dX7_sortAt_18
  · replace h := iq hc h
    refine lv_aload_n hx hb dX7_sortAt_8 rfl (lv_at hl 0 rfl) ?_
    refine va_get (D := (dC, dI)) (ci := 7) (C := RX7) (T := TX7) (N := 13) hx hb hts inlX7 hown hK hP 62 gA_62 rfl 2 (by decide) (hts (.fieldLink RX7 18 "ShapeReader$Tree" "sorts" "[I") mw_17_24) (fun _ h9 => h9) rfl dX7_sortAt_9 ?_
    refine lv_iload_n hx hb dX7_sortAt_12 rfl (lv_at hl 1 rfl) ?_
    obtain ⟨hg3, h⟩ := ig h
    refine va_iald hx hb hK hP 63 53 gA_63 yA_63 (vp_in_iff.mpr hg3) dX7_sortAt_13 ?_
    refine lv_goto (tgt := 18) hx hb dX7_sortAt_14 (by decide) ?_
    obtain rfl := Option.some.inj h
    exact W.iret hx hb hr (fun t ht hW => ⟨⟨_, (), rfl, rfl, ⟨by rw [ht]; exact hP, va_K.moved hW.alike hK, hD⟩⟩, hS.F ht⟩) hS.2.2 dX7_sortAt_18

theorem s_X7_sortAt_62 {l : Launch} {dC : Nat → ClassId} {dI : Nat → Nat → Nat} {a : Nat → Nat} {k : Nat → ClassId} {sz : Nat} {p0 : Int32} {σ : ST} {q : Int32 × ST} (h : f_X7_sortAt 62 p0 σ = some q) : Met l yX7_sortAt (.code yX7_sortAt cX7_sortAt 2 (some .int) :: pw) ({ frames := 2, cells := 0, slots := 0, locals := 21 } : Room) (va_Pc [.ref (a 62), .int p0] (vPre dC dI (wA a k σ) (tA k) sz)) (qAi dC dI a k (va_A (wA a k σ) sz) q) 0 0 (va_A (wA a k σ) sz) := metA (fun A => qAi dC dI a k A q) (plainFor_of_name (by decide)) (Nat.le_of_ble_eq_true rfl) (fun _ _ _ _ _ _ _ _ hC => b_X7_sortAt_e_62 hC h)

set_option maxRecDepth 100000 in
set_option maxHeartbeats 4000000 in
theorem b_X7_sortAt_e_74 {p : Program} {l : Launch} {e : Env} {s : State} {m : MethodId} {args : Array Value} {below : List Frame} {meth : Method} {c : Code} {dC : Nat → ClassId} {dI : Nat → Nat → Nat} {a : Nat → Nat} {k : Nat → ClassId} {A : Nat → Prop} {q : Int32 × ST} (hC : CxA p s m args meth c dC dI k A cX7_sortAt RX7 (some .int) 2)   {p0 : Int32} {σ : ST} (h : f_X7_sortAt 74 p0 σ = some q) : GoA p l e ({ frames := 2, cells := 0, slots := 0, locals := 21 } : Room) s m args below meth c (MQ below (qAi dC dI a k A q) args s 0 0 A) dC dI a k A 2 0 σ (lv_args 0 [.ref (a 74), .int p0]) [] := by
  have hC0 := hC
  obtain ⟨hx, hb, hr, hml, hown, hts, hlocks, hA, hN, hK⟩ := hC0
  intro H locs ls hP hD hS hl
  have hD0 : ∀ σ1 : ST, va_D A (wA a k σ1) := fun σ1 => wA_D hD
  replace hl : lv_has ls 2 [(0, .ref (a 74)), (1, .int p0)] := hl
  unfold f_X7_sortAt at h
  refine lv_aload_n hx hb dX7_sortAt_0 rfl (lv_at hl 0 rfl) ?_
  refine lv_iload_n hx hb dX7_sortAt_1 rfl (lv_at hl 1 rfl) ?_
  obtain ⟨q1, hc, h⟩ := ib h
  have hF := va_frees hD hS hA
  refine va_calli (va_runV (As := [.int p0]) (rest := []) ⟨hx, hb, hml, hown, hts⟩ (s_X7_isRow_74 hc) (cwV 1 hts (gV mw_18_5 mw_18_6 mw_18_7 mw_0_11 mw_50_23) rfl rfl rfl (by decide +kernel) ⟨(Nat.le_of_ble_eq_true rfl), (Nat.le_of_ble_eq_true rfl)⟩) (vV (ci := 7) (q0 := 74) hK hP hD hN rfl gA_74) rfl rfl hl.1 rfl (lv_room (Nat.le_of_ble_eq_true rfl)) dX7_sortAt_2 ⟨(Nat.le_of_ble_eq_true rfl), (Nat.le_of_ble_eq_true rfl)⟩) hS (fun q _ h => hF q h) hF (fun r2 u t H locs ht hvm hw hB _ _ hS => ?_)
  obtain rfl : r2 = q1.1 := hw
  replace hP : va_P (dC, dI) vwCl (wA a k q1.2) H := by rw [← ht]; exact hB.1
  replace hD := hD0 (q1.2)
  clear hB hF
  refine lv_if_eq (tgt := 17) hx hb dX7_sortAt_5 (by decide) (fun hc => ?_) (fun hc => ?_)
  · replace h := ip hc h
    refine lv_iconst (v := (-1)) hx hb dX7_sortAt_17 (by decide) ?_
    obtain rfl := Option.some.inj h
    exact W.iret hx hb hr (fun t ht hW => ⟨⟨_, (), rfl, rfl, ⟨by rw [ht]; exact hP, va_K.moved hW.alike hK, hD⟩⟩, hS.F ht⟩) hS.2.2 dX7_sortAt_18
  · replace h := iq hc h
    refine lv_aload_n hx hb dX7_sortAt_8 rfl (lv_at hl 0 rfl) ?_
    refine va_get (D := (dC, dI)) (ci := 7) (C := RX7) (T := TX7) (N := 13) hx hb hts inlX7 hown hK hP 74 gA_74 rfl 2 (by decide) (hts (.fieldLink RX7 18 "ShapeReader$Tree" "sorts" "[I") mw_17_24) (fun _ h9 => h9) rfl dX7_sortAt_9 ?_
    refine lv_iload_n hx hb dX7_sortAt_12 rfl (lv_at hl 1 rfl) ?_
    obtain ⟨hg3, h⟩ := ig h
    refine va_iald hx hb hK hP 75 64 gA_75 yA_75 (vp_in_iff.mpr hg3) dX7_sortAt_13 ?_
    refine lv_goto (tgt := 18) hx hb dX7_sortAt_14 (by decide) ?_
    obtain rfl := Option.some.inj h
    exact W.iret hx hb hr (fun t ht hW => ⟨⟨_, (), rfl, rfl, ⟨by rw [ht]; exact hP, va_K.moved hW.alike hK, hD⟩⟩, hS.F ht⟩) hS.2.2 dX7_sortAt_18

theorem s_X7_sortAt_74 {l : Launch} {dC : Nat → ClassId} {dI : Nat → Nat → Nat} {a : Nat → Nat} {k : Nat → ClassId} {sz : Nat} {p0 : Int32} {σ : ST} {q : Int32 × ST} (h : f_X7_sortAt 74 p0 σ = some q) : Met l yX7_sortAt (.code yX7_sortAt cX7_sortAt 2 (some .int) :: pw) ({ frames := 2, cells := 0, slots := 0, locals := 21 } : Room) (va_Pc [.ref (a 74), .int p0] (vPre dC dI (wA a k σ) (tA k) sz)) (qAi dC dI a k (va_A (wA a k σ) sz) q) 0 0 (va_A (wA a k σ) sz) := metA (fun A => qAi dC dI a k A q) (plainFor_of_name (by decide)) (Nat.le_of_ble_eq_true rfl) (fun _ _ _ _ _ _ _ _ hC => b_X7_sortAt_e_74 hC h)

def f_X7_setWorth (b : Nat) (p0 : Int32) (p1 : Int32) (p2 : Int64) (σ : ST) : Option (ST) := (f_X7_isRow b p0 σ).bind fun q1 => if q1.1 = 0 then (some q1.2) else (if 0 ≤ p0.toInt ∧ p0.toInt < (ln7 b : Nat) then (some (stL (stI q1.2 (b + 4) p0.toNatClampNeg p1) (b + 6) p0.toNatClampNeg p2)) else none)

set_option maxRecDepth 100000 in
set_option maxHeartbeats 4000000 in
theorem b_X7_setWorth_e_50 {p : Program} {l : Launch} {e : Env} {s : State} {m : MethodId} {args : Array Value} {below : List Frame} {meth : Method} {c : Code} {dC : Nat → ClassId} {dI : Nat → Nat → Nat} {a : Nat → Nat} {k : Nat → ClassId} {A : Nat → Prop} {q : ST} (hC : CxA p s m args meth c dC dI k A cX7_setWorth RX7 none 5)   {p0 : Int32} {p1 : Int32} {p2 : Int64} {σ : ST} (h : f_X7_setWorth 50 p0 p1 p2 σ = some q) : GoA p l e ({ frames := 2, cells := 0, slots := 0, locals := 21 } : Room) s m args below meth c (MQ below (qAv dC dI a k A q) args s 0 0 A) dC dI a k A 5 0 σ (lv_args 0 [.ref (a 50), .int p0, .int p1, .long p2]) [] := by
  have hC0 := hC
  obtain ⟨hx, hb, hr, hml, hown, hts, hlocks, hA, hN, hK⟩ := hC0
  intro H locs ls hP hD hS hl
  have hD0 : ∀ σ1 : ST, va_D A (wA a k σ1) := fun σ1 => wA_D hD
  replace hl : lv_has ls 5 [(0, .ref (a 50)), (1, .int p0), (2, .int p1), (3, .long p2)] := hl
  unfold f_X7_setWorth at h
  refine lv_aload_n hx hb dX7_setWorth_0 rfl (lv_at hl 0 rfl) ?_
  refine lv_iload_n hx hb dX7_setWorth_1 rfl (lv_at hl 1 rfl) ?_
  obtain ⟨q1, hc, h⟩ := ib h
  have hF := va_frees hD hS hA
  refine va_calli (va_runV (As := [.int p0]) (rest := []) ⟨hx, hb, hml, hown, hts⟩ (s_X7_isRow_50 hc) (cwV 1 hts (gV mw_18_5 mw_18_6 mw_18_7 mw_0_11 mw_50_23) rfl rfl rfl (by decide +kernel) ⟨(Nat.le_of_ble_eq_true rfl), (Nat.le_of_ble_eq_true rfl)⟩) (vV (ci := 7) (q0 := 50) hK hP hD hN rfl gA_50) rfl rfl hl.1 rfl (lv_room (Nat.le_of_ble_eq_true rfl)) dX7_setWorth_2 ⟨(Nat.le_of_ble_eq_true rfl), (Nat.le_of_ble_eq_true rfl)⟩) hS (fun q _ h => hF q h) hF (fun r2 u t H locs ht hvm hw hB _ _ hS => ?_)
  obtain rfl : r2 = q1.1 := hw
  replace hP : va_P (dC, dI) vwCl (wA a k q1.2) H := by rw [← ht]; exact hB.1
  replace hD := hD0 (q1.2)
  clear hB hF
  refine lv_if_eq (tgt := 22) hx hb dX7_setWorth_5 (by decide) (fun hc => ?_) (fun hc => ?_)
  · replace h := ip hc h
    obtain rfl := Option.some.inj h
    exact W.vret hx hb hr (fun t ht hW => ⟨⟨(), rfl, trivial, ⟨by rw [ht]; exact hP, va_K.moved hW.alike hK, hD⟩⟩, hS.F ht⟩) hS.2.2 dX7_setWorth_22
  · replace h := iq hc h
    refine lv_aload_n hx hb dX7_setWorth_8 rfl (lv_at hl 0 rfl) ?_
    refine va_get (D := (dC, dI)) (ci := 7) (C := RX7) (T := TX7) (N := 13) hx hb hts inlX7 hown hK hP 50 gA_50 rfl 5 (by decide) (hts (.fieldLink RX7 28 "ShapeReader$Tree" "sizes" "[I") mw_17_27) (fun _ h9 => h9) rfl dX7_setWorth_9 ?_
    refine lv_iload_n hx hb dX7_setWorth_12 rfl (lv_at hl 1 rfl) ?_
    refine lv_iload_n hx hb dX7_setWorth_13 rfl (lv_at hl 2 rfl) ?_
    obtain ⟨hg3, h⟩ := ig h
    refine va_iast hx hb hK hP hD hS 54 45 gA_54 yA_54 (vp_in_iff.mpr hg3) dX7_setWorth_14 (fun H locs hP hD hS => ?_)
    replace hP := uA_54 hP
    replace hD := hD0 ((stI q1.2 54 p0.toNatClampNeg p1))
    refine lv_aload_n hx hb dX7_setWorth_15 rfl (lv_at hl 0 rfl) ?_
    refine va_get (D := (dC, dI)) (ci := 7) (C := RX7) (T := TX7) (N := 13) hx hb hts inlX7 hown hK hP 50 gA_50 rfl 7 (by decide) (hts (.fieldLink RX7 35 "ShapeReader$Tree" "worths" "[J") mw_17_29) (fun _ h9 => h9) rfl dX7_setWorth_16 ?_
    refine lv_iload_n hx hb dX7_setWorth_19 rfl (lv_at hl 1 rfl) ?_
    refine lv_lload_n hx hb dX7_setWorth_20 rfl (lv_at hl 3 rfl) ?_
    refine va_last hx hb hK hP hD hS 56 47 gA_56 yA_56 (vp_in_iff.mpr hg3) dX7_setWorth_21 (fun H locs hP hD hS => ?_)
    replace hP := uA_56 hP
    replace hD := hD0 ((stL (stI q1.2 54 p0.toNatClampNeg p1) 56 p0.toNatClampNeg p2))
    obtain rfl := Option.some.inj h
    exact W.vret hx hb hr (fun t ht hW => ⟨⟨(), rfl, trivial, ⟨by rw [ht]; exact hP, va_K.moved hW.alike hK, hD⟩⟩, hS.F ht⟩) hS.2.2 dX7_setWorth_22

theorem s_X7_setWorth_50 {l : Launch} {dC : Nat → ClassId} {dI : Nat → Nat → Nat} {a : Nat → Nat} {k : Nat → ClassId} {sz : Nat} {p0 : Int32} {p1 : Int32} {p2 : Int64} {σ : ST} {q : ST} (h : f_X7_setWorth 50 p0 p1 p2 σ = some q) : Met l yX7_setWorth (.code yX7_setWorth cX7_setWorth 5 none :: pw) ({ frames := 2, cells := 0, slots := 0, locals := 21 } : Room) (va_Pc [.ref (a 50), .int p0, .int p1, .long p2] (vPre dC dI (wA a k σ) (tA k) sz)) (qAv dC dI a k (va_A (wA a k σ) sz) q) 0 0 (va_A (wA a k σ) sz) := metA (fun A => qAv dC dI a k A q) (plainFor_of_name (by decide)) (Nat.le_of_ble_eq_true rfl) (fun _ _ _ _ _ _ _ _ hC => b_X7_setWorth_e_50 hC h)

set_option maxRecDepth 100000 in
set_option maxHeartbeats 4000000 in
theorem b_X7_setWorth_e_62 {p : Program} {l : Launch} {e : Env} {s : State} {m : MethodId} {args : Array Value} {below : List Frame} {meth : Method} {c : Code} {dC : Nat → ClassId} {dI : Nat → Nat → Nat} {a : Nat → Nat} {k : Nat → ClassId} {A : Nat → Prop} {q : ST} (hC : CxA p s m args meth c dC dI k A cX7_setWorth RX7 none 5)   {p0 : Int32} {p1 : Int32} {p2 : Int64} {σ : ST} (h : f_X7_setWorth 62 p0 p1 p2 σ = some q) : GoA p l e ({ frames := 2, cells := 0, slots := 0, locals := 21 } : Room) s m args below meth c (MQ below (qAv dC dI a k A q) args s 0 0 A) dC dI a k A 5 0 σ (lv_args 0 [.ref (a 62), .int p0, .int p1, .long p2]) [] := by
  have hC0 := hC
  obtain ⟨hx, hb, hr, hml, hown, hts, hlocks, hA, hN, hK⟩ := hC0
  intro H locs ls hP hD hS hl
  have hD0 : ∀ σ1 : ST, va_D A (wA a k σ1) := fun σ1 => wA_D hD
  replace hl : lv_has ls 5 [(0, .ref (a 62)), (1, .int p0), (2, .int p1), (3, .long p2)] := hl
  unfold f_X7_setWorth at h
  refine lv_aload_n hx hb dX7_setWorth_0 rfl (lv_at hl 0 rfl) ?_
  refine lv_iload_n hx hb dX7_setWorth_1 rfl (lv_at hl 1 rfl) ?_
  obtain ⟨q1, hc, h⟩ := ib h
  have hF := va_frees hD hS hA
  refine va_calli (va_runV (As := [.int p0]) (rest := []) ⟨hx, hb, hml, hown, hts⟩ (s_X7_isRow_62 hc) (cwV 1 hts (gV mw_18_5 mw_18_6 mw_18_7 mw_0_11 mw_50_23) rfl rfl rfl (by decide +kernel) ⟨(Nat.le_of_ble_eq_true rfl), (Nat.le_of_ble_eq_true rfl)⟩) (vV (ci := 7) (q0 := 62) hK hP hD hN rfl gA_62) rfl rfl hl.1 rfl (lv_room (Nat.le_of_ble_eq_true rfl)) dX7_setWorth_2 ⟨(Nat.le_of_ble_eq_true rfl), (Nat.le_of_ble_eq_true rfl)⟩) hS (fun q _ h => hF q h) hF (fun r2 u t H locs ht hvm hw hB _ _ hS => ?_)
  obtain rfl : r2 = q1.1 := hw
  replace hP : va_P (dC, dI) vwCl (wA a k q1.2) H := by rw [← ht]; exact hB.1
  replace hD := hD0 (q1.2)
  clear hB hF
  refine lv_if_eq (tgt := 22) hx hb dX7_setWorth_5 (by decide) (fun hc => ?_) (fun hc => ?_)
  · replace h := ip hc h
    obtain rfl := Option.some.inj h
    exact W.vret hx hb hr (fun t ht hW => ⟨⟨(), rfl, trivial, ⟨by rw [ht]; exact hP, va_K.moved hW.alike hK, hD⟩⟩, hS.F ht⟩) hS.2.2 dX7_setWorth_22
  · replace h := iq hc h
    refine lv_aload_n hx hb dX7_setWorth_8 rfl (lv_at hl 0 rfl) ?_
    refine va_get (D := (dC, dI)) (ci := 7) (C := RX7) (T := TX7) (N := 13) hx hb hts inlX7 hown hK hP 62 gA_62 rfl 5 (by decide) (hts (.fieldLink RX7 28 "ShapeReader$Tree" "sizes" "[I") mw_17_27) (fun _ h9 => h9) rfl dX7_setWorth_9 ?_
    refine lv_iload_n hx hb dX7_setWorth_12 rfl (lv_at hl 1 rfl) ?_
    refine lv_iload_n hx hb dX7_setWorth_13 rfl (lv_at hl 2 rfl) ?_
    obtain ⟨hg3, h⟩ := ig h
    refine va_iast hx hb hK hP hD hS 66 56 gA_66 yA_66 (vp_in_iff.mpr hg3) dX7_setWorth_14 (fun H locs hP hD hS => ?_)
    replace hP := uA_66 hP
    replace hD := hD0 ((stI q1.2 66 p0.toNatClampNeg p1))
    refine lv_aload_n hx hb dX7_setWorth_15 rfl (lv_at hl 0 rfl) ?_
    refine va_get (D := (dC, dI)) (ci := 7) (C := RX7) (T := TX7) (N := 13) hx hb hts inlX7 hown hK hP 62 gA_62 rfl 7 (by decide) (hts (.fieldLink RX7 35 "ShapeReader$Tree" "worths" "[J") mw_17_29) (fun _ h9 => h9) rfl dX7_setWorth_16 ?_
    refine lv_iload_n hx hb dX7_setWorth_19 rfl (lv_at hl 1 rfl) ?_
    refine lv_lload_n hx hb dX7_setWorth_20 rfl (lv_at hl 3 rfl) ?_
    refine va_last hx hb hK hP hD hS 68 58 gA_68 yA_68 (vp_in_iff.mpr hg3) dX7_setWorth_21 (fun H locs hP hD hS => ?_)
    replace hP := uA_68 hP
    replace hD := hD0 ((stL (stI q1.2 66 p0.toNatClampNeg p1) 68 p0.toNatClampNeg p2))
    obtain rfl := Option.some.inj h
    exact W.vret hx hb hr (fun t ht hW => ⟨⟨(), rfl, trivial, ⟨by rw [ht]; exact hP, va_K.moved hW.alike hK, hD⟩⟩, hS.F ht⟩) hS.2.2 dX7_setWorth_22

theorem s_X7_setWorth_62 {l : Launch} {dC : Nat → ClassId} {dI : Nat → Nat → Nat} {a : Nat → Nat} {k : Nat → ClassId} {sz : Nat} {p0 : Int32} {p1 : Int32} {p2 : Int64} {σ : ST} {q : ST} (h : f_X7_setWorth 62 p0 p1 p2 σ = some q) : Met l yX7_setWorth (.code yX7_setWorth cX7_setWorth 5 none :: pw) ({ frames := 2, cells := 0, slots := 0, locals := 21 } : Room) (va_Pc [.ref (a 62), .int p0, .int p1, .long p2] (vPre dC dI (wA a k σ) (tA k) sz)) (qAv dC dI a k (va_A (wA a k σ) sz) q) 0 0 (va_A (wA a k σ) sz) := metA (fun A => qAv dC dI a k A q) (plainFor_of_name (by decide)) (Nat.le_of_ble_eq_true rfl) (fun _ _ _ _ _ _ _ _ hC => b_X7_setWorth_e_62 hC h)

set_option maxRecDepth 100000 in
set_option maxHeartbeats 4000000 in
theorem b_X7_setWorth_e_74 {p : Program} {l : Launch} {e : Env} {s : State} {m : MethodId} {args : Array Value} {below : List Frame} {meth : Method} {c : Code} {dC : Nat → ClassId} {dI : Nat → Nat → Nat} {a : Nat → Nat} {k : Nat → ClassId} {A : Nat → Prop} {q : ST} (hC : CxA p s m args meth c dC dI k A cX7_setWorth RX7 none 5)   {p0 : Int32} {p1 : Int32} {p2 : Int64} {σ : ST} (h : f_X7_setWorth 74 p0 p1 p2 σ = some q) : GoA p l e ({ frames := 2, cells := 0, slots := 0, locals := 21 } : Room) s m args below meth c (MQ below (qAv dC dI a k A q) args s 0 0 A) dC dI a k A 5 0 σ (lv_args 0 [.ref (a 74), .int p0, .int p1, .long p2]) [] := by
  have hC0 := hC
  obtain ⟨hx, hb, hr, hml, hown, hts, hlocks, hA, hN, hK⟩ := hC0
  intro H locs ls hP hD hS hl
  have hD0 : ∀ σ1 : ST, va_D A (wA a k σ1) := fun σ1 => wA_D hD
  replace hl : lv_has ls 5 [(0, .ref (a 74)), (1, .int p0), (2, .int p1), (3, .long p2)] := hl
  unfold f_X7_setWorth at h
  refine lv_aload_n hx hb dX7_setWorth_0 rfl (lv_at hl 0 rfl) ?_
  refine lv_iload_n hx hb dX7_setWorth_1 rfl (lv_at hl 1 rfl) ?_
  obtain ⟨q1, hc, h⟩ := ib h
  have hF := va_frees hD hS hA
  refine va_calli (va_runV (As := [.int p0]) (rest := []) ⟨hx, hb, hml, hown, hts⟩ (s_X7_isRow_74 hc) (cwV 1 hts (gV mw_18_5 mw_18_6 mw_18_7 mw_0_11 mw_50_23) rfl rfl rfl (by decide +kernel) ⟨(Nat.le_of_ble_eq_true rfl), (Nat.le_of_ble_eq_true rfl)⟩) (vV (ci := 7) (q0 := 74) hK hP hD hN rfl gA_74) rfl rfl hl.1 rfl (lv_room (Nat.le_of_ble_eq_true rfl)) dX7_setWorth_2 ⟨(Nat.le_of_ble_eq_true rfl), (Nat.le_of_ble_eq_true rfl)⟩) hS (fun q _ h => hF q h) hF (fun r2 u t H locs ht hvm hw hB _ _ hS => ?_)
  obtain rfl : r2 = q1.1 := hw
  replace hP : va_P (dC, dI) vwCl (wA a k q1.2) H := by rw [← ht]; exact hB.1
  replace hD := hD0 (q1.2)
  clear hB hF
  refine lv_if_eq (tgt := 22) hx hb dX7_setWorth_5 (by decide) (fun hc => ?_) (fun hc => ?_)
  · replace h := ip hc h
    obtain rfl := Option.some.inj h
    exact W.vret hx hb hr (fun t ht hW => ⟨⟨(), rfl, trivial, ⟨by rw [ht]; exact hP, va_K.moved hW.alike hK, hD⟩⟩, hS.F ht⟩) hS.2.2 dX7_setWorth_22
  · replace h := iq hc h
    refine lv_aload_n hx hb dX7_setWorth_8 rfl (lv_at hl 0 rfl) ?_
    refine va_get (D := (dC, dI)) (ci := 7) (C := RX7) (T := TX7) (N := 13) hx hb hts inlX7 hown hK hP 74 gA_74 rfl 5 (by decide) (hts (.fieldLink RX7 28 "ShapeReader$Tree" "sizes" "[I") mw_17_27) (fun _ h9 => h9) rfl dX7_setWorth_9 ?_
    refine lv_iload_n hx hb dX7_setWorth_12 rfl (lv_at hl 1 rfl) ?_
    refine lv_iload_n hx hb dX7_setWorth_13 rfl (lv_at hl 2 rfl) ?_
    obtain ⟨hg3, h⟩ := ig h
    refine va_iast hx hb hK hP hD hS 78 67 gA_78 yA_78 (vp_in_iff.mpr hg3) dX7_setWorth_14 (fun H locs hP hD hS => ?_)
    replace hP := uA_78 hP
    replace hD := hD0 ((stI q1.2 78 p0.toNatClampNeg p1))
    refine lv_aload_n hx hb dX7_setWorth_15 rfl (lv_at hl 0 rfl) ?_
    refine va_get (D := (dC, dI)) (ci := 7) (C := RX7) (T := TX7) (N := 13) hx hb hts inlX7 hown hK hP 74 gA_74 rfl 7 (by decide) (hts (.fieldLink RX7 35 "ShapeReader$Tree" "worths" "[J") mw_17_29) (fun _ h9 => h9) rfl dX7_setWorth_16 ?_
    refine lv_iload_n hx hb dX7_setWorth_19 rfl (lv_at hl 1 rfl) ?_
    refine lv_lload_n hx hb dX7_setWorth_20 rfl (lv_at hl 3 rfl) ?_
    refine va_last hx hb hK hP hD hS 80 69 gA_80 yA_80 (vp_in_iff.mpr hg3) dX7_setWorth_21 (fun H locs hP hD hS => ?_)
    replace hP := uA_80 hP
    replace hD := hD0 ((stL (stI q1.2 78 p0.toNatClampNeg p1) 80 p0.toNatClampNeg p2))
    obtain rfl := Option.some.inj h
    exact W.vret hx hb hr (fun t ht hW => ⟨⟨(), rfl, trivial, ⟨by rw [ht]; exact hP, va_K.moved hW.alike hK, hD⟩⟩, hS.F ht⟩) hS.2.2 dX7_setWorth_22

theorem s_X7_setWorth_74 {l : Launch} {dC : Nat → ClassId} {dI : Nat → Nat → Nat} {a : Nat → Nat} {k : Nat → ClassId} {sz : Nat} {p0 : Int32} {p1 : Int32} {p2 : Int64} {σ : ST} {q : ST} (h : f_X7_setWorth 74 p0 p1 p2 σ = some q) : Met l yX7_setWorth (.code yX7_setWorth cX7_setWorth 5 none :: pw) ({ frames := 2, cells := 0, slots := 0, locals := 21 } : Room) (va_Pc [.ref (a 74), .int p0, .int p1, .long p2] (vPre dC dI (wA a k σ) (tA k) sz)) (qAv dC dI a k (va_A (wA a k σ) sz) q) 0 0 (va_A (wA a k σ) sz) := metA (fun A => qAv dC dI a k A q) (plainFor_of_name (by decide)) (Nat.le_of_ble_eq_true rfl) (fun _ _ _ _ _ _ _ _ hC => b_X7_setWorth_e_74 hC h)

def f_X6_signAt (p0 : Int32) (σ : ST) : Option (Int32 × ST) := if p0 < 0 then (some (0, σ)) else (if (σ.1 2 2) ≤ p0 then (some (0, σ)) else (if 1000 ≤ p0 then (some (0, σ)) else (if 0 ≤ p0.toInt ∧ p0.toInt < 1000 then (some (((σ.1 1 p0.toNatClampNeg) &&& 255), σ)) else none)))

set_option maxRecDepth 100000 in
set_option maxHeartbeats 4000000 in
theorem b_X6_signAt_e {p : Program} {l : Launch} {e : Env} {s : State} {m : MethodId} {args : Array Value} {below : List Frame} {meth : Method} {c : Code} {dC : Nat → ClassId} {dI : Nat → Nat → Nat} {a : Nat → Nat} {k : Nat → ClassId} {A : Nat → Prop} {q : Int32 × ST} (hC : CxA p s m args meth c dC dI k A cX6_signAt RX6 (some .int) 2)   {p0 : Int32} {σ : ST} (h : f_X6_signAt  p0 σ = some q) : GoA p l e ({ frames := 1, cells := 0, slots := 0, locals := 0 } : Room) s m args below meth c (MQ below (qAi dC dI a k A q) args s 0 0 A) dC dI a k A 2 0 σ (lv_args 0 [.ref (a 2), .int p0]) [] := by
  have hC0 := hC
  obtain ⟨hx, hb, hr, hml, hown, hts, hlocks, hA, hN, hK⟩ := hC0
  intro H locs ls hP hD hS hl
  have hD0 : ∀ σ1 : ST, va_D A (wA a k σ1) := fun σ1 => wA_D hD
  replace hl : lv_has ls 2 [(0, .ref (a 2)), (1, .int p0)] := hl
  unfold f_X6_signAt at h
  refine lv_iload_n hx hb dX6_signAt_0 rfl (lv_at hl 1 rfl) ?_
  refine lv_if_lt (tgt := 34) hx hb dX6_signAt_1 (by decide) (fun hc => ?_) (fun hc => ?_)
  · replace h := ip hc h
    refine lv_iconst (v := 0) hx hb dX6_signAt_34 (by decide) ?_
    obtain rfl := Option.some.inj h
    exact W.iret hx hb hr (fun t ht hW => ⟨⟨_, (), rfl, rfl, ⟨by rw [ht]; exact hP, va_K.moved hW.alike hK, hD⟩⟩, hS.F ht⟩) hS.2.2 dX6_signAt_35
  · replace h := iq hc h
    refine lv_iload_n hx hb dX6_signAt_4 rfl (lv_at hl 1 rfl) ?_
    refine lv_aload_n hx hb dX6_signAt_5 rfl (lv_at hl 0 rfl) ?_
    refine va_get (D := (dC, dI)) (ci := 6) (C := RX6) (T := TX6) (N := 14) hx hb hts inlX6 hown hK hP 2 gA_2 rfl 2 (by decide) (hts (.fieldLink RX6 15 "ShapeReader$Tokens" "end" "I") mw_16_0) (fun _ h9 => h9) rfl dX6_signAt_6 ?_
    refine lv_icmp_ge (tgt := 34) hx hb dX6_signAt_9 (by decide) (fun hc => ?_) (fun hc => ?_)
    · replace h := ip hc h
      refine lv_iconst (v := 0) hx hb dX6_signAt_34 (by decide) ?_
      obtain rfl := Option.some.inj h
      exact W.iret hx hb hr (fun t ht hW => ⟨⟨_, (), rfl, rfl, ⟨by rw [ht]; exact hP, va_K.moved hW.alike hK, hD⟩⟩, hS.F ht⟩) hS.2.2 dX6_signAt_35
    · replace h := iq hc h
      refine lv_iload_n hx hb dX6_signAt_12 rfl (lv_at hl 1 rfl) ?_
      refine lv_aload_n hx hb dX6_signAt_13 rfl (lv_at hl 0 rfl) ?_
      refine va_get (D := (dC, dI)) (ci := 6) (C := RX6) (T := TX6) (N := 14) hx hb hts inlX6 hown hK hP 2 gA_2 rfl 0 (by decide) (hts (.fieldLink RX6 54 "ShapeReader$Tokens" "tape" "[B") mw_16_12) (fun _ h9 => h9) rfl dX6_signAt_14 ?_
      refine va_alen hx hb hK hP 1 0 gA_1 yA_1 (v := 1000) rfl dX6_signAt_17 ?_
      refine lv_icmp_ge (tgt := 34) hx hb dX6_signAt_18 (by decide) (fun hc => ?_) (fun hc => ?_)
      · replace h := ip hc h
        refine lv_iconst (v := 0) hx hb dX6_signAt_34 (by decide) ?_
        obtain rfl := Option.some.inj h
        exact W.iret hx hb hr (fun t ht hW => ⟨⟨_, (), rfl, rfl, ⟨by rw [ht]; exact hP, va_K.moved hW.alike hK, hD⟩⟩, hS.F ht⟩) hS.2.2 dX6_signAt_35
      · replace h := iq hc h
        refine lv_aload_n hx hb dX6_signAt_21 rfl (lv_at hl 0 rfl) ?_
        refine va_get (D := (dC, dI)) (ci := 6) (C := RX6) (T := TX6) (N := 14) hx hb hts inlX6 hown hK hP 2 gA_2 rfl 0 (by decide) (hts (.fieldLink RX6 54 "ShapeReader$Tokens" "tape" "[B") mw_16_12) (fun _ h9 => h9) rfl dX6_signAt_22 ?_
        refine lv_iload_n hx hb dX6_signAt_25 rfl (lv_at hl 1 rfl) ?_
        obtain ⟨hg1, h⟩ := ig h
        refine va_bald hx hb hK hP 1 0 gA_1 yA_1 (vp_in_iff.mpr hg1) dX6_signAt_26 ?_
        refine lv_sipush (v := 255) hx hb dX6_signAt_27 (by decide) ?_
        refine lv_iand hx hb dX6_signAt_30 ?_
        refine lv_goto (tgt := 35) hx hb dX6_signAt_31 (by decide) ?_
        obtain rfl := Option.some.inj h
        exact W.iret hx hb hr (fun t ht hW => ⟨⟨_, (), rfl, rfl, ⟨by rw [ht]; exact hP, va_K.moved hW.alike hK, hD⟩⟩, hS.F ht⟩) hS.2.2 dX6_signAt_35

theorem s_X6_signAt {l : Launch} {dC : Nat → ClassId} {dI : Nat → Nat → Nat} {a : Nat → Nat} {k : Nat → ClassId} {sz : Nat} {p0 : Int32} {σ : ST} {q : Int32 × ST} (h : f_X6_signAt  p0 σ = some q) : Met l yX6_signAt (.code yX6_signAt cX6_signAt 2 (some .int) :: pw) ({ frames := 1, cells := 0, slots := 0, locals := 0 } : Room) (va_Pc [.ref (a 2), .int p0] (vPre dC dI (wA a k σ) (tA k) sz)) (qAi dC dI a k (va_A (wA a k σ) sz) q) 0 0 (va_A (wA a k σ) sz) := metA (fun A => qAi dC dI a k A q) (plainFor_of_name (by decide)) (Nat.le_of_ble_eq_true rfl) (fun _ _ _ _ _ _ _ _ hC => b_X6_signAt_e hC h)

def f_X6_isKeyword (p0 : Int32) (σ : ST) : Option (Int32 × ST) := if (σ.1 2 4) = 2 then (if (σ.1 2 6) = p0 then (some (1, σ)) else (some (0, σ))) else (some (0, σ))

set_option maxRecDepth 100000 in
set_option maxHeartbeats 4000000 in
theorem b_X6_isKeyword_e {p : Program} {l : Launch} {e : Env} {s : State} {m : MethodId} {args : Array Value} {below : List Frame} {meth : Method} {c : Code} {dC : Nat → ClassId} {dI : Nat → Nat → Nat} {a : Nat → Nat} {k : Nat → ClassId} {A : Nat → Prop} {q : Int32 × ST} (hC : CxA p s m args meth c dC dI k A cX6_isKeyword RX6 (some .boolean) 2)   {p0 : Int32} {σ : ST} (h : f_X6_isKeyword  p0 σ = some q) : GoA p l e ({ frames := 1, cells := 0, slots := 0, locals := 0 } : Room) s m args below meth c (MQ below (qAi dC dI a k A q) args s 0 0 A) dC dI a k A 2 0 σ (lv_args 0 [.ref (a 2), .int p0]) [] := by
  have hC0 := hC
  obtain ⟨hx, hb, hr, hml, hown, hts, hlocks, hA, hN, hK⟩ := hC0
  intro H locs ls hP hD hS hl
  have hD0 : ∀ σ1 : ST, va_D A (wA a k σ1) := fun σ1 => wA_D hD
  replace hl : lv_has ls 2 [(0, .ref (a 2)), (1, .int p0)] := hl
  unfold f_X6_isKeyword at h
  refine lv_aload_n hx hb dX6_isKeyword_0 rfl (lv_at hl 0 rfl) ?_
  refine va_get (D := (dC, dI)) (ci := 6) (C := RX6) (T := TX6) (N := 14) hx hb hts inlX6 hown hK hP 2 gA_2 rfl 4 (by decide) (hts (.fieldLink RX6 22 "ShapeReader$Tokens" "kind" "I") mw_16_2) (fun _ h9 => h9) rfl dX6_isKeyword_1 ?_
  refine lv_iconst (v := 2) hx hb dX6_isKeyword_4 (by decide) ?_
  refine lv_icmp_ne (tgt := 20) hx hb dX6_isKeyword_5 (by decide) (fun hc => ?_) (fun hc => ?_)
  · replace h := iq hc h
    refine lv_iconst (v := 0) hx hb dX6_isKeyword_20 (by decide) ?_
    obtain rfl := Option.some.inj h
    exact W.zret hx hb hr rfl (fun t ht hW => ⟨⟨_, (), rfl, rfl, ⟨by rw [ht]; exact hP, va_K.moved hW.alike hK, hD⟩⟩, hS.F ht⟩) hS.2.2 dX6_isKeyword_21
  · replace h := ip hc h
    refine lv_aload_n hx hb dX6_isKeyword_8 rfl (lv_at hl 0 rfl) ?_
    refine va_get (D := (dC, dI)) (ci := 6) (C := RX6) (T := TX6) (N := 14) hx hb hts inlX6 hown hK hP 2 gA_2 rfl 6 (by decide) (hts (.fieldLink RX6 28 "ShapeReader$Tokens" "keyword" "I") mw_16_4) (fun _ h9 => h9) rfl dX6_isKeyword_9 ?_
    refine lv_iload_n hx hb dX6_isKeyword_12 rfl (lv_at hl 1 rfl) ?_
    refine lv_icmp_ne (tgt := 20) hx hb dX6_isKeyword_13 (by decide) (fun hc => ?_) (fun hc => ?_)
    · replace h := iq hc h
      refine lv_iconst (v := 0) hx hb dX6_isKeyword_20 (by decide) ?_
      obtain rfl := Option.some.inj h
      exact W.zret hx hb hr rfl (fun t ht hW => ⟨⟨_, (), rfl, rfl, ⟨by rw [ht]; exact hP, va_K.moved hW.alike hK, hD⟩⟩, hS.F ht⟩) hS.2.2 dX6_isKeyword_21
    · replace h := ip hc h
      refine lv_iconst (v := 1) hx hb dX6_isKeyword_16 (by decide) ?_
      refine lv_goto (tgt := 21) hx hb dX6_isKeyword_17 (by decide) ?_
      obtain rfl := Option.some.inj h
      exact W.zret hx hb hr rfl (fun t ht hW => ⟨⟨_, (), rfl, rfl, ⟨by rw [ht]; exact hP, va_K.moved hW.alike hK, hD⟩⟩, hS.F ht⟩) hS.2.2 dX6_isKeyword_21

theorem s_X6_isKeyword {l : Launch} {dC : Nat → ClassId} {dI : Nat → Nat → Nat} {a : Nat → Nat} {k : Nat → ClassId} {sz : Nat} {p0 : Int32} {σ : ST} {q : Int32 × ST} (h : f_X6_isKeyword  p0 σ = some q) : Met l yX6_isKeyword (.code yX6_isKeyword cX6_isKeyword 2 (some .boolean) :: pw) ({ frames := 1, cells := 0, slots := 0, locals := 0 } : Room) (va_Pc [.ref (a 2), .int p0] (vPre dC dI (wA a k σ) (tA k) sz)) (qAi dC dI a k (va_A (wA a k σ) sz) q) 0 0 (va_A (wA a k σ) sz) := metA (fun A => qAi dC dI a k A q) (plainFor_of_name (by decide)) (Nat.le_of_ble_eq_true rfl) (fun _ _ _ _ _ _ _ _ hC => b_X6_isKeyword_e hC h)

def f_X6_sortBegun (σ : ST) : Option (Int32 × ST) := if (σ.1 2 4) = 3 then (some (7, σ)) else (if (σ.1 2 4) = 2 then (if (σ.1 2 6) = 4 then (some (6, σ)) else (if (σ.1 2 6) = 5 then (some (8, σ)) else (if (σ.1 2 6) < 7 then (some ((-1), σ)) else (if 12 < (σ.1 2 6) then (some ((-1), σ)) else (some (((σ.1 2 6) - 7), σ)))))) else (some ((-1), σ)))

set_option maxRecDepth 100000 in
set_option maxHeartbeats 4000000 in
theorem b_X6_sortBegun_e {p : Program} {l : Launch} {e : Env} {s : State} {m : MethodId} {args : Array Value} {below : List Frame} {meth : Method} {c : Code} {dC : Nat → ClassId} {dI : Nat → Nat → Nat} {a : Nat → Nat} {k : Nat → ClassId} {A : Nat → Prop} {q : Int32 × ST} (hC : CxA p s m args meth c dC dI k A cX6_sortBegun RX6 (some .int) 1)    {σ : ST} (h : f_X6_sortBegun   σ = some q) : GoA p l e ({ frames := 1, cells := 0, slots := 0, locals := 0 } : Room) s m args below meth c (MQ below (qAi dC dI a k A q) args s 0 0 A) dC dI a k A 1 0 σ (lv_args 0 [.ref (a 2)]) [] := by
  have hC0 := hC
  obtain ⟨hx, hb, hr, hml, hown, hts, hlocks, hA, hN, hK⟩ := hC0
  intro H locs ls hP hD hS hl
  have hD0 : ∀ σ1 : ST, va_D A (wA a k σ1) := fun σ1 => wA_D hD
  replace hl : lv_has ls 1 [(0, .ref (a 2))] := hl
  unfold f_X6_sortBegun at h
  refine lv_aload_n hx hb dX6_sortBegun_0 rfl (lv_at hl 0 rfl) ?_
  refine va_get (D := (dC, dI)) (ci := 6) (C := RX6) (T := TX6) (N := 14) hx hb hts inlX6 hown hK hP 2 gA_2 rfl 4 (by decide) (hts (.fieldLink RX6 22 "ShapeReader$Tokens" "kind" "I") mw_16_2) (fun _ h9 => h9) rfl dX6_sortBegun_1 ?_
  refine lv_iconst (v := 3) hx hb dX6_sortBegun_4 (by decide) ?_
  refine lv_icmp_ne (tgt := 11) hx hb dX6_sortBegun_5 (by decide) (fun hc => ?_) (fun hc => ?_)
  · replace h := iq hc h
    refine lv_aload_n hx hb dX6_sortBegun_11 rfl (lv_at hl 0 rfl) ?_
    refine va_get (D := (dC, dI)) (ci := 6) (C := RX6) (T := TX6) (N := 14) hx hb hts inlX6 hown hK hP 2 gA_2 rfl 4 (by decide) (hts (.fieldLink RX6 22 "ShapeReader$Tokens" "kind" "I") mw_16_2) (fun _ h9 => h9) rfl dX6_sortBegun_12 ?_
    refine lv_iconst (v := 2) hx hb dX6_sortBegun_15 (by decide) ?_
    refine lv_icmp_eq (tgt := 21) hx hb dX6_sortBegun_16 (by decide) (fun hc => ?_) (fun hc => ?_)
    · replace h := ip hc h
      refine lv_aload_n hx hb dX6_sortBegun_21 rfl (lv_at hl 0 rfl) ?_
      refine va_get (D := (dC, dI)) (ci := 6) (C := RX6) (T := TX6) (N := 14) hx hb hts inlX6 hown hK hP 2 gA_2 rfl 6 (by decide) (hts (.fieldLink RX6 28 "ShapeReader$Tokens" "keyword" "I") mw_16_4) (fun _ h9 => h9) rfl dX6_sortBegun_22 ?_
      refine lv_iconst (v := 4) hx hb dX6_sortBegun_25 (by decide) ?_
      refine lv_icmp_ne (tgt := 32) hx hb dX6_sortBegun_26 (by decide) (fun hc => ?_) (fun hc => ?_)
      · replace h := iq hc h
        refine lv_aload_n hx hb dX6_sortBegun_32 rfl (lv_at hl 0 rfl) ?_
        refine va_get (D := (dC, dI)) (ci := 6) (C := RX6) (T := TX6) (N := 14) hx hb hts inlX6 hown hK hP 2 gA_2 rfl 6 (by decide) (hts (.fieldLink RX6 28 "ShapeReader$Tokens" "keyword" "I") mw_16_4) (fun _ h9 => h9) rfl dX6_sortBegun_33 ?_
        refine lv_iconst (v := 5) hx hb dX6_sortBegun_36 (by decide) ?_
        refine lv_icmp_ne (tgt := 43) hx hb dX6_sortBegun_37 (by decide) (fun hc => ?_) (fun hc => ?_)
        · replace h := iq hc h
          refine lv_aload_n hx hb dX6_sortBegun_43 rfl (lv_at hl 0 rfl) ?_
          refine va_get (D := (dC, dI)) (ci := 6) (C := RX6) (T := TX6) (N := 14) hx hb hts inlX6 hown hK hP 2 gA_2 rfl 6 (by decide) (hts (.fieldLink RX6 28 "ShapeReader$Tokens" "keyword" "I") mw_16_4) (fun _ h9 => h9) rfl dX6_sortBegun_44 ?_
          refine lv_bipush (v := 7) hx hb dX6_sortBegun_47 (by decide) ?_
          refine lv_icmp_lt (tgt := 71) hx hb dX6_sortBegun_49 (by decide) (fun hc => ?_) (fun hc => ?_)
          · replace h := ip hc h
            refine lv_iconst (v := (-1)) hx hb dX6_sortBegun_71 (by decide) ?_
            obtain rfl := Option.some.inj h
            exact W.iret hx hb hr (fun t ht hW => ⟨⟨_, (), rfl, rfl, ⟨by rw [ht]; exact hP, va_K.moved hW.alike hK, hD⟩⟩, hS.F ht⟩) hS.2.2 dX6_sortBegun_72
          · replace h := iq hc h
            refine lv_aload_n hx hb dX6_sortBegun_52 rfl (lv_at hl 0 rfl) ?_
            refine va_get (D := (dC, dI)) (ci := 6) (C := RX6) (T := TX6) (N := 14) hx hb hts inlX6 hown hK hP 2 gA_2 rfl 6 (by decide) (hts (.fieldLink RX6 28 "ShapeReader$Tokens" "keyword" "I") mw_16_4) (fun _ h9 => h9) rfl dX6_sortBegun_53 ?_
            refine lv_bipush (v := 12) hx hb dX6_sortBegun_56 (by decide) ?_
            refine lv_icmp_gt (tgt := 71) hx hb dX6_sortBegun_58 (by decide) (fun hc => ?_) (fun hc => ?_)
            · replace h := ip hc h
              refine lv_iconst (v := (-1)) hx hb dX6_sortBegun_71 (by decide) ?_
              obtain rfl := Option.some.inj h
              exact W.iret hx hb hr (fun t ht hW => ⟨⟨_, (), rfl, rfl, ⟨by rw [ht]; exact hP, va_K.moved hW.alike hK, hD⟩⟩, hS.F ht⟩) hS.2.2 dX6_sortBegun_72
            · replace h := iq hc h
              refine lv_aload_n hx hb dX6_sortBegun_61 rfl (lv_at hl 0 rfl) ?_
              refine va_get (D := (dC, dI)) (ci := 6) (C := RX6) (T := TX6) (N := 14) hx hb hts inlX6 hown hK hP 2 gA_2 rfl 6 (by decide) (hts (.fieldLink RX6 28 "ShapeReader$Tokens" "keyword" "I") mw_16_4) (fun _ h9 => h9) rfl dX6_sortBegun_62 ?_
              refine lv_bipush (v := 7) hx hb dX6_sortBegun_65 (by decide) ?_
              refine lv_isub hx hb dX6_sortBegun_67 ?_
              refine lv_goto (tgt := 72) hx hb dX6_sortBegun_68 (by decide) ?_
              obtain rfl := Option.some.inj h
              exact W.iret hx hb hr (fun t ht hW => ⟨⟨_, (), rfl, rfl, ⟨by rw [ht]; exact hP, va_K.moved hW.alike hK, hD⟩⟩, hS.F ht⟩) hS.2.2 dX6_sortBegun_72
        · replace h := ip hc h
          refine lv_bipush (v := 8) hx hb dX6_sortBegun_40 (by decide) ?_
          obtain rfl := Option.some.inj h
          exact W.iret hx hb hr (fun t ht hW => ⟨⟨_, (), rfl, rfl, ⟨by rw [ht]; exact hP, va_K.moved hW.alike hK, hD⟩⟩, hS.F ht⟩) hS.2.2 dX6_sortBegun_42
      · replace h := ip hc h
        refine lv_bipush (v := 6) hx hb dX6_sortBegun_29 (by decide) ?_
        obtain rfl := Option.some.inj h
        exact W.iret hx hb hr (fun t ht hW => ⟨⟨_, (), rfl, rfl, ⟨by rw [ht]; exact hP, va_K.moved hW.alike hK, hD⟩⟩, hS.F ht⟩) hS.2.2 dX6_sortBegun_31
    · replace h := iq hc h
      refine lv_iconst (v := (-1)) hx hb dX6_sortBegun_19 (by decide) ?_
      obtain rfl := Option.some.inj h
      exact W.iret hx hb hr (fun t ht hW => ⟨⟨_, (), rfl, rfl, ⟨by rw [ht]; exact hP, va_K.moved hW.alike hK, hD⟩⟩, hS.F ht⟩) hS.2.2 dX6_sortBegun_20
  · replace h := ip hc h
    refine lv_bipush (v := 7) hx hb dX6_sortBegun_8 (by decide) ?_
    obtain rfl := Option.some.inj h
    exact W.iret hx hb hr (fun t ht hW => ⟨⟨_, (), rfl, rfl, ⟨by rw [ht]; exact hP, va_K.moved hW.alike hK, hD⟩⟩, hS.F ht⟩) hS.2.2 dX6_sortBegun_10

theorem s_X6_sortBegun {l : Launch} {dC : Nat → ClassId} {dI : Nat → Nat → Nat} {a : Nat → Nat} {k : Nat → ClassId} {sz : Nat}  {σ : ST} {q : Int32 × ST} (h : f_X6_sortBegun   σ = some q) : Met l yX6_sortBegun (.code yX6_sortBegun cX6_sortBegun 1 (some .int) :: pw) ({ frames := 1, cells := 0, slots := 0, locals := 0 } : Room) (va_Pc [.ref (a 2)] (vPre dC dI (wA a k σ) (tA k) sz)) (qAi dC dI a k (va_A (wA a k σ) sz) q) 0 0 (va_A (wA a k σ) sz) := metA (fun A => qAi dC dI a k A q) (plainFor_of_name (by decide)) (Nat.le_of_ble_eq_true rfl) (fun _ _ _ _ _ _ _ _ hC => b_X6_sortBegun_e hC h)

def f_X6_faultAnswer (σ : ST) : Option (Int32 × ST) := some (((-2) - ((8 * (σ.1 2 13)) + (σ.1 2 12))), σ)

set_option maxRecDepth 100000 in
set_option maxHeartbeats 4000000 in
theorem b_X6_faultAnswer_e {p : Program} {l : Launch} {e : Env} {s : State} {m : MethodId} {args : Array Value} {below : List Frame} {meth : Method} {c : Code} {dC : Nat → ClassId} {dI : Nat → Nat → Nat} {a : Nat → Nat} {k : Nat → ClassId} {A : Nat → Prop} {q : Int32 × ST} (hC : CxA p s m args meth c dC dI k A cX6_faultAnswer RX6 (some .int) 1)    {σ : ST} (h : f_X6_faultAnswer   σ = some q) : GoA p l e ({ frames := 1, cells := 0, slots := 0, locals := 0 } : Room) s m args below meth c (MQ below (qAi dC dI a k A q) args s 0 0 A) dC dI a k A 1 0 σ (lv_args 0 [.ref (a 2)]) [] := by
  have hC0 := hC
  obtain ⟨hx, hb, hr, hml, hown, hts, hlocks, hA, hN, hK⟩ := hC0
  intro H locs ls hP hD hS hl
  have hD0 : ∀ σ1 : ST, va_D A (wA a k σ1) := fun σ1 => wA_D hD
  replace hl : lv_has ls 1 [(0, .ref (a 2))] := hl
  unfold f_X6_faultAnswer at h
  refine lv_bipush (v := (-2)) hx hb dX6_faultAnswer_0 (by decide) ?_
  refine lv_bipush (v := 8) hx hb dX6_faultAnswer_2 (by decide) ?_
  refine lv_aload_n hx hb dX6_faultAnswer_4 rfl (lv_at hl 0 rfl) ?_
  refine va_get (D := (dC, dI)) (ci := 6) (C := RX6) (T := TX6) (N := 14) hx hb hts inlX6 hown hK hP 2 gA_2 rfl 13 (by decide) (hts (.fieldLink RX6 51 "ShapeReader$Tokens" "faultPlace" "I") mw_16_11) (fun _ h9 => h9) rfl dX6_faultAnswer_5 ?_
  refine lv_imul hx hb dX6_faultAnswer_8 ?_
  refine lv_aload_n hx hb dX6_faultAnswer_9 rfl (lv_at hl 0 rfl) ?_
  refine va_get (D := (dC, dI)) (ci := 6) (C := RX6) (T := TX6) (N := 14) hx hb hts inlX6 hown hK hP 2 gA_2 rfl 12 (by decide) (hts (.fieldLink RX6 48 "ShapeReader$Tokens" "faultKind" "I") mw_16_10) (fun _ h9 => h9) rfl dX6_faultAnswer_10 ?_
  refine lv_iadd hx hb dX6_faultAnswer_13 ?_
  refine lv_isub hx hb dX6_faultAnswer_14 ?_
  obtain rfl := Option.some.inj h
  exact W.iret hx hb hr (fun t ht hW => ⟨⟨_, (), rfl, rfl, ⟨by rw [ht]; exact hP, va_K.moved hW.alike hK, hD⟩⟩, hS.F ht⟩) hS.2.2 dX6_faultAnswer_15

theorem s_X6_faultAnswer {l : Launch} {dC : Nat → ClassId} {dI : Nat → Nat → Nat} {a : Nat → Nat} {k : Nat → ClassId} {sz : Nat}  {σ : ST} {q : Int32 × ST} (h : f_X6_faultAnswer   σ = some q) : Met l yX6_faultAnswer (.code yX6_faultAnswer cX6_faultAnswer 1 (some .int) :: pw) ({ frames := 1, cells := 0, slots := 0, locals := 0 } : Room) (va_Pc [.ref (a 2)] (vPre dC dI (wA a k σ) (tA k) sz)) (qAi dC dI a k (va_A (wA a k σ) sz) q) 0 0 (va_A (wA a k σ) sz) := metA (fun A => qAi dC dI a k A q) (plainFor_of_name (by decide)) (Nat.le_of_ble_eq_true rfl) (fun _ _ _ _ _ _ _ _ hC => b_X6_faultAnswer_e hC h)

def f_X0_step_26 (σ : ST) : Option (ST) := some (stI σ 41 11 ((σ.1 41 11) + 1))
def f_X0_step (p0 : Int32) (σ : ST) : Option (ST) := if (σ.1 41 11) < 0 then (f_X0_step_26   σ) else (if 32 ≤ (σ.1 41 11) then (f_X0_step_26   σ) else (if 0 ≤ (σ.1 41 11).toInt ∧ (σ.1 41 11).toInt < 32 then (f_X0_step_26   (stI σ 47 (σ.1 41 11).toNatClampNeg p0)) else none))

set_option maxRecDepth 100000 in
set_option maxHeartbeats 4000000 in
theorem b_X0_step_26 {p : Program} {l : Launch} {e : Env} {s : State} {m : MethodId} {args : Array Value} {below : List Frame} {meth : Method} {c : Code} {dC : Nat → ClassId} {dI : Nat → Nat → Nat} {a : Nat → Nat} {k : Nat → ClassId} {A : Nat → Prop} {q : ST} (hC : CxA p s m args meth c dC dI k A cX0_step RX0 none 2)    {σ : ST} (h : f_X0_step_26   σ = some q) : GoA p l e ({ frames := 1, cells := 0, slots := 0, locals := 0 } : Room) s m args below meth c (MQ below (qAv dC dI a k A q) args s 0 0 A) dC dI a k A 2 26 σ [(0, .ref (a 41))] [] := by
  have hC0 := hC
  obtain ⟨hx, hb, hr, hml, hown, hts, hlocks, hA, hN, hK⟩ := hC0
  intro H locs ls hP hD hS hl
  have hD0 : ∀ σ1 : ST, va_D A (wA a k σ1) := fun σ1 => wA_D hD
  unfold f_X0_step_26 at h
  refine lv_aload_n hx hb dX0_step_26 rfl (lv_at hl 0 rfl) ?_
  refine lv_dup hx hb dX0_step_27 rfl ?_
  refine va_get (D := (dC, dI)) (ci := 0) (C := RX0) (T := TX0) (N := 13) hx hb hts inlX0 hown hK hP 41 gA_41 rfl 11 (by decide) (hts (.fieldLink RX0 45 "ShapeReader$Matcher" "steps" "I") mw_0_28) (fun _ h9 => h9) rfl dX0_step_28 ?_
  refine lv_iconst (v := 1) hx hb dX0_step_31 (by decide) ?_
  refine lv_iadd hx hb dX0_step_32 ?_
  refine va_put (D := (dC, dI)) (ci := 0) (ty := .int) (C := RX0) (T := TX0) (N := 13) hx hb hts inlX0 tyX0 tyX0_ok nmX0 hown hK hP hD hS 41 gA_41 rfl 11 (by decide) (hts (.fieldLink RX0 45 "ShapeReader$Matcher" "steps" "I") mw_0_28) (fun _ h9 => h9) rfl (by decide +kernel) rfl rfl (Nat.le_of_ble_eq_true rfl) dX0_step_33 (fun H locs hP hD hS => ?_)
  replace hP := uA_41_11 hP
  replace hD := hD0 ((stI σ 41 11 ((σ.1 41 11) + 1)))
  obtain rfl := Option.some.inj h
  exact W.vret hx hb hr (fun t ht hW => ⟨⟨(), rfl, trivial, ⟨by rw [ht]; exact hP, va_K.moved hW.alike hK, hD⟩⟩, hS.F ht⟩) hS.2.2 dX0_step_36

set_option maxRecDepth 100000 in
set_option maxHeartbeats 4000000 in
theorem b_X0_step_e {p : Program} {l : Launch} {e : Env} {s : State} {m : MethodId} {args : Array Value} {below : List Frame} {meth : Method} {c : Code} {dC : Nat → ClassId} {dI : Nat → Nat → Nat} {a : Nat → Nat} {k : Nat → ClassId} {A : Nat → Prop} {q : ST} (hC : CxA p s m args meth c dC dI k A cX0_step RX0 none 2)   {p0 : Int32} {σ : ST} (h : f_X0_step  p0 σ = some q) : GoA p l e ({ frames := 1, cells := 0, slots := 0, locals := 0 } : Room) s m args below meth c (MQ below (qAv dC dI a k A q) args s 0 0 A) dC dI a k A 2 0 σ (lv_args 0 [.ref (a 41), .int p0]) [] := by
  have hC0 := hC
  obtain ⟨hx, hb, hr, hml, hown, hts, hlocks, hA, hN, hK⟩ := hC0
  intro H locs ls hP hD hS hl
  have hD0 : ∀ σ1 : ST, va_D A (wA a k σ1) := fun σ1 => wA_D hD
  replace hl : lv_has ls 2 [(0, .ref (a 41)), (1, .int p0)] := hl
  unfold f_X0_step at h
  refine lv_aload_n hx hb dX0_step_0 rfl (lv_at hl 0 rfl) ?_
  refine va_get (D := (dC, dI)) (ci := 0) (C := RX0) (T := TX0) (N := 13) hx hb hts inlX0 hown hK hP 41 gA_41 rfl 11 (by decide) (hts (.fieldLink RX0 45 "ShapeReader$Matcher" "steps" "I") mw_0_28) (fun _ h9 => h9) rfl dX0_step_1 ?_
  refine lv_if_lt (tgt := 26) hx hb dX0_step_4 (by decide) (fun hc => ?_) (fun hc => ?_)
  · replace h := ip hc h
    exact b_X0_step_26 hC h _ _ _ hP hD hS (lv_sub hl [0] rfl)
  · replace h := iq hc h
    refine lv_aload_n hx hb dX0_step_7 rfl (lv_at hl 0 rfl) ?_
    refine va_get (D := (dC, dI)) (ci := 0) (C := RX0) (T := TX0) (N := 13) hx hb hts inlX0 hown hK hP 41 gA_41 rfl 11 (by decide) (hts (.fieldLink RX0 45 "ShapeReader$Matcher" "steps" "I") mw_0_28) (fun _ h9 => h9) rfl dX0_step_8 ?_
    refine lv_bipush (v := 32) hx hb dX0_step_11 (by decide) ?_
    refine lv_icmp_ge (tgt := 26) hx hb dX0_step_13 (by decide) (fun hc => ?_) (fun hc => ?_)
    · replace h := ip hc h
      exact b_X0_step_26 hC h _ _ _ hP hD hS (lv_sub hl [0] rfl)
    · replace h := iq hc h
      refine lv_aload_n hx hb dX0_step_16 rfl (lv_at hl 0 rfl) ?_
      refine va_get (D := (dC, dI)) (ci := 0) (C := RX0) (T := TX0) (N := 13) hx hb hts inlX0 hown hK hP 41 gA_41 rfl 10 (by decide) (hts (.fieldLink RX0 42 "ShapeReader$Matcher" "path" "[I") mw_0_27) (fun _ h9 => h9) rfl dX0_step_17 ?_
      refine lv_aload_n hx hb dX0_step_20 rfl (lv_at hl 0 rfl) ?_
      refine va_get (D := (dC, dI)) (ci := 0) (C := RX0) (T := TX0) (N := 13) hx hb hts inlX0 hown hK hP 41 gA_41 rfl 11 (by decide) (hts (.fieldLink RX0 45 "ShapeReader$Matcher" "steps" "I") mw_0_28) (fun _ h9 => h9) rfl dX0_step_21 ?_
      refine lv_iload_n hx hb dX0_step_24 rfl (lv_at hl 1 rfl) ?_
      obtain ⟨hg1, h⟩ := ig h
      refine va_iast hx hb hK hP hD hS 47 40 gA_47 yA_47 (vp_in_iff.mpr hg1) dX0_step_25 (fun H locs hP hD hS => ?_)
      replace hP := uA_47 hP
      replace hD := hD0 ((stI σ 47 (σ.1 41 11).toNatClampNeg p0))
      exact b_X0_step_26 hC h _ _ _ hP hD hS (lv_sub hl [0] rfl)

theorem s_X0_step {l : Launch} {dC : Nat → ClassId} {dI : Nat → Nat → Nat} {a : Nat → Nat} {k : Nat → ClassId} {sz : Nat} {p0 : Int32} {σ : ST} {q : ST} (h : f_X0_step  p0 σ = some q) : Met l yX0_step (.code yX0_step cX0_step 2 none :: pw) ({ frames := 1, cells := 0, slots := 0, locals := 0 } : Room) (va_Pc [.ref (a 41), .int p0] (vPre dC dI (wA a k σ) (tA k) sz)) (qAv dC dI a k (va_A (wA a k σ) sz) q) 0 0 (va_A (wA a k σ) sz) := metA (fun A => qAv dC dI a k A q) (plainFor_of_name (by decide)) (Nat.le_of_ble_eq_true rfl) (fun _ _ _ _ _ _ _ _ hC => b_X0_step_e hC h)
