theorem dX5_addField_0 : decode cX5_addField 0 = .ok (.aload_n 0, 1) := by decide +kernel
theorem dX5_addField_1 : decode cX5_addField 1 = .ok (.iload_n 1, 1) := by decide +kernel
theorem dX5_addField_2 : decode cX5_addField 2 = .ok (.invokevirtual 123, 3) := by decide +kernel
theorem dX5_addField_5 : decode cX5_addField 5 = .ok (.istore 4, 2) := by decide +kernel
theorem dX5_addField_7 : decode cX5_addField 7 = .ok (.iload_n 1, 1) := by decide +kernel
theorem dX5_addField_8 : decode cX5_addField 8 = .ok (.iload 4, 2) := by decide +kernel
theorem dX5_addField_10 : decode cX5_addField 10 = .ok (.invokestatic 75, 3) := by decide +kernel
theorem dX5_addField_13 : decode cX5_addField 13 = .ok (.ifCond .eq 65, 3) := by decide +kernel
theorem dX5_addField_16 : decode cX5_addField 16 = .ok (.aload_n 0, 1) := by decide +kernel
theorem dX5_addField_17 : decode cX5_addField 17 = .ok (.getfield 38, 3) := by decide +kernel
theorem dX5_addField_20 : decode cX5_addField 20 = .ok (.iload_n 1, 1) := by decide +kernel
theorem dX5_addField_21 : decode cX5_addField 21 = .ok (.bipush 8, 2) := by decide +kernel
theorem dX5_addField_23 : decode cX5_addField 23 = .ok (.imul, 1) := by decide +kernel
theorem dX5_addField_24 : decode cX5_addField 24 = .ok (.iload 4, 2) := by decide +kernel
theorem dX5_addField_26 : decode cX5_addField 26 = .ok (.iadd, 1) := by decide +kernel
theorem dX5_addField_27 : decode cX5_addField 27 = .ok (.lload_n 2, 1) := by decide +kernel
theorem dX5_addField_28 : decode cX5_addField 28 = .ok (.lastore, 1) := by decide +kernel
theorem dX5_addField_29 : decode cX5_addField 29 = .ok (.aload_n 0, 1) := by decide +kernel
theorem dX5_addField_30 : decode cX5_addField 30 = .ok (.getfield 41, 3) := by decide +kernel
theorem dX5_addField_33 : decode cX5_addField 33 = .ok (.iload_n 1, 1) := by decide +kernel
theorem dX5_addField_34 : decode cX5_addField 34 = .ok (.bipush 8, 2) := by decide +kernel
theorem dX5_addField_36 : decode cX5_addField 36 = .ok (.imul, 1) := by decide +kernel
theorem dX5_addField_37 : decode cX5_addField 37 = .ok (.iload 4, 2) := by decide +kernel
theorem dX5_addField_39 : decode cX5_addField 39 = .ok (.iadd, 1) := by decide +kernel
theorem dX5_addField_40 : decode cX5_addField 40 = .ok (.lconst 0, 1) := by decide +kernel
theorem dX5_addField_41 : decode cX5_addField 41 = .ok (.lastore, 1) := by decide +kernel
theorem dX5_addField_42 : decode cX5_addField 42 = .ok (.aload_n 0, 1) := by decide +kernel
theorem dX5_addField_43 : decode cX5_addField 43 = .ok (.getfield 44, 3) := by decide +kernel
theorem dX5_addField_46 : decode cX5_addField 46 = .ok (.iload_n 1, 1) := by decide +kernel
theorem dX5_addField_47 : decode cX5_addField 47 = .ok (.bipush 8, 2) := by decide +kernel
theorem dX5_addField_49 : decode cX5_addField 49 = .ok (.imul, 1) := by decide +kernel
theorem dX5_addField_50 : decode cX5_addField 50 = .ok (.iload 4, 2) := by decide +kernel
theorem dX5_addField_52 : decode cX5_addField 52 = .ok (.iadd, 1) := by decide +kernel
theorem dX5_addField_53 : decode cX5_addField 53 = .ok (.iconst (-1), 1) := by decide +kernel
theorem dX5_addField_54 : decode cX5_addField 54 = .ok (.iastore, 1) := by decide +kernel
theorem dX5_addField_55 : decode cX5_addField 55 = .ok (.aload_n 0, 1) := by decide +kernel
theorem dX5_addField_56 : decode cX5_addField 56 = .ok (.getfield 47, 3) := by decide +kernel
theorem dX5_addField_59 : decode cX5_addField 59 = .ok (.iload_n 1, 1) := by decide +kernel
theorem dX5_addField_60 : decode cX5_addField 60 = .ok (.bipush 8, 2) := by decide +kernel
theorem dX5_addField_62 : decode cX5_addField 62 = .ok (.imul, 1) := by decide +kernel
theorem dX5_addField_63 : decode cX5_addField 63 = .ok (.iload 4, 2) := by decide +kernel
theorem dX5_addField_65 : decode cX5_addField 65 = .ok (.iadd, 1) := by decide +kernel
theorem dX5_addField_66 : decode cX5_addField 66 = .ok (.lconst 0, 1) := by decide +kernel
theorem dX5_addField_67 : decode cX5_addField 67 = .ok (.lastore, 1) := by decide +kernel
theorem dX5_addField_68 : decode cX5_addField 68 = .ok (.aload_n 0, 1) := by decide +kernel
theorem dX5_addField_69 : decode cX5_addField 69 = .ok (.getfield 25, 3) := by decide +kernel
theorem dX5_addField_72 : decode cX5_addField 72 = .ok (.iload_n 1, 1) := by decide +kernel
theorem dX5_addField_73 : decode cX5_addField 73 = .ok (.dup2, 1) := by decide +kernel
theorem dX5_addField_74 : decode cX5_addField 74 = .ok (.iaload, 1) := by decide +kernel
theorem dX5_addField_75 : decode cX5_addField 75 = .ok (.iconst 1, 1) := by decide +kernel
theorem dX5_addField_76 : decode cX5_addField 76 = .ok (.iadd, 1) := by decide +kernel
theorem dX5_addField_77 : decode cX5_addField 77 = .ok (.iastore, 1) := by decide +kernel
theorem dX5_addField_78 : decode cX5_addField 78 = .ok (.return_, 1) := by decide +kernel
theorem dX5_askedPlace_0 : decode cX5_askedPlace 0 = .ok (.aload_n 0, 1) := by decide +kernel
theorem dX5_askedPlace_1 : decode cX5_askedPlace 1 = .ok (.iload_n 1, 1) := by decide +kernel
theorem dX5_askedPlace_2 : decode cX5_askedPlace 2 = .ok (.invokevirtual 79, 3) := by decide +kernel
theorem dX5_askedPlace_5 : decode cX5_askedPlace 5 = .ok (.ifCond .eq 12, 3) := by decide +kernel
theorem dX5_askedPlace_8 : decode cX5_askedPlace 8 = .ok (.aload_n 0, 1) := by decide +kernel
theorem dX5_askedPlace_9 : decode cX5_askedPlace 9 = .ok (.getfield 62, 3) := by decide +kernel
theorem dX5_askedPlace_12 : decode cX5_askedPlace 12 = .ok (.iload_n 1, 1) := by decide +kernel
theorem dX5_askedPlace_13 : decode cX5_askedPlace 13 = .ok (.iaload, 1) := by decide +kernel
theorem dX5_askedPlace_14 : decode cX5_askedPlace 14 = .ok (.goto 4, 3) := by decide +kernel
theorem dX5_askedPlace_17 : decode cX5_askedPlace 17 = .ok (.iconst 0, 1) := by decide +kernel
theorem dX5_askedPlace_18 : decode cX5_askedPlace 18 = .ok (.ireturn, 1) := by decide +kernel
theorem dX5_setAsked_0 : decode cX5_setAsked 0 = .ok (.aload_n 0, 1) := by decide +kernel
theorem dX5_setAsked_1 : decode cX5_setAsked 1 = .ok (.iload_n 1, 1) := by decide +kernel
theorem dX5_setAsked_2 : decode cX5_setAsked 2 = .ok (.invokevirtual 79, 3) := by decide +kernel
theorem dX5_setAsked_5 : decode cX5_setAsked 5 = .ok (.ifCond .eq 18, 3) := by decide +kernel
theorem dX5_setAsked_8 : decode cX5_setAsked 8 = .ok (.aload_n 0, 1) := by decide +kernel
theorem dX5_setAsked_9 : decode cX5_setAsked 9 = .ok (.getfield 59, 3) := by decide +kernel
theorem dX5_setAsked_12 : decode cX5_setAsked 12 = .ok (.iload_n 1, 1) := by decide +kernel
theorem dX5_setAsked_13 : decode cX5_setAsked 13 = .ok (.lload_n 2, 1) := by decide +kernel
theorem dX5_setAsked_14 : decode cX5_setAsked 14 = .ok (.lastore, 1) := by decide +kernel
theorem dX5_setAsked_15 : decode cX5_setAsked 15 = .ok (.aload_n 0, 1) := by decide +kernel
theorem dX5_setAsked_16 : decode cX5_setAsked 16 = .ok (.getfield 62, 3) := by decide +kernel
theorem dX5_setAsked_19 : decode cX5_setAsked 19 = .ok (.iload_n 1, 1) := by decide +kernel
theorem dX5_setAsked_20 : decode cX5_setAsked 20 = .ok (.iload 4, 2) := by decide +kernel
theorem dX5_setAsked_22 : decode cX5_setAsked 22 = .ok (.iastore, 1) := by decide +kernel
theorem dX5_setAsked_23 : decode cX5_setAsked 23 = .ok (.return_, 1) := by decide +kernel
theorem dX5_setBranchAfter_0 : decode cX5_setBranchAfter 0 = .ok (.aload_n 0, 1) := by decide +kernel
theorem dX5_setBranchAfter_1 : decode cX5_setBranchAfter 1 = .ok (.iload_n 1, 1) := by decide +kernel
theorem dX5_setBranchAfter_2 : decode cX5_setBranchAfter 2 = .ok (.invokevirtual 79, 3) := by decide +kernel
theorem dX5_setBranchAfter_5 : decode cX5_setBranchAfter 5 = .ok (.ifCond .eq 10, 3) := by decide +kernel
theorem dX5_setBranchAfter_8 : decode cX5_setBranchAfter 8 = .ok (.aload_n 0, 1) := by decide +kernel
theorem dX5_setBranchAfter_9 : decode cX5_setBranchAfter 9 = .ok (.getfield 56, 3) := by decide +kernel
theorem dX5_setBranchAfter_12 : decode cX5_setBranchAfter 12 = .ok (.iload_n 1, 1) := by decide +kernel
theorem dX5_setBranchAfter_13 : decode cX5_setBranchAfter 13 = .ok (.iload_n 2, 1) := by decide +kernel
theorem dX5_setBranchAfter_14 : decode cX5_setBranchAfter 14 = .ok (.iastore, 1) := by decide +kernel
theorem dX5_setBranchAfter_15 : decode cX5_setBranchAfter 15 = .ok (.return_, 1) := by decide +kernel
theorem dX5_setElse_0 : decode cX5_setElse 0 = .ok (.iload_n 1, 1) := by decide +kernel
theorem dX5_setElse_1 : decode cX5_setElse 1 = .ok (.iload_n 2, 1) := by decide +kernel
theorem dX5_setElse_2 : decode cX5_setElse 2 = .ok (.invokestatic 75, 3) := by decide +kernel
theorem dX5_setElse_5 : decode cX5_setElse 5 = .ok (.ifCond .eq 27, 3) := by decide +kernel
theorem dX5_setElse_8 : decode cX5_setElse 8 = .ok (.aload_n 0, 1) := by decide +kernel
theorem dX5_setElse_9 : decode cX5_setElse 9 = .ok (.getfield 32, 3) := by decide +kernel
theorem dX5_setElse_12 : decode cX5_setElse 12 = .ok (.iload_n 1, 1) := by decide +kernel
theorem dX5_setElse_13 : decode cX5_setElse 13 = .ok (.dup2, 1) := by decide +kernel
theorem dX5_setElse_14 : decode cX5_setElse 14 = .ok (.iaload, 1) := by decide +kernel
theorem dX5_setElse_15 : decode cX5_setElse 15 = .ok (.iconst 1, 1) := by decide +kernel
theorem dX5_setElse_16 : decode cX5_setElse 16 = .ok (.iload_n 2, 1) := by decide +kernel
theorem dX5_setElse_17 : decode cX5_setElse 17 = .ok (.ishl, 1) := by decide +kernel
theorem dX5_setElse_18 : decode cX5_setElse 18 = .ok (.ior, 1) := by decide +kernel
theorem dX5_setElse_19 : decode cX5_setElse 19 = .ok (.iastore, 1) := by decide +kernel
theorem dX5_setElse_20 : decode cX5_setElse 20 = .ok (.aload_n 0, 1) := by decide +kernel
theorem dX5_setElse_21 : decode cX5_setElse 21 = .ok (.getfield 47, 3) := by decide +kernel
theorem dX5_setElse_24 : decode cX5_setElse 24 = .ok (.iload_n 1, 1) := by decide +kernel
theorem dX5_setElse_25 : decode cX5_setElse 25 = .ok (.bipush 8, 2) := by decide +kernel
theorem dX5_setElse_27 : decode cX5_setElse 27 = .ok (.imul, 1) := by decide +kernel
theorem dX5_setElse_28 : decode cX5_setElse 28 = .ok (.iload_n 2, 1) := by decide +kernel
theorem dX5_setElse_29 : decode cX5_setElse 29 = .ok (.iadd, 1) := by decide +kernel
theorem dX5_setElse_30 : decode cX5_setElse 30 = .ok (.lload_n 3, 1) := by decide +kernel
theorem dX5_setElse_31 : decode cX5_setElse 31 = .ok (.lastore, 1) := by decide +kernel
theorem dX5_setElse_32 : decode cX5_setElse 32 = .ok (.return_, 1) := by decide +kernel
theorem dX5_setFormerName_0 : decode cX5_setFormerName 0 = .ok (.iload_n 1, 1) := by decide +kernel
theorem dX5_setFormerName_1 : decode cX5_setFormerName 1 = .ok (.iload_n 2, 1) := by decide +kernel
theorem dX5_setFormerName_2 : decode cX5_setFormerName 2 = .ok (.invokestatic 75, 3) := by decide +kernel
theorem dX5_setFormerName_5 : decode cX5_setFormerName 5 = .ok (.ifCond .eq 15, 3) := by decide +kernel
theorem dX5_setFormerName_8 : decode cX5_setFormerName 8 = .ok (.aload_n 0, 1) := by decide +kernel
theorem dX5_setFormerName_9 : decode cX5_setFormerName 9 = .ok (.getfield 41, 3) := by decide +kernel
theorem dX5_setFormerName_12 : decode cX5_setFormerName 12 = .ok (.iload_n 1, 1) := by decide +kernel
theorem dX5_setFormerName_13 : decode cX5_setFormerName 13 = .ok (.bipush 8, 2) := by decide +kernel
theorem dX5_setFormerName_15 : decode cX5_setFormerName 15 = .ok (.imul, 1) := by decide +kernel
theorem dX5_setFormerName_16 : decode cX5_setFormerName 16 = .ok (.iload_n 2, 1) := by decide +kernel
theorem dX5_setFormerName_17 : decode cX5_setFormerName 17 = .ok (.iadd, 1) := by decide +kernel
theorem dX5_setFormerName_18 : decode cX5_setFormerName 18 = .ok (.lload_n 3, 1) := by decide +kernel
theorem dX5_setFormerName_19 : decode cX5_setFormerName 19 = .ok (.lastore, 1) := by decide +kernel
theorem dX5_setFormerName_20 : decode cX5_setFormerName 20 = .ok (.return_, 1) := by decide +kernel
theorem dX5_setInner_0 : decode cX5_setInner 0 = .ok (.aload_n 0, 1) := by decide +kernel
theorem dX5_setInner_1 : decode cX5_setInner 1 = .ok (.iload_n 1, 1) := by decide +kernel
theorem dX5_setInner_2 : decode cX5_setInner 2 = .ok (.invokevirtual 79, 3) := by decide +kernel
theorem dX5_setInner_5 : decode cX5_setInner 5 = .ok (.ifCond .eq 10, 3) := by decide +kernel
theorem dX5_setInner_8 : decode cX5_setInner 8 = .ok (.aload_n 0, 1) := by decide +kernel
theorem dX5_setInner_9 : decode cX5_setInner 9 = .ok (.getfield 53, 3) := by decide +kernel
theorem dX5_setInner_12 : decode cX5_setInner 12 = .ok (.iload_n 1, 1) := by decide +kernel
theorem dX5_setInner_13 : decode cX5_setInner 13 = .ok (.iload_n 2, 1) := by decide +kernel
theorem dX5_setInner_14 : decode cX5_setInner 14 = .ok (.iastore, 1) := by decide +kernel
theorem dX5_setInner_15 : decode cX5_setInner 15 = .ok (.return_, 1) := by decide +kernel
theorem dX5_setType_0 : decode cX5_setType 0 = .ok (.iload_n 1, 1) := by decide +kernel
theorem dX5_setType_1 : decode cX5_setType 1 = .ok (.iload_n 2, 1) := by decide +kernel
theorem dX5_setType_2 : decode cX5_setType 2 = .ok (.invokestatic 75, 3) := by decide +kernel
theorem dX5_setType_5 : decode cX5_setType 5 = .ok (.ifCond .eq 15, 3) := by decide +kernel
theorem dX5_setType_8 : decode cX5_setType 8 = .ok (.aload_n 0, 1) := by decide +kernel
theorem dX5_setType_9 : decode cX5_setType 9 = .ok (.getfield 44, 3) := by decide +kernel
theorem dX5_setType_12 : decode cX5_setType 12 = .ok (.iload_n 1, 1) := by decide +kernel
theorem dX5_setType_13 : decode cX5_setType 13 = .ok (.bipush 8, 2) := by decide +kernel
theorem dX5_setType_15 : decode cX5_setType 15 = .ok (.imul, 1) := by decide +kernel
theorem dX5_setType_16 : decode cX5_setType 16 = .ok (.iload_n 2, 1) := by decide +kernel
theorem dX5_setType_17 : decode cX5_setType 17 = .ok (.iadd, 1) := by decide +kernel
theorem dX5_setType_18 : decode cX5_setType 18 = .ok (.iload_n 3, 1) := by decide +kernel
theorem dX5_setType_19 : decode cX5_setType 19 = .ok (.iastore, 1) := by decide +kernel
theorem dX5_setType_20 : decode cX5_setType 20 = .ok (.return_, 1) := by decide +kernel
theorem dX6_beginsLiteral_0 : decode cX6_beginsLiteral 0 = .ok (.aload_n 0, 1) := by decide +kernel
theorem dX6_beginsLiteral_1 : decode cX6_beginsLiteral 1 = .ok (.getfield 22, 3) := by decide +kernel
theorem dX6_beginsLiteral_4 : decode cX6_beginsLiteral 4 = .ok (.iconst 4, 1) := by decide +kernel
theorem dX6_beginsLiteral_5 : decode cX6_beginsLiteral 5 = .ok (.if_icmp .eq 47, 3) := by decide +kernel
theorem dX6_beginsLiteral_8 : decode cX6_beginsLiteral 8 = .ok (.aload_n 0, 1) := by decide +kernel
theorem dX6_beginsLiteral_9 : decode cX6_beginsLiteral 9 = .ok (.getfield 22, 3) := by decide +kernel
theorem dX6_beginsLiteral_12 : decode cX6_beginsLiteral 12 = .ok (.iconst 5, 1) := by decide +kernel
theorem dX6_beginsLiteral_13 : decode cX6_beginsLiteral 13 = .ok (.if_icmp .eq 39, 3) := by decide +kernel
theorem dX6_beginsLiteral_16 : decode cX6_beginsLiteral 16 = .ok (.aload_n 0, 1) := by decide +kernel
theorem dX6_beginsLiteral_17 : decode cX6_beginsLiteral 17 = .ok (.getfield 22, 3) := by decide +kernel
theorem dX6_beginsLiteral_20 : decode cX6_beginsLiteral 20 = .ok (.bipush 91, 2) := by decide +kernel
theorem dX6_beginsLiteral_22 : decode cX6_beginsLiteral 22 = .ok (.if_icmp .eq 30, 3) := by decide +kernel
theorem dX6_beginsLiteral_25 : decode cX6_beginsLiteral 25 = .ok (.aload_n 0, 1) := by decide +kernel
theorem dX6_beginsLiteral_26 : decode cX6_beginsLiteral 26 = .ok (.bipush 7, 2) := by decide +kernel
theorem dX6_beginsLiteral_28 : decode cX6_beginsLiteral 28 = .ok (.invokevirtual 103, 3) := by decide +kernel
theorem dX6_beginsLiteral_31 : decode cX6_beginsLiteral 31 = .ok (.ifCond .ne 21, 3) := by decide +kernel
theorem dX6_beginsLiteral_34 : decode cX6_beginsLiteral 34 = .ok (.aload_n 0, 1) := by decide +kernel
theorem dX6_beginsLiteral_35 : decode cX6_beginsLiteral 35 = .ok (.bipush 13, 2) := by decide +kernel
theorem dX6_beginsLiteral_37 : decode cX6_beginsLiteral 37 = .ok (.invokevirtual 103, 3) := by decide +kernel
theorem dX6_beginsLiteral_40 : decode cX6_beginsLiteral 40 = .ok (.ifCond .ne 12, 3) := by decide +kernel
theorem dX6_beginsLiteral_43 : decode cX6_beginsLiteral 43 = .ok (.aload_n 0, 1) := by decide +kernel
theorem dX6_beginsLiteral_44 : decode cX6_beginsLiteral 44 = .ok (.bipush 14, 2) := by decide +kernel
theorem dX6_beginsLiteral_46 : decode cX6_beginsLiteral 46 = .ok (.invokevirtual 103, 3) := by decide +kernel
theorem dX6_beginsLiteral_49 : decode cX6_beginsLiteral 49 = .ok (.ifCond .eq 7, 3) := by decide +kernel
theorem dX6_beginsLiteral_52 : decode cX6_beginsLiteral 52 = .ok (.iconst 1, 1) := by decide +kernel
theorem dX6_beginsLiteral_53 : decode cX6_beginsLiteral 53 = .ok (.goto 4, 3) := by decide +kernel
theorem dX6_beginsLiteral_56 : decode cX6_beginsLiteral 56 = .ok (.iconst 0, 1) := by decide +kernel
theorem dX6_beginsLiteral_57 : decode cX6_beginsLiteral 57 = .ok (.ireturn, 1) := by decide +kernel
theorem dX6_faultAnswer_0 : decode cX6_faultAnswer 0 = .ok (.bipush (-2), 2) := by decide +kernel
theorem dX6_faultAnswer_2 : decode cX6_faultAnswer 2 = .ok (.bipush 8, 2) := by decide +kernel
theorem dX6_faultAnswer_4 : decode cX6_faultAnswer 4 = .ok (.aload_n 0, 1) := by decide +kernel
theorem dX6_faultAnswer_5 : decode cX6_faultAnswer 5 = .ok (.getfield 51, 3) := by decide +kernel
theorem dX6_faultAnswer_8 : decode cX6_faultAnswer 8 = .ok (.imul, 1) := by decide +kernel
theorem dX6_faultAnswer_9 : decode cX6_faultAnswer 9 = .ok (.aload_n 0, 1) := by decide +kernel
theorem dX6_faultAnswer_10 : decode cX6_faultAnswer 10 = .ok (.getfield 48, 3) := by decide +kernel
theorem dX6_faultAnswer_13 : decode cX6_faultAnswer 13 = .ok (.iadd, 1) := by decide +kernel
theorem dX6_faultAnswer_14 : decode cX6_faultAnswer 14 = .ok (.isub, 1) := by decide +kernel
theorem dX6_faultAnswer_15 : decode cX6_faultAnswer 15 = .ok (.ireturn, 1) := by decide +kernel
theorem dX6_isDigit_0 : decode cX6_isDigit 0 = .ok (.iload_n 0, 1) := by decide +kernel
theorem dX6_isDigit_1 : decode cX6_isDigit 1 = .ok (.bipush 48, 2) := by decide +kernel
theorem dX6_isDigit_3 : decode cX6_isDigit 3 = .ok (.if_icmp .lt 13, 3) := by decide +kernel
theorem dX6_isDigit_6 : decode cX6_isDigit 6 = .ok (.iload_n 0, 1) := by decide +kernel
theorem dX6_isDigit_7 : decode cX6_isDigit 7 = .ok (.bipush 57, 2) := by decide +kernel
theorem dX6_isDigit_9 : decode cX6_isDigit 9 = .ok (.if_icmp .gt 7, 3) := by decide +kernel
theorem dX6_isDigit_12 : decode cX6_isDigit 12 = .ok (.iconst 1, 1) := by decide +kernel
theorem dX6_isDigit_13 : decode cX6_isDigit 13 = .ok (.goto 4, 3) := by decide +kernel
theorem dX6_isDigit_16 : decode cX6_isDigit 16 = .ok (.iconst 0, 1) := by decide +kernel
theorem dX6_isDigit_17 : decode cX6_isDigit 17 = .ok (.ireturn, 1) := by decide +kernel
theorem dX6_isKeyword_0 : decode cX6_isKeyword 0 = .ok (.aload_n 0, 1) := by decide +kernel
theorem dX6_isKeyword_1 : decode cX6_isKeyword 1 = .ok (.getfield 22, 3) := by decide +kernel
theorem dX6_isKeyword_4 : decode cX6_isKeyword 4 = .ok (.iconst 2, 1) := by decide +kernel
theorem dX6_isKeyword_5 : decode cX6_isKeyword 5 = .ok (.if_icmp .ne 15, 3) := by decide +kernel
theorem dX6_isKeyword_8 : decode cX6_isKeyword 8 = .ok (.aload_n 0, 1) := by decide +kernel
theorem dX6_isKeyword_9 : decode cX6_isKeyword 9 = .ok (.getfield 28, 3) := by decide +kernel
theorem dX6_isKeyword_12 : decode cX6_isKeyword 12 = .ok (.iload_n 1, 1) := by decide +kernel
theorem dX6_isKeyword_13 : decode cX6_isKeyword 13 = .ok (.if_icmp .ne 7, 3) := by decide +kernel
theorem dX6_isKeyword_16 : decode cX6_isKeyword 16 = .ok (.iconst 1, 1) := by decide +kernel
theorem dX6_isKeyword_17 : decode cX6_isKeyword 17 = .ok (.goto 4, 3) := by decide +kernel
theorem dX6_isKeyword_20 : decode cX6_isKeyword 20 = .ok (.iconst 0, 1) := by decide +kernel
theorem dX6_isKeyword_21 : decode cX6_isKeyword 21 = .ok (.ireturn, 1) := by decide +kernel
theorem dX6_isLetter_0 : decode cX6_isLetter 0 = .ok (.iload_n 0, 1) := by decide +kernel
theorem dX6_isLetter_1 : decode cX6_isLetter 1 = .ok (.bipush 97, 2) := by decide +kernel
theorem dX6_isLetter_3 : decode cX6_isLetter 3 = .ok (.if_icmp .lt 13, 3) := by decide +kernel
theorem dX6_isLetter_6 : decode cX6_isLetter 6 = .ok (.iload_n 0, 1) := by decide +kernel
theorem dX6_isLetter_7 : decode cX6_isLetter 7 = .ok (.bipush 122, 2) := by decide +kernel
theorem dX6_isLetter_9 : decode cX6_isLetter 9 = .ok (.if_icmp .gt 7, 3) := by decide +kernel
theorem dX6_isLetter_12 : decode cX6_isLetter 12 = .ok (.iconst 1, 1) := by decide +kernel
theorem dX6_isLetter_13 : decode cX6_isLetter 13 = .ok (.goto 4, 3) := by decide +kernel
theorem dX6_isLetter_16 : decode cX6_isLetter 16 = .ok (.iconst 0, 1) := by decide +kernel
theorem dX6_isLetter_17 : decode cX6_isLetter 17 = .ok (.ireturn, 1) := by decide +kernel
theorem dX6_refuseAt_0 : decode cX6_refuseAt 0 = .ok (.aload_n 0, 1) := by decide +kernel
theorem dX6_refuseAt_1 : decode cX6_refuseAt 1 = .ok (.getfield 48, 3) := by decide +kernel
theorem dX6_refuseAt_4 : decode cX6_refuseAt 4 = .ok (.ifCond .ne 13, 3) := by decide +kernel
theorem dX6_refuseAt_7 : decode cX6_refuseAt 7 = .ok (.aload_n 0, 1) := by decide +kernel
theorem dX6_refuseAt_8 : decode cX6_refuseAt 8 = .ok (.iload_n 1, 1) := by decide +kernel
theorem dX6_refuseAt_9 : decode cX6_refuseAt 9 = .ok (.putfield 48, 3) := by decide +kernel
theorem dX6_refuseAt_12 : decode cX6_refuseAt 12 = .ok (.aload_n 0, 1) := by decide +kernel
theorem dX6_refuseAt_13 : decode cX6_refuseAt 13 = .ok (.iload_n 2, 1) := by decide +kernel
theorem dX6_refuseAt_14 : decode cX6_refuseAt 14 = .ok (.putfield 51, 3) := by decide +kernel
theorem dX6_refuseAt_17 : decode cX6_refuseAt 17 = .ok (.iconst 0, 1) := by decide +kernel
theorem dX6_refuseAt_18 : decode cX6_refuseAt 18 = .ok (.ireturn, 1) := by decide +kernel
theorem dX6_signAt_0 : decode cX6_signAt 0 = .ok (.iload_n 1, 1) := by decide +kernel
theorem dX6_signAt_1 : decode cX6_signAt 1 = .ok (.ifCond .lt 33, 3) := by decide +kernel
theorem dX6_signAt_4 : decode cX6_signAt 4 = .ok (.iload_n 1, 1) := by decide +kernel
theorem dX6_signAt_5 : decode cX6_signAt 5 = .ok (.aload_n 0, 1) := by decide +kernel
theorem dX6_signAt_6 : decode cX6_signAt 6 = .ok (.getfield 15, 3) := by decide +kernel
theorem dX6_signAt_9 : decode cX6_signAt 9 = .ok (.if_icmp .ge 25, 3) := by decide +kernel
theorem dX6_signAt_12 : decode cX6_signAt 12 = .ok (.iload_n 1, 1) := by decide +kernel
theorem dX6_signAt_13 : decode cX6_signAt 13 = .ok (.aload_n 0, 1) := by decide +kernel
theorem dX6_signAt_14 : decode cX6_signAt 14 = .ok (.getfield 54, 3) := by decide +kernel
theorem dX6_signAt_17 : decode cX6_signAt 17 = .ok (.arraylength, 1) := by decide +kernel
theorem dX6_signAt_18 : decode cX6_signAt 18 = .ok (.if_icmp .ge 16, 3) := by decide +kernel
theorem dX6_signAt_21 : decode cX6_signAt 21 = .ok (.aload_n 0, 1) := by decide +kernel
theorem dX6_signAt_22 : decode cX6_signAt 22 = .ok (.getfield 54, 3) := by decide +kernel
theorem dX6_signAt_25 : decode cX6_signAt 25 = .ok (.iload_n 1, 1) := by decide +kernel
theorem dX6_signAt_26 : decode cX6_signAt 26 = .ok (.baload, 1) := by decide +kernel
theorem dX6_signAt_27 : decode cX6_signAt 27 = .ok (.sipush 255, 3) := by decide +kernel
theorem dX6_signAt_30 : decode cX6_signAt 30 = .ok (.iand, 1) := by decide +kernel
theorem dX6_signAt_31 : decode cX6_signAt 31 = .ok (.goto 4, 3) := by decide +kernel
theorem dX6_signAt_34 : decode cX6_signAt 34 = .ok (.iconst 0, 1) := by decide +kernel
theorem dX6_signAt_35 : decode cX6_signAt 35 = .ok (.ireturn, 1) := by decide +kernel
theorem dX6_sortBegun_0 : decode cX6_sortBegun 0 = .ok (.aload_n 0, 1) := by decide +kernel
theorem dX6_sortBegun_1 : decode cX6_sortBegun 1 = .ok (.getfield 22, 3) := by decide +kernel
theorem dX6_sortBegun_4 : decode cX6_sortBegun 4 = .ok (.iconst 3, 1) := by decide +kernel
theorem dX6_sortBegun_5 : decode cX6_sortBegun 5 = .ok (.if_icmp .ne 6, 3) := by decide +kernel
theorem dX6_sortBegun_8 : decode cX6_sortBegun 8 = .ok (.bipush 7, 2) := by decide +kernel
theorem dX6_sortBegun_10 : decode cX6_sortBegun 10 = .ok (.ireturn, 1) := by decide +kernel
theorem dX6_sortBegun_11 : decode cX6_sortBegun 11 = .ok (.aload_n 0, 1) := by decide +kernel
theorem dX6_sortBegun_12 : decode cX6_sortBegun 12 = .ok (.getfield 22, 3) := by decide +kernel
theorem dX6_sortBegun_15 : decode cX6_sortBegun 15 = .ok (.iconst 2, 1) := by decide +kernel
theorem dX6_sortBegun_16 : decode cX6_sortBegun 16 = .ok (.if_icmp .eq 5, 3) := by decide +kernel
theorem dX6_sortBegun_19 : decode cX6_sortBegun 19 = .ok (.iconst (-1), 1) := by decide +kernel
theorem dX6_sortBegun_20 : decode cX6_sortBegun 20 = .ok (.ireturn, 1) := by decide +kernel
theorem dX6_sortBegun_21 : decode cX6_sortBegun 21 = .ok (.aload_n 0, 1) := by decide +kernel
theorem dX6_sortBegun_22 : decode cX6_sortBegun 22 = .ok (.getfield 28, 3) := by decide +kernel
theorem dX6_sortBegun_25 : decode cX6_sortBegun 25 = .ok (.iconst 4, 1) := by decide +kernel
theorem dX6_sortBegun_26 : decode cX6_sortBegun 26 = .ok (.if_icmp .ne 6, 3) := by decide +kernel
theorem dX6_sortBegun_29 : decode cX6_sortBegun 29 = .ok (.bipush 6, 2) := by decide +kernel
theorem dX6_sortBegun_31 : decode cX6_sortBegun 31 = .ok (.ireturn, 1) := by decide +kernel
theorem dX6_sortBegun_32 : decode cX6_sortBegun 32 = .ok (.aload_n 0, 1) := by decide +kernel
theorem dX6_sortBegun_33 : decode cX6_sortBegun 33 = .ok (.getfield 28, 3) := by decide +kernel
theorem dX6_sortBegun_36 : decode cX6_sortBegun 36 = .ok (.iconst 5, 1) := by decide +kernel
theorem dX6_sortBegun_37 : decode cX6_sortBegun 37 = .ok (.if_icmp .ne 6, 3) := by decide +kernel
theorem dX6_sortBegun_40 : decode cX6_sortBegun 40 = .ok (.bipush 8, 2) := by decide +kernel
theorem dX6_sortBegun_42 : decode cX6_sortBegun 42 = .ok (.ireturn, 1) := by decide +kernel
theorem dX6_sortBegun_43 : decode cX6_sortBegun 43 = .ok (.aload_n 0, 1) := by decide +kernel
theorem dX6_sortBegun_44 : decode cX6_sortBegun 44 = .ok (.getfield 28, 3) := by decide +kernel
theorem dX6_sortBegun_47 : decode cX6_sortBegun 47 = .ok (.bipush 7, 2) := by decide +kernel
theorem dX6_sortBegun_49 : decode cX6_sortBegun 49 = .ok (.if_icmp .lt 22, 3) := by decide +kernel
theorem dX6_sortBegun_52 : decode cX6_sortBegun 52 = .ok (.aload_n 0, 1) := by decide +kernel
theorem dX6_sortBegun_53 : decode cX6_sortBegun 53 = .ok (.getfield 28, 3) := by decide +kernel
theorem dX6_sortBegun_56 : decode cX6_sortBegun 56 = .ok (.bipush 12, 2) := by decide +kernel
theorem dX6_sortBegun_58 : decode cX6_sortBegun 58 = .ok (.if_icmp .gt 13, 3) := by decide +kernel
theorem dX6_sortBegun_61 : decode cX6_sortBegun 61 = .ok (.aload_n 0, 1) := by decide +kernel
theorem dX6_sortBegun_62 : decode cX6_sortBegun 62 = .ok (.getfield 28, 3) := by decide +kernel
theorem dX6_sortBegun_65 : decode cX6_sortBegun 65 = .ok (.bipush 7, 2) := by decide +kernel
theorem dX6_sortBegun_67 : decode cX6_sortBegun 67 = .ok (.isub, 1) := by decide +kernel
theorem dX6_sortBegun_68 : decode cX6_sortBegun 68 = .ok (.goto 4, 3) := by decide +kernel
theorem dX6_sortBegun_71 : decode cX6_sortBegun 71 = .ok (.iconst (-1), 1) := by decide +kernel
theorem dX6_sortBegun_72 : decode cX6_sortBegun 72 = .ok (.ireturn, 1) := by decide +kernel
theorem dX6_whole_0 : decode cX6_whole 0 = .ok (.aload_n 0, 1) := by decide +kernel
theorem dX6_whole_1 : decode cX6_whole 1 = .ok (.getfield 38, 3) := by decide +kernel
theorem dX6_whole_4 : decode cX6_whole 4 = .ok (.ifCond .eq 11, 3) := by decide +kernel
theorem dX6_whole_7 : decode cX6_whole 7 = .ok (.aload_n 0, 1) := by decide +kernel
theorem dX6_whole_8 : decode cX6_whole 8 = .ok (.getfield 35, 3) := by decide +kernel
theorem dX6_whole_11 : decode cX6_whole 11 = .ok (.lneg, 1) := by decide +kernel
theorem dX6_whole_12 : decode cX6_whole 12 = .ok (.goto 7, 3) := by decide +kernel
theorem dX6_whole_15 : decode cX6_whole 15 = .ok (.aload_n 0, 1) := by decide +kernel
theorem dX6_whole_16 : decode cX6_whole 16 = .ok (.getfield 35, 3) := by decide +kernel
theorem dX6_whole_19 : decode cX6_whole 19 = .ok (.lreturn, 1) := by decide +kernel
theorem dX7_clear_0 : decode cX7_clear 0 = .ok (.aload_n 0, 1) := by decide +kernel
theorem dX7_clear_1 : decode cX7_clear 1 = .ok (.iconst 0, 1) := by decide +kernel
theorem dX7_clear_2 : decode cX7_clear 2 = .ok (.putfield 9, 3) := by decide +kernel
theorem dX7_clear_5 : decode cX7_clear 5 = .ok (.return_, 1) := by decide +kernel
theorem dX7_isRow_0 : decode cX7_isRow 0 = .ok (.iload_n 1, 1) := by decide +kernel
theorem dX7_isRow_1 : decode cX7_isRow 1 = .ok (.ifCond .lt 23, 3) := by decide +kernel
theorem dX7_isRow_4 : decode cX7_isRow 4 = .ok (.iload_n 1, 1) := by decide +kernel
theorem dX7_isRow_5 : decode cX7_isRow 5 = .ok (.aload_n 0, 1) := by decide +kernel
theorem dX7_isRow_6 : decode cX7_isRow 6 = .ok (.getfield 9, 3) := by decide +kernel
theorem dX7_isRow_9 : decode cX7_isRow 9 = .ok (.if_icmp .ge 15, 3) := by decide +kernel
theorem dX7_isRow_12 : decode cX7_isRow 12 = .ok (.iload_n 1, 1) := by decide +kernel
theorem dX7_isRow_13 : decode cX7_isRow 13 = .ok (.aload_n 0, 1) := by decide +kernel
theorem dX7_isRow_14 : decode cX7_isRow 14 = .ok (.getfield 15, 3) := by decide +kernel
theorem dX7_isRow_17 : decode cX7_isRow 17 = .ok (.if_icmp .ge 7, 3) := by decide +kernel
theorem dX7_isRow_20 : decode cX7_isRow 20 = .ok (.iconst 1, 1) := by decide +kernel
theorem dX7_isRow_21 : decode cX7_isRow 21 = .ok (.goto 4, 3) := by decide +kernel
theorem dX7_isRow_24 : decode cX7_isRow 24 = .ok (.iconst 0, 1) := by decide +kernel
theorem dX7_isRow_25 : decode cX7_isRow 25 = .ok (.ireturn, 1) := by decide +kernel
theorem dX7_setFilled_0 : decode cX7_setFilled 0 = .ok (.aload_n 0, 1) := by decide +kernel
theorem dX7_setFilled_1 : decode cX7_setFilled 1 = .ok (.iload_n 1, 1) := by decide +kernel
theorem dX7_setFilled_2 : decode cX7_setFilled 2 = .ok (.invokevirtual 54, 3) := by decide +kernel
theorem dX7_setFilled_5 : decode cX7_setFilled 5 = .ok (.ifCond .eq 10, 3) := by decide +kernel
theorem dX7_setFilled_8 : decode cX7_setFilled 8 = .ok (.aload_n 0, 1) := by decide +kernel
theorem dX7_setFilled_9 : decode cX7_setFilled 9 = .ok (.getfield 31, 3) := by decide +kernel
theorem dX7_setFilled_12 : decode cX7_setFilled 12 = .ok (.iload_n 1, 1) := by decide +kernel
theorem dX7_setFilled_13 : decode cX7_setFilled 13 = .ok (.iconst 1, 1) := by decide +kernel
theorem dX7_setFilled_14 : decode cX7_setFilled 14 = .ok (.bastore, 1) := by decide +kernel
theorem dX7_setFilled_15 : decode cX7_setFilled 15 = .ok (.return_, 1) := by decide +kernel
theorem dX7_setWorth_0 : decode cX7_setWorth 0 = .ok (.aload_n 0, 1) := by decide +kernel
theorem dX7_setWorth_1 : decode cX7_setWorth 1 = .ok (.iload_n 1, 1) := by decide +kernel
theorem dX7_setWorth_2 : decode cX7_setWorth 2 = .ok (.invokevirtual 54, 3) := by decide +kernel
theorem dX7_setWorth_5 : decode cX7_setWorth 5 = .ok (.ifCond .eq 17, 3) := by decide +kernel
theorem dX7_setWorth_8 : decode cX7_setWorth 8 = .ok (.aload_n 0, 1) := by decide +kernel
theorem dX7_setWorth_9 : decode cX7_setWorth 9 = .ok (.getfield 28, 3) := by decide +kernel
theorem dX7_setWorth_12 : decode cX7_setWorth 12 = .ok (.iload_n 1, 1) := by decide +kernel
theorem dX7_setWorth_13 : decode cX7_setWorth 13 = .ok (.iload_n 2, 1) := by decide +kernel
theorem dX7_setWorth_14 : decode cX7_setWorth 14 = .ok (.iastore, 1) := by decide +kernel
theorem dX7_setWorth_15 : decode cX7_setWorth 15 = .ok (.aload_n 0, 1) := by decide +kernel
theorem dX7_setWorth_16 : decode cX7_setWorth 16 = .ok (.getfield 35, 3) := by decide +kernel
theorem dX7_setWorth_19 : decode cX7_setWorth 19 = .ok (.iload_n 1, 1) := by decide +kernel
theorem dX7_setWorth_20 : decode cX7_setWorth 20 = .ok (.lload_n 3, 1) := by decide +kernel
theorem dX7_setWorth_21 : decode cX7_setWorth 21 = .ok (.lastore, 1) := by decide +kernel
theorem dX7_setWorth_22 : decode cX7_setWorth 22 = .ok (.return_, 1) := by decide +kernel
theorem dX7_sortAt_0 : decode cX7_sortAt 0 = .ok (.aload_n 0, 1) := by decide +kernel
theorem dX7_sortAt_1 : decode cX7_sortAt 1 = .ok (.iload_n 1, 1) := by decide +kernel
theorem dX7_sortAt_2 : decode cX7_sortAt 2 = .ok (.invokevirtual 54, 3) := by decide +kernel
theorem dX7_sortAt_5 : decode cX7_sortAt 5 = .ok (.ifCond .eq 12, 3) := by decide +kernel
theorem dX7_sortAt_8 : decode cX7_sortAt 8 = .ok (.aload_n 0, 1) := by decide +kernel
theorem dX7_sortAt_9 : decode cX7_sortAt 9 = .ok (.getfield 18, 3) := by decide +kernel
theorem dX7_sortAt_12 : decode cX7_sortAt 12 = .ok (.iload_n 1, 1) := by decide +kernel
theorem dX7_sortAt_13 : decode cX7_sortAt 13 = .ok (.iaload, 1) := by decide +kernel
theorem dX7_sortAt_14 : decode cX7_sortAt 14 = .ok (.goto 4, 3) := by decide +kernel
theorem dX7_sortAt_17 : decode cX7_sortAt 17 = .ok (.iconst (-1), 1) := by decide +kernel
theorem dX7_sortAt_18 : decode cX7_sortAt 18 = .ok (.ireturn, 1) := by decide +kernel
set_option maxRecDepth 100000 in
set_option maxHeartbeats 4000000 in
theorem s_X5_addField (l : Launch) (dC : Nat → ClassId) (dI : Nat → Nat → Nat) (h0 : Nat) (xx5_0 : Int32) (xx5_1 : Int32) (ax5_2 : Nat) (ax5_3 : Nat) (ax5_4 : Nat) (cx5_4 : ClassId) (fx5_4 : Nat → Int32) (ax5_5 : Nat) (ax5_6 : Nat) (ax5_7 : Nat) (ax5_8 : Nat) (cx5_8 : ClassId) (fx5_8 : Nat → Int64) (ax5_9 : Nat) (cx5_9 : ClassId) (fx5_9 : Nat → Int64) (ax5_10 : Nat) (cx5_10 : ClassId) (fx5_10 : Nat → Int32) (ax5_11 : Nat) (cx5_11 : ClassId) (fx5_11 : Nat → Int64) (ax5_12 : Nat) (ax5_13 : Nat) (ax5_14 : Nat) (ax5_15 : Nat) (ax5_16 : Nat) (p0 : Int32) (p1 : Int64) (hi_xx5_0 : (0 : Int) ≤ xx5_0.toInt ∧ xx5_0.toInt ≤ (6 : Int)) (hi_xx5_1 : (0 : Int) ≤ xx5_1.toInt ∧ xx5_1.toInt ≤ (262 : Int)) (sz : Nat) : Met l yX5_addField (.code yX5_addField cX5_addField 5 none :: pw) ({ frames := 2, cells := 0, slots := 0, locals := 41 }) (va_Pc [.ref h0, .int p0, .long p1] (vPre dC dI [(h0, .inr (5, [.int xx5_0, .int xx5_1, .ref ax5_2, .ref ax5_3, .ref ax5_4, .ref ax5_5, .ref ax5_6, .ref ax5_7, .ref ax5_8, .ref ax5_9, .ref ax5_10, .ref ax5_11, .ref ax5_12, .ref ax5_13, .ref ax5_14, .ref ax5_15, .ref ax5_16])), (ax5_4, .inl (cx5_4, 36, .inl fx5_4)), (ax5_8, .inl (cx5_8, 288, .inr (.inl fx5_8))), (ax5_9, .inl (cx5_9, 288, .inr (.inl fx5_9))), (ax5_10, .inl (cx5_10, 288, .inl fx5_10)), (ax5_11, .inl (cx5_11, 288, .inr (.inl fx5_11)))] [(cx5_4, .int), (cx5_8, .long), (cx5_9, .long), (cx5_10, .int), (cx5_11, .long)] sz)) (va_Qv (fun (_ : Unit) => True) (fun (_ : Unit) t => ∃ (z1 : Nat → Int32), ∃ (z2 : Nat → Int64), ∃ (z3 : Nat → Int64), ∃ (z4 : Nat → Int32), ∃ (z5 : Nat → Int64), vPst dC dI (va_A [(h0, .inr (5, [.int xx5_0, .int xx5_1, .ref ax5_2, .ref ax5_3, .ref ax5_4, .ref ax5_5, .ref ax5_6, .ref ax5_7, .ref ax5_8, .ref ax5_9, .ref ax5_10, .ref ax5_11, .ref ax5_12, .ref ax5_13, .ref ax5_14, .ref ax5_15, .ref ax5_16])), (ax5_4, .inl (cx5_4, 36, .inl fx5_4)), (ax5_8, .inl (cx5_8, 288, .inr (.inl fx5_8))), (ax5_9, .inl (cx5_9, 288, .inr (.inl fx5_9))), (ax5_10, .inl (cx5_10, 288, .inl fx5_10)), (ax5_11, .inl (cx5_11, 288, .inr (.inl fx5_11)))] sz) [(h0, .inr (5, [.int xx5_0, .int xx5_1, .ref ax5_2, .ref ax5_3, .ref ax5_4, .ref ax5_5, .ref ax5_6, .ref ax5_7, .ref ax5_8, .ref ax5_9, .ref ax5_10, .ref ax5_11, .ref ax5_12, .ref ax5_13, .ref ax5_14, .ref ax5_15, .ref ax5_16])), (ax5_4, .inl (cx5_4, 36, .inl z1)), (ax5_8, .inl (cx5_8, 288, .inr (.inl z2))), (ax5_9, .inl (cx5_9, 288, .inr (.inl z3))), (ax5_10, .inl (cx5_10, 288, .inl z4)), (ax5_11, .inl (cx5_11, 288, .inr (.inl z5)))] [(cx5_4, .int), (cx5_8, .long), (cx5_9, .long), (cx5_10, .int), (cx5_11, .long)] t) (va_A [(h0, .inr (5, [.int xx5_0, .int xx5_1, .ref ax5_2, .ref ax5_3, .ref ax5_4, .ref ax5_5, .ref ax5_6, .ref ax5_7, .ref ax5_8, .ref ax5_9, .ref ax5_10, .ref ax5_11, .ref ax5_12, .ref ax5_13, .ref ax5_14, .ref ax5_15, .ref ax5_16])), (ax5_4, .inl (cx5_4, 36, .inl fx5_4)), (ax5_8, .inl (cx5_8, 288, .inr (.inl fx5_8))), (ax5_9, .inl (cx5_9, 288, .inr (.inl fx5_9))), (ax5_10, .inl (cx5_10, 288, .inl fx5_10)), (ax5_11, .inl (cx5_11, 288, .inr (.inl fx5_11)))] sz)) 0 0 (va_A [(h0, .inr (5, [.int xx5_0, .int xx5_1, .ref ax5_2, .ref ax5_3, .ref ax5_4, .ref ax5_5, .ref ax5_6, .ref ax5_7, .ref ax5_8, .ref ax5_9, .ref ax5_10, .ref ax5_11, .ref ax5_12, .ref ax5_13, .ref ax5_14, .ref ax5_15, .ref ax5_16])), (ax5_4, .inl (cx5_4, 36, .inl fx5_4)), (ax5_8, .inl (cx5_8, 288, .inr (.inl fx5_8))), (ax5_9, .inl (cx5_9, 288, .inr (.inl fx5_9))), (ax5_10, .inl (cx5_10, 288, .inl fx5_10)), (ax5_11, .inl (cx5_11, 288, .inr (.inl fx5_11)))] sz) := by
  refine Met.ofW (cc := cX5_addField) (maxL := 5) (ret := none) (by decide) rfl ?_
  intro p e s m args below meth c s₁ B hml hv
  obtain ⟨rfl, hsz, hP, hK, hD0, hN⟩ := hv
  have hx := B.exec
  have hb := B.bytes
  have hr := B.returns
  have hts := atoms_spec (ws := .code yX5_addField cX5_addField 5 none :: pw) B.pre
  have hts : ∀ w ∈ pw, w.before _ s = true := fun w h => hts w (List.mem_cons_of_mem _ h)
  have hown : s.vm.findClass RX5 = some m.cls := findClass_of_methodNamed B.named
  have hlocks := B.notSynchronized
  subst hsz
  have hD := hD0.self (sz := s.heap.size)
  generalize hAe : va_A [(h0, .inr (5, [.int xx5_0, .int xx5_1, .ref ax5_2, .ref ax5_3, .ref ax5_4, .ref ax5_5, .ref ax5_6, .ref ax5_7, .ref ax5_8, .ref ax5_9, .ref ax5_10, .ref ax5_11, .ref ax5_12, .ref ax5_13, .ref ax5_14, .ref ax5_15, .ref ax5_16])), (ax5_4, .inl (cx5_4, 36, .inl fx5_4)), (ax5_8, .inl (cx5_8, 288, .inr (.inl fx5_8))), (ax5_9, .inl (cx5_9, 288, .inr (.inl fx5_9))), (ax5_10, .inl (cx5_10, 288, .inl fx5_10)), (ax5_11, .inl (cx5_11, 288, .inr (.inl fx5_11)))] s.heap.size = A at hD ⊢
  have hA : ∀ q : Nat, s.heap.size ≤ q → A q := fun q h => by rw [← hAe]; exact Or.inr h
  have hS : va_S A s.heap s.heap [] := va_S.rf
  have hP : va_P (dC, dI) vwCl [(h0, .inr (5, [.int xx5_0, .int xx5_1, .ref ax5_2, .ref ax5_3, .ref ax5_4, .ref ax5_5, .ref ax5_6, .ref ax5_7, .ref ax5_8, .ref ax5_9, .ref ax5_10, .ref ax5_11, .ref ax5_12, .ref ax5_13, .ref ax5_14, .ref ax5_15, .ref ax5_16])), (ax5_4, .inl (cx5_4, 36, .inl fx5_4)), (ax5_8, .inl (cx5_8, 288, .inr (.inl fx5_8))), (ax5_9, .inl (cx5_9, 288, .inr (.inl fx5_9))), (ax5_10, .inl (cx5_10, 288, .inl fx5_10)), (ax5_11, .inl (cx5_11, 288, .inr (.inl fx5_11)))] s.heap := hP
  have hl := lv_entry ([.ref h0, .int p0, .long p1]) (n := 5) (Nat.le_of_ble_eq_true rfl)
  rw [lg_entry_eq]
  generalize (lg_sl ([.ref h0, .int p0, .long p1]) ++ List.replicate (5 - (lg_sl ([.ref h0, .int p0, .long p1])).length) Slot.unset).toArray = ls at hl ⊢
  have hl : lv_has ls 5 [(0, .ref h0), (1, .int p0), (2, .long p1)] := hl
  refine lv_aload_n hx hb dX5_addField_0 rfl (lv_at hl 0 rfl) ?_
  refine lv_iload_n hx hb dX5_addField_1 rfl (lv_at hl 1 rfl) ?_
  have hPc := hP.sub (ws' := [(h0, .inr (5, [.int xx5_0, .int xx5_1, .ref ax5_2, .ref ax5_3, .ref ax5_4, .ref ax5_5, .ref ax5_6, .ref ax5_7, .ref ax5_8, .ref ax5_9, .ref ax5_10, .ref ax5_11, .ref ax5_12, .ref ax5_13, .ref ax5_14, .ref ax5_15, .ref ax5_16])), (ax5_4, .inl (cx5_4, 36, .inl fx5_4))]) [0, 1] rfl
  have hDc := hD.sub (ws' := [(h0, .inr (5, [.int xx5_0, .int xx5_1, .ref ax5_2, .ref ax5_3, .ref ax5_4, .ref ax5_5, .ref ax5_6, .ref ax5_7, .ref ax5_8, .ref ax5_9, .ref ax5_10, .ref ax5_11, .ref ax5_12, .ref ax5_13, .ref ax5_14, .ref ax5_15, .ref ax5_16])), (ax5_4, .inl (cx5_4, 36, .inl fx5_4))]) [0, 1] (by decide) rfl
  have hKc := hK.sub (tys' := [(cx5_4, .int)]) [0] rfl
  have hFc := va_free (wc := [(h0, .inr (5, [.int xx5_0, .int xx5_1, .ref ax5_2, .ref ax5_3, .ref ax5_4, .ref ax5_5, .ref ax5_6, .ref ax5_7, .ref ax5_8, .ref ax5_9, .ref ax5_10, .ref ax5_11, .ref ax5_12, .ref ax5_13, .ref ax5_14, .ref ax5_15, .ref ax5_16])), (ax5_4, .inl (cx5_4, 36, .inl fx5_4))]) hD hS hA [0, 1] rfl
  refine va_calli (va_runV (As := [.int p0]) (rest := []) ⟨hx, hb, hml, hown, hts⟩ (s_X5_fieldsOf l dC dI h0 xx5_0 xx5_1 ax5_2 ax5_3 ax5_4 cx5_4 fx5_4 ax5_5 ax5_6 ax5_7 ax5_8 ax5_9 ax5_10 ax5_11 ax5_12 ax5_13 ax5_14 ax5_15 ax5_16 p0 (by have a0 := hi_xx5_0.1; have a1 := hi_xx5_0.2; omega) (by have a0 := hi_xx5_1.1; have a1 := hi_xx5_1.2; omega) s.heap.size) (cwV 1 hts (gV mw_15_19 mw_1_28 mw_1_29 mw_0_9 mw_48_29) rfl rfl rfl (by decide +kernel) ⟨(Nat.le_of_ble_eq_true rfl), (Nat.le_of_ble_eq_true rfl)⟩) (vV (ci := 5) (q0 := 0) hKc hPc hDc hN rfl rfl) rfl rfl hl.1 rfl (lv_room (Nat.le_of_ble_eq_true rfl)) dX5_addField_2 ⟨(Nat.le_of_ble_eq_true rfl), (Nat.le_of_ble_eq_true rfl)⟩) hS (fun q _ h => hFc q h) hFc (fun r_1 u t H1 locs ht hvm hw hB hz1 hk1 hS => ?_)
  obtain ⟨hP1, hK1, hD1⟩ := hB
  rw [ht] at hP1
  have hK1 := va_K.moved hvm.symm hK1
  obtain ⟨hP, hD⟩ := va_join (wr := [(ax5_8, .inl (cx5_8, 288, .inr (.inl fx5_8))), (ax5_9, .inl (cx5_9, 288, .inr (.inl fx5_9))), (ax5_10, .inl (cx5_10, 288, .inl fx5_10)), (ax5_11, .inl (cx5_11, 288, .inr (.inl fx5_11)))]) (w1 := [(h0, .inr (5, [.int xx5_0, .int xx5_1, .ref ax5_2, .ref ax5_3, .ref ax5_4, .ref ax5_5, .ref ax5_6, .ref ax5_7, .ref ax5_8, .ref ax5_9, .ref ax5_10, .ref ax5_11, .ref ax5_12, .ref ax5_13, .ref ax5_14, .ref ax5_15, .ref ax5_16])), (ax5_4, .inl (cx5_4, 36, .inl fx5_4))]) hP hD [0, 1] [2, 3, 4, 5] rfl rfl (by decide) (by decide) hk1 hFc hP1 hD1
  clear hPc hDc hKc hP1 hK1 hD1 hFc hk1 hz1
  generalize H1 = H at hP hS ⊢
  have hP : va_P (dC, dI) vwCl [(ax5_8, .inl (cx5_8, 288, .inr (.inl fx5_8))), (ax5_9, .inl (cx5_9, 288, .inr (.inl fx5_9))), (ax5_10, .inl (cx5_10, 288, .inl fx5_10)), (ax5_11, .inl (cx5_11, 288, .inr (.inl fx5_11))), (h0, .inr (5, [.int xx5_0, .int xx5_1, .ref ax5_2, .ref ax5_3, .ref ax5_4, .ref ax5_5, .ref ax5_6, .ref ax5_7, .ref ax5_8, .ref ax5_9, .ref ax5_10, .ref ax5_11, .ref ax5_12, .ref ax5_13, .ref ax5_14, .ref ax5_15, .ref ax5_16])), (ax5_4, .inl (cx5_4, 36, .inl fx5_4))] H := hP
  have hD : va_D A [(ax5_8, .inl (cx5_8, 288, .inr (.inl fx5_8))), (ax5_9, .inl (cx5_9, 288, .inr (.inl fx5_9))), (ax5_10, .inl (cx5_10, 288, .inl fx5_10)), (ax5_11, .inl (cx5_11, 288, .inr (.inl fx5_11))), (h0, .inr (5, [.int xx5_0, .int xx5_1, .ref ax5_2, .ref ax5_3, .ref ax5_4, .ref ax5_5, .ref ax5_6, .ref ax5_7, .ref ax5_8, .ref ax5_9, .ref ax5_10, .ref ax5_11, .ref ax5_12, .ref ax5_13, .ref ax5_14, .ref ax5_15, .ref ax5_16])), (ax5_4, .inl (cx5_4, 36, .inl fx5_4))] := hD
  rcases hw with q_2 | rfl
  · refine lv_istore (lv' := [(4, .int r_1), (0, .ref h0), (1, .int p0), (2, .long p1)]) hx hb dX5_addField_5 hl (by decide) rfl (fun ls hl => ?_)
    refine lv_iload_n hx hb dX5_addField_7 rfl (lv_at hl 2 rfl) ?_
    refine lv_iload hx hb dX5_addField_8 (lv_at hl 0 rfl) ?_
    have hPc := hP.sub (ws' := []) [] rfl
    have hDc := hD.sub (ws' := []) [] (by decide) rfl
    have hKc := hK.sub (tys' := []) [] rfl
    have hFc := va_free (wc := []) hD hS hA [] rfl
    refine va_calli (va_runS (As := [.int p0, .int r_1]) (rest := []) ⟨hx, hb, hml, hown, hts⟩ (s_X5_isFieldOf l dC dI p0 r_1 H.size) (va_cwS 2 hts (gS mw_15_1 mw_15_2 mw_0_9 mw_48_25) rfl rfl rfl (by decide +kernel) ⟨(Nat.le_of_ble_eq_true rfl), (Nat.le_of_ble_eq_true rfl)⟩) (vS hKc hPc hDc hN) rfl rfl hl.1 rfl (lv_room (Nat.le_of_ble_eq_true rfl)) dX5_addField_10 ⟨(Nat.le_of_ble_eq_true rfl), (Nat.le_of_ble_eq_true rfl)⟩) hS (fun q _ h => hFc q h) hFc (fun r_3 u t H1 locs ht hvm hw hB hz1 hk1 hS => ?_)
    obtain ⟨hP1, hK1, hD1⟩ := hB
    rw [ht] at hP1
    have hK1 := va_K.moved hvm.symm hK1
    obtain ⟨hP, hD⟩ := va_join (wr := [(ax5_8, .inl (cx5_8, 288, .inr (.inl fx5_8))), (ax5_9, .inl (cx5_9, 288, .inr (.inl fx5_9))), (ax5_10, .inl (cx5_10, 288, .inl fx5_10)), (ax5_11, .inl (cx5_11, 288, .inr (.inl fx5_11))), (h0, .inr (5, [.int xx5_0, .int xx5_1, .ref ax5_2, .ref ax5_3, .ref ax5_4, .ref ax5_5, .ref ax5_6, .ref ax5_7, .ref ax5_8, .ref ax5_9, .ref ax5_10, .ref ax5_11, .ref ax5_12, .ref ax5_13, .ref ax5_14, .ref ax5_15, .ref ax5_16])), (ax5_4, .inl (cx5_4, 36, .inl fx5_4))]) (w1 := []) hP hD [] [0, 1, 2, 3, 4, 5] rfl rfl (by decide) (by decide) hk1 hFc hP1 hD1
    clear hPc hDc hKc hP1 hK1 hD1 hFc hk1 hz1
    generalize H1 = H at hP hS ⊢
    have hP : va_P (dC, dI) vwCl [(ax5_8, .inl (cx5_8, 288, .inr (.inl fx5_8))), (ax5_9, .inl (cx5_9, 288, .inr (.inl fx5_9))), (ax5_10, .inl (cx5_10, 288, .inl fx5_10)), (ax5_11, .inl (cx5_11, 288, .inr (.inl fx5_11))), (h0, .inr (5, [.int xx5_0, .int xx5_1, .ref ax5_2, .ref ax5_3, .ref ax5_4, .ref ax5_5, .ref ax5_6, .ref ax5_7, .ref ax5_8, .ref ax5_9, .ref ax5_10, .ref ax5_11, .ref ax5_12, .ref ax5_13, .ref ax5_14, .ref ax5_15, .ref ax5_16])), (ax5_4, .inl (cx5_4, 36, .inl fx5_4))] H := hP
    have hD : va_D A [(ax5_8, .inl (cx5_8, 288, .inr (.inl fx5_8))), (ax5_9, .inl (cx5_9, 288, .inr (.inl fx5_9))), (ax5_10, .inl (cx5_10, 288, .inl fx5_10)), (ax5_11, .inl (cx5_11, 288, .inr (.inl fx5_11))), (h0, .inr (5, [.int xx5_0, .int xx5_1, .ref ax5_2, .ref ax5_3, .ref ax5_4, .ref ax5_5, .ref ax5_6, .ref ax5_7, .ref ax5_8, .ref ax5_9, .ref ax5_10, .ref ax5_11, .ref ax5_12, .ref ax5_13, .ref ax5_14, .ref ax5_15, .ref ax5_16])), (ax5_4, .inl (cx5_4, 36, .inl fx5_4))] := hD
    rcases hw with rfl | ⟨rfl, g_4, g_5, g_6, g_7⟩
    · refine lv_if_eq (tgt := 78) hx hb dX5_addField_13 (by decide) (fun _ => ?_) (fun h => absurd (by decide) h)
      have hP9 := hP.sub (ws' := [(h0, .inr (5, [.int xx5_0, .int xx5_1, .ref ax5_2, .ref ax5_3, .ref ax5_4, .ref ax5_5, .ref ax5_6, .ref ax5_7, .ref ax5_8, .ref ax5_9, .ref ax5_10, .ref ax5_11, .ref ax5_12, .ref ax5_13, .ref ax5_14, .ref ax5_15, .ref ax5_16])), (ax5_4, .inl (cx5_4, 36, .inl fx5_4)), (ax5_8, .inl (cx5_8, 288, .inr (.inl fx5_8))), (ax5_9, .inl (cx5_9, 288, .inr (.inl fx5_9))), (ax5_10, .inl (cx5_10, 288, .inl fx5_10)), (ax5_11, .inl (cx5_11, 288, .inr (.inl fx5_11)))]) [4, 5, 0, 1, 2, 3] rfl
      have hD9 := hD.sub (ws' := [(h0, .inr (5, [.int xx5_0, .int xx5_1, .ref ax5_2, .ref ax5_3, .ref ax5_4, .ref ax5_5, .ref ax5_6, .ref ax5_7, .ref ax5_8, .ref ax5_9, .ref ax5_10, .ref ax5_11, .ref ax5_12, .ref ax5_13, .ref ax5_14, .ref ax5_15, .ref ax5_16])), (ax5_4, .inl (cx5_4, 36, .inl fx5_4)), (ax5_8, .inl (cx5_8, 288, .inr (.inl fx5_8))), (ax5_9, .inl (cx5_9, 288, .inr (.inl fx5_9))), (ax5_10, .inl (cx5_10, 288, .inl fx5_10)), (ax5_11, .inl (cx5_11, 288, .inr (.inl fx5_11)))]) [4, 5, 0, 1, 2, 3] (by decide) rfl
      have hK9 := hK.sub (tys' := [(cx5_4, .int), (cx5_8, .long), (cx5_9, .long), (cx5_10, .int), (cx5_11, .long)]) [0, 1, 2, 3, 4] rfl
      refine W.widen (k := 0) (n := 0) (Nat.le_of_ble_eq_true rfl) (Nat.le_of_ble_eq_true rfl) ?_
      exact W.vret hx hb hr (fun t ht hW => ⟨⟨(), rfl, trivial, fx5_4, fx5_8, fx5_9, fx5_10, fx5_11, by rw [ht]; exact hP9, va_K.moved hW.alike hK9, hD9⟩, hS.F ht⟩) hS.2.2 dX5_addField_78
    · refine lv_if_eq (tgt := 78) hx hb dX5_addField_13 (by decide) (fun h => absurd h (by decide)) (fun _ => ?_)
      refine lv_aload_n hx hb dX5_addField_16 rfl (lv_at hl 1 rfl) ?_
      refine va_get (D := (dC, dI)) (ci := 5) (v := .ref ax5_8) (C := RX5) (T := TX5) (N := 17) hx hb hts inlX5 hown hK hP 4 rfl rfl 8 (by decide) (hts (.fieldLink RX5 38 "ShapeReader$Shapes" "fieldNames" "[J") mw_14_20) (fun _ h9 => h9) rfl dX5_addField_17 ?_
      refine lv_iload_n hx hb dX5_addField_20 rfl (lv_at hl 2 rfl) ?_
      refine lv_bipush (v := 8) hx hb dX5_addField_21 (by decide) ?_
      refine lv_imul hx hb dX5_addField_23 ?_
      refine lv_topi (fun x_10 ex_10 => ?_)
      have bx_10 : (0 : Int) ≤ x_10.toInt ∧ x_10.toInt ≤ (280 : Int) := by have r0 := il_rng p0; have a0 := il_nlt g_4; have a1 := il_nle g_5; have e0 : (0 : Int32).toInt = 0 := (by decide); have e1 : (8 : Int32).toInt = 8 := (by decide); have e2 : (36 : Int32).toInt = 36 := (by decide); rw [ex_10]; have m9 := il_mulE (x := p0) (y := 8) (by rw [e1]; omega) (by rw [e1]; omega); rw [m9, e1]; omega
      refine lv_iload hx hb dX5_addField_24 (lv_at hl 0 rfl) ?_
      refine lv_iadd hx hb dX5_addField_26 ?_
      refine lv_topi (fun x_11 ex_11 => ?_)
      have bx_11 : (0 : Int) ≤ x_11.toInt ∧ x_11.toInt ≤ (287 : Int) := by have r0 := il_rng x_10; have r1 := il_rng r_1; have a0 := bx_10.1; have a1 := bx_10.2; have a2 := il_nlt g_6; have a3 := il_nle g_7; have e0 : (0 : Int32).toInt = 0 := (by decide); have e1 : (8 : Int32).toInt = 8 := (by decide); rw [ex_11, il_addE (by omega) (by omega)]; omega
      refine lv_lload_n hx hb dX5_addField_27 rfl (lv_at hl 3 rfl) ?_
      refine va_last hx hb hK hP hD hS 0 1 rfl rfl (vp_in_iff.mpr (by have a0 := bx_11.1; have a1 := bx_11.2; omega)) dX5_addField_28 (fun H locs hP hD hS => ?_)
      obtain ⟨f_12, hP, hD⟩ : ∃ f_12 : Nat → Int64, va_P (dC, dI) vwCl [(ax5_8, .inl (cx5_8, 288, .inr (.inl f_12))), (ax5_9, .inl (cx5_9, 288, .inr (.inl fx5_9))), (ax5_10, .inl (cx5_10, 288, .inl fx5_10)), (ax5_11, .inl (cx5_11, 288, .inr (.inl fx5_11))), (h0, .inr (5, [.int xx5_0, .int xx5_1, .ref ax5_2, .ref ax5_3, .ref ax5_4, .ref ax5_5, .ref ax5_6, .ref ax5_7, .ref ax5_8, .ref ax5_9, .ref ax5_10, .ref ax5_11, .ref ax5_12, .ref ax5_13, .ref ax5_14, .ref ax5_15, .ref ax5_16])), (ax5_4, .inl (cx5_4, 36, .inl fx5_4))] H ∧ va_D A [(ax5_8, .inl (cx5_8, 288, .inr (.inl f_12))), (ax5_9, .inl (cx5_9, 288, .inr (.inl fx5_9))), (ax5_10, .inl (cx5_10, 288, .inl fx5_10)), (ax5_11, .inl (cx5_11, 288, .inr (.inl fx5_11))), (h0, .inr (5, [.int xx5_0, .int xx5_1, .ref ax5_2, .ref ax5_3, .ref ax5_4, .ref ax5_5, .ref ax5_6, .ref ax5_7, .ref ax5_8, .ref ax5_9, .ref ax5_10, .ref ax5_11, .ref ax5_12, .ref ax5_13, .ref ax5_14, .ref ax5_15, .ref ax5_16])), (ax5_4, .inl (cx5_4, 36, .inl fx5_4))] := ⟨_, hP, hD⟩
      refine lv_aload_n hx hb dX5_addField_29 rfl (lv_at hl 1 rfl) ?_
      refine va_get (D := (dC, dI)) (ci := 5) (v := .ref ax5_9) (C := RX5) (T := TX5) (N := 17) hx hb hts inlX5 hown hK hP 4 rfl rfl 9 (by decide) (hts (.fieldLink RX5 41 "ShapeReader$Shapes" "formerNames" "[J") mw_14_21) (fun _ h9 => h9) rfl dX5_addField_30 ?_
      refine lv_iload_n hx hb dX5_addField_33 rfl (lv_at hl 2 rfl) ?_
      refine lv_bipush (v := 8) hx hb dX5_addField_34 (by decide) ?_
      refine lv_imul hx hb dX5_addField_36 ?_
      refine lv_topi (fun x_13 ex_13 => ?_)
      have bx_13 : (0 : Int) ≤ x_13.toInt ∧ x_13.toInt ≤ (280 : Int) := by have r0 := il_rng p0; have a0 := il_nlt g_4; have a1 := il_nle g_5; have e0 : (0 : Int32).toInt = 0 := (by decide); have e1 : (8 : Int32).toInt = 8 := (by decide); have e2 : (36 : Int32).toInt = 36 := (by decide); rw [ex_13]; have m9 := il_mulE (x := p0) (y := 8) (by rw [e1]; omega) (by rw [e1]; omega); rw [m9, e1]; omega
      refine lv_iload hx hb dX5_addField_37 (lv_at hl 0 rfl) ?_
      refine lv_iadd hx hb dX5_addField_39 ?_
      refine lv_topi (fun x_14 ex_14 => ?_)
      have bx_14 : (0 : Int) ≤ x_14.toInt ∧ x_14.toInt ≤ (287 : Int) := by have r0 := il_rng x_13; have r1 := il_rng r_1; have a0 := bx_13.1; have a1 := bx_13.2; have a2 := il_nlt g_6; have a3 := il_nle g_7; have e0 : (0 : Int32).toInt = 0 := (by decide); have e1 : (8 : Int32).toInt = 8 := (by decide); rw [ex_14, il_addE (by omega) (by omega)]; omega
      refine lv_lconst (v := 0) hx hb dX5_addField_40 (by decide) ?_
      refine va_last hx hb hK hP hD hS 1 2 rfl rfl (vp_in_iff.mpr (by have a0 := bx_14.1; have a1 := bx_14.2; omega)) dX5_addField_41 (fun H locs hP hD hS => ?_)
      obtain ⟨f_15, hP, hD⟩ : ∃ f_15 : Nat → Int64, va_P (dC, dI) vwCl [(ax5_8, .inl (cx5_8, 288, .inr (.inl f_12))), (ax5_9, .inl (cx5_9, 288, .inr (.inl f_15))), (ax5_10, .inl (cx5_10, 288, .inl fx5_10)), (ax5_11, .inl (cx5_11, 288, .inr (.inl fx5_11))), (h0, .inr (5, [.int xx5_0, .int xx5_1, .ref ax5_2, .ref ax5_3, .ref ax5_4, .ref ax5_5, .ref ax5_6, .ref ax5_7, .ref ax5_8, .ref ax5_9, .ref ax5_10, .ref ax5_11, .ref ax5_12, .ref ax5_13, .ref ax5_14, .ref ax5_15, .ref ax5_16])), (ax5_4, .inl (cx5_4, 36, .inl fx5_4))] H ∧ va_D A [(ax5_8, .inl (cx5_8, 288, .inr (.inl f_12))), (ax5_9, .inl (cx5_9, 288, .inr (.inl f_15))), (ax5_10, .inl (cx5_10, 288, .inl fx5_10)), (ax5_11, .inl (cx5_11, 288, .inr (.inl fx5_11))), (h0, .inr (5, [.int xx5_0, .int xx5_1, .ref ax5_2, .ref ax5_3, .ref ax5_4, .ref ax5_5, .ref ax5_6, .ref ax5_7, .ref ax5_8, .ref ax5_9, .ref ax5_10, .ref ax5_11, .ref ax5_12, .ref ax5_13, .ref ax5_14, .ref ax5_15, .ref ax5_16])), (ax5_4, .inl (cx5_4, 36, .inl fx5_4))] := ⟨_, hP, hD⟩
      refine lv_aload_n hx hb dX5_addField_42 rfl (lv_at hl 1 rfl) ?_
      refine va_get (D := (dC, dI)) (ci := 5) (v := .ref ax5_10) (C := RX5) (T := TX5) (N := 17) hx hb hts inlX5 hown hK hP 4 rfl rfl 10 (by decide) (hts (.fieldLink RX5 44 "ShapeReader$Shapes" "fieldTypes" "[I") mw_14_22) (fun _ h9 => h9) rfl dX5_addField_43 ?_
      refine lv_iload_n hx hb dX5_addField_46 rfl (lv_at hl 2 rfl) ?_
      refine lv_bipush (v := 8) hx hb dX5_addField_47 (by decide) ?_
      refine lv_imul hx hb dX5_addField_49 ?_
      refine lv_topi (fun x_16 ex_16 => ?_)
      have bx_16 : (0 : Int) ≤ x_16.toInt ∧ x_16.toInt ≤ (280 : Int) := by have r0 := il_rng p0; have a0 := il_nlt g_4; have a1 := il_nle g_5; have e0 : (0 : Int32).toInt = 0 := (by decide); have e1 : (8 : Int32).toInt = 8 := (by decide); have e2 : (36 : Int32).toInt = 36 := (by decide); rw [ex_16]; have m9 := il_mulE (x := p0) (y := 8) (by rw [e1]; omega) (by rw [e1]; omega); rw [m9, e1]; omega
      refine lv_iload hx hb dX5_addField_50 (lv_at hl 0 rfl) ?_
      refine lv_iadd hx hb dX5_addField_52 ?_
      refine lv_topi (fun x_17 ex_17 => ?_)
      have bx_17 : (0 : Int) ≤ x_17.toInt ∧ x_17.toInt ≤ (287 : Int) := by have r0 := il_rng x_16; have r1 := il_rng r_1; have a0 := bx_16.1; have a1 := bx_16.2; have a2 := il_nlt g_6; have a3 := il_nle g_7; have e0 : (0 : Int32).toInt = 0 := (by decide); have e1 : (8 : Int32).toInt = 8 := (by decide); rw [ex_17, il_addE (by omega) (by omega)]; omega
      refine lv_iconst (v := (-1)) hx hb dX5_addField_53 (by decide) ?_
      refine va_iast hx hb hK hP hD hS 2 3 rfl rfl (vp_in_iff.mpr (by have a0 := bx_17.1; have a1 := bx_17.2; omega)) dX5_addField_54 (fun H locs hP hD hS => ?_)
      obtain ⟨f_18, hP, hD⟩ : ∃ f_18 : Nat → Int32, va_P (dC, dI) vwCl [(ax5_8, .inl (cx5_8, 288, .inr (.inl f_12))), (ax5_9, .inl (cx5_9, 288, .inr (.inl f_15))), (ax5_10, .inl (cx5_10, 288, .inl f_18)), (ax5_11, .inl (cx5_11, 288, .inr (.inl fx5_11))), (h0, .inr (5, [.int xx5_0, .int xx5_1, .ref ax5_2, .ref ax5_3, .ref ax5_4, .ref ax5_5, .ref ax5_6, .ref ax5_7, .ref ax5_8, .ref ax5_9, .ref ax5_10, .ref ax5_11, .ref ax5_12, .ref ax5_13, .ref ax5_14, .ref ax5_15, .ref ax5_16])), (ax5_4, .inl (cx5_4, 36, .inl fx5_4))] H ∧ va_D A [(ax5_8, .inl (cx5_8, 288, .inr (.inl f_12))), (ax5_9, .inl (cx5_9, 288, .inr (.inl f_15))), (ax5_10, .inl (cx5_10, 288, .inl f_18)), (ax5_11, .inl (cx5_11, 288, .inr (.inl fx5_11))), (h0, .inr (5, [.int xx5_0, .int xx5_1, .ref ax5_2, .ref ax5_3, .ref ax5_4, .ref ax5_5, .ref ax5_6, .ref ax5_7, .ref ax5_8, .ref ax5_9, .ref ax5_10, .ref ax5_11, .ref ax5_12, .ref ax5_13, .ref ax5_14, .ref ax5_15, .ref ax5_16])), (ax5_4, .inl (cx5_4, 36, .inl fx5_4))] := ⟨_, hP, hD⟩
      refine lv_aload_n hx hb dX5_addField_55 rfl (lv_at hl 1 rfl) ?_
      refine va_get (D := (dC, dI)) (ci := 5) (v := .ref ax5_11) (C := RX5) (T := TX5) (N := 17) hx hb hts inlX5 hown hK hP 4 rfl rfl 11 (by decide) (hts (.fieldLink RX5 47 "ShapeReader$Shapes" "elseWorths" "[J") mw_14_23) (fun _ h9 => h9) rfl dX5_addField_56 ?_
      refine lv_iload_n hx hb dX5_addField_59 rfl (lv_at hl 2 rfl) ?_
      refine lv_bipush (v := 8) hx hb dX5_addField_60 (by decide) ?_
      refine lv_imul hx hb dX5_addField_62 ?_
      refine lv_topi (fun x_19 ex_19 => ?_)
      have bx_19 : (0 : Int) ≤ x_19.toInt ∧ x_19.toInt ≤ (280 : Int) := by have r0 := il_rng p0; have a0 := il_nlt g_4; have a1 := il_nle g_5; have e0 : (0 : Int32).toInt = 0 := (by decide); have e1 : (8 : Int32).toInt = 8 := (by decide); have e2 : (36 : Int32).toInt = 36 := (by decide); rw [ex_19]; have m9 := il_mulE (x := p0) (y := 8) (by rw [e1]; omega) (by rw [e1]; omega); rw [m9, e1]; omega
      refine lv_iload hx hb dX5_addField_63 (lv_at hl 0 rfl) ?_
      refine lv_iadd hx hb dX5_addField_65 ?_
      refine lv_topi (fun x_20 ex_20 => ?_)
      have bx_20 : (0 : Int) ≤ x_20.toInt ∧ x_20.toInt ≤ (287 : Int) := by have r0 := il_rng x_19; have r1 := il_rng r_1; have a0 := bx_19.1; have a1 := bx_19.2; have a2 := il_nlt g_6; have a3 := il_nle g_7; have e0 : (0 : Int32).toInt = 0 := (by decide); have e1 : (8 : Int32).toInt = 8 := (by decide); rw [ex_20, il_addE (by omega) (by omega)]; omega
      refine lv_lconst (v := 0) hx hb dX5_addField_66 (by decide) ?_
      refine va_last hx hb hK hP hD hS 3 4 rfl rfl (vp_in_iff.mpr (by have a0 := bx_20.1; have a1 := bx_20.2; omega)) dX5_addField_67 (fun H locs hP hD hS => ?_)
      obtain ⟨f_21, hP, hD⟩ : ∃ f_21 : Nat → Int64, va_P (dC, dI) vwCl [(ax5_8, .inl (cx5_8, 288, .inr (.inl f_12))), (ax5_9, .inl (cx5_9, 288, .inr (.inl f_15))), (ax5_10, .inl (cx5_10, 288, .inl f_18)), (ax5_11, .inl (cx5_11, 288, .inr (.inl f_21))), (h0, .inr (5, [.int xx5_0, .int xx5_1, .ref ax5_2, .ref ax5_3, .ref ax5_4, .ref ax5_5, .ref ax5_6, .ref ax5_7, .ref ax5_8, .ref ax5_9, .ref ax5_10, .ref ax5_11, .ref ax5_12, .ref ax5_13, .ref ax5_14, .ref ax5_15, .ref ax5_16])), (ax5_4, .inl (cx5_4, 36, .inl fx5_4))] H ∧ va_D A [(ax5_8, .inl (cx5_8, 288, .inr (.inl f_12))), (ax5_9, .inl (cx5_9, 288, .inr (.inl f_15))), (ax5_10, .inl (cx5_10, 288, .inl f_18)), (ax5_11, .inl (cx5_11, 288, .inr (.inl f_21))), (h0, .inr (5, [.int xx5_0, .int xx5_1, .ref ax5_2, .ref ax5_3, .ref ax5_4, .ref ax5_5, .ref ax5_6, .ref ax5_7, .ref ax5_8, .ref ax5_9, .ref ax5_10, .ref ax5_11, .ref ax5_12, .ref ax5_13, .ref ax5_14, .ref ax5_15, .ref ax5_16])), (ax5_4, .inl (cx5_4, 36, .inl fx5_4))] := ⟨_, hP, hD⟩
      refine lv_aload_n hx hb dX5_addField_68 rfl (lv_at hl 1 rfl) ?_
      refine va_get (D := (dC, dI)) (ci := 5) (v := .ref ax5_4) (C := RX5) (T := TX5) (N := 17) hx hb hts inlX5 hown hK hP 4 rfl rfl 4 (by decide) (hts (.fieldLink RX5 25 "ShapeReader$Shapes" "fieldCounts" "[I") mw_14_16) (fun _ h9 => h9) rfl dX5_addField_69 ?_
      refine lv_iload_n hx hb dX5_addField_72 rfl (lv_at hl 2 rfl) ?_
      refine lv_dup2_11 hx hb dX5_addField_73 rfl rfl ?_
      refine va_iald hx hb hK hP 5 0 rfl rfl (vp_in_iff.mpr (by have a0 := il_nlt g_4; have a1 := il_nle g_5; have e0 : (0 : Int32).toInt = 0 := (by decide); have e1 : (36 : Int32).toInt = 36 := (by decide); omega)) dX5_addField_74 ?_
      refine lv_topi (fun x_22 ex_22 => ?_)
      refine lv_iconst (v := 1) hx hb dX5_addField_75 (by decide) ?_
      refine lv_iadd hx hb dX5_addField_76 ?_
      refine lv_topi (fun x_23 ex_23 => ?_)
      refine va_iast hx hb hK hP hD hS 5 0 rfl rfl (vp_in_iff.mpr (by have a0 := il_nlt g_4; have a1 := il_nle g_5; have e0 : (0 : Int32).toInt = 0 := (by decide); have e1 : (36 : Int32).toInt = 36 := (by decide); omega)) dX5_addField_77 (fun H locs hP hD hS => ?_)
      obtain ⟨f_24, hP, hD⟩ : ∃ f_24 : Nat → Int32, va_P (dC, dI) vwCl [(ax5_8, .inl (cx5_8, 288, .inr (.inl f_12))), (ax5_9, .inl (cx5_9, 288, .inr (.inl f_15))), (ax5_10, .inl (cx5_10, 288, .inl f_18)), (ax5_11, .inl (cx5_11, 288, .inr (.inl f_21))), (h0, .inr (5, [.int xx5_0, .int xx5_1, .ref ax5_2, .ref ax5_3, .ref ax5_4, .ref ax5_5, .ref ax5_6, .ref ax5_7, .ref ax5_8, .ref ax5_9, .ref ax5_10, .ref ax5_11, .ref ax5_12, .ref ax5_13, .ref ax5_14, .ref ax5_15, .ref ax5_16])), (ax5_4, .inl (cx5_4, 36, .inl f_24))] H ∧ va_D A [(ax5_8, .inl (cx5_8, 288, .inr (.inl f_12))), (ax5_9, .inl (cx5_9, 288, .inr (.inl f_15))), (ax5_10, .inl (cx5_10, 288, .inl f_18)), (ax5_11, .inl (cx5_11, 288, .inr (.inl f_21))), (h0, .inr (5, [.int xx5_0, .int xx5_1, .ref ax5_2, .ref ax5_3, .ref ax5_4, .ref ax5_5, .ref ax5_6, .ref ax5_7, .ref ax5_8, .ref ax5_9, .ref ax5_10, .ref ax5_11, .ref ax5_12, .ref ax5_13, .ref ax5_14, .ref ax5_15, .ref ax5_16])), (ax5_4, .inl (cx5_4, 36, .inl f_24))] := ⟨_, hP, hD⟩
      have hP9 := hP.sub (ws' := [(h0, .inr (5, [.int xx5_0, .int xx5_1, .ref ax5_2, .ref ax5_3, .ref ax5_4, .ref ax5_5, .ref ax5_6, .ref ax5_7, .ref ax5_8, .ref ax5_9, .ref ax5_10, .ref ax5_11, .ref ax5_12, .ref ax5_13, .ref ax5_14, .ref ax5_15, .ref ax5_16])), (ax5_4, .inl (cx5_4, 36, .inl f_24)), (ax5_8, .inl (cx5_8, 288, .inr (.inl f_12))), (ax5_9, .inl (cx5_9, 288, .inr (.inl f_15))), (ax5_10, .inl (cx5_10, 288, .inl f_18)), (ax5_11, .inl (cx5_11, 288, .inr (.inl f_21)))]) [4, 5, 0, 1, 2, 3] rfl
      have hD9 := hD.sub (ws' := [(h0, .inr (5, [.int xx5_0, .int xx5_1, .ref ax5_2, .ref ax5_3, .ref ax5_4, .ref ax5_5, .ref ax5_6, .ref ax5_7, .ref ax5_8, .ref ax5_9, .ref ax5_10, .ref ax5_11, .ref ax5_12, .ref ax5_13, .ref ax5_14, .ref ax5_15, .ref ax5_16])), (ax5_4, .inl (cx5_4, 36, .inl f_24)), (ax5_8, .inl (cx5_8, 288, .inr (.inl f_12))), (ax5_9, .inl (cx5_9, 288, .inr (.inl f_15))), (ax5_10, .inl (cx5_10, 288, .inl f_18)), (ax5_11, .inl (cx5_11, 288, .inr (.inl f_21)))]) [4, 5, 0, 1, 2, 3] (by decide) rfl
      have hK9 := hK.sub (tys' := [(cx5_4, .int), (cx5_8, .long), (cx5_9, .long), (cx5_10, .int), (cx5_11, .long)]) [0, 1, 2, 3, 4] rfl
      refine W.widen (k := 0) (n := 0) (Nat.le_of_ble_eq_true rfl) (Nat.le_of_ble_eq_true rfl) ?_
      exact W.vret hx hb hr (fun t ht hW => ⟨⟨(), rfl, trivial, f_24, f_12, f_15, f_18, f_21, by rw [ht]; exact hP9, va_K.moved hW.alike hK9, hD9⟩, hS.F ht⟩) hS.2.2 dX5_addField_78
  · refine lv_istore (lv' := [(4, .int 0), (0, .ref h0), (1, .int p0), (2, .long p1)]) hx hb dX5_addField_5 hl (by decide) rfl (fun ls hl => ?_)
    refine lv_iload_n hx hb dX5_addField_7 rfl (lv_at hl 2 rfl) ?_
    refine lv_iload hx hb dX5_addField_8 (lv_at hl 0 rfl) ?_
    have hPc := hP.sub (ws' := []) [] rfl
    have hDc := hD.sub (ws' := []) [] (by decide) rfl
    have hKc := hK.sub (tys' := []) [] rfl
    have hFc := va_free (wc := []) hD hS hA [] rfl
    refine va_calli (va_runS (As := [.int p0, .int 0]) (rest := []) ⟨hx, hb, hml, hown, hts⟩ (s_X5_isFieldOf l dC dI p0 0 H.size) (va_cwS 2 hts (gS mw_15_1 mw_15_2 mw_0_9 mw_48_25) rfl rfl rfl (by decide +kernel) ⟨(Nat.le_of_ble_eq_true rfl), (Nat.le_of_ble_eq_true rfl)⟩) (vS hKc hPc hDc hN) rfl rfl hl.1 rfl (lv_room (Nat.le_of_ble_eq_true rfl)) dX5_addField_10 ⟨(Nat.le_of_ble_eq_true rfl), (Nat.le_of_ble_eq_true rfl)⟩) hS (fun q _ h => hFc q h) hFc (fun r_25 u t H1 locs ht hvm hw hB hz1 hk1 hS => ?_)
    obtain ⟨hP1, hK1, hD1⟩ := hB
    rw [ht] at hP1
    have hK1 := va_K.moved hvm.symm hK1
    obtain ⟨hP, hD⟩ := va_join (wr := [(ax5_8, .inl (cx5_8, 288, .inr (.inl fx5_8))), (ax5_9, .inl (cx5_9, 288, .inr (.inl fx5_9))), (ax5_10, .inl (cx5_10, 288, .inl fx5_10)), (ax5_11, .inl (cx5_11, 288, .inr (.inl fx5_11))), (h0, .inr (5, [.int xx5_0, .int xx5_1, .ref ax5_2, .ref ax5_3, .ref ax5_4, .ref ax5_5, .ref ax5_6, .ref ax5_7, .ref ax5_8, .ref ax5_9, .ref ax5_10, .ref ax5_11, .ref ax5_12, .ref ax5_13, .ref ax5_14, .ref ax5_15, .ref ax5_16])), (ax5_4, .inl (cx5_4, 36, .inl fx5_4))]) (w1 := []) hP hD [] [0, 1, 2, 3, 4, 5] rfl rfl (by decide) (by decide) hk1 hFc hP1 hD1
    clear hPc hDc hKc hP1 hK1 hD1 hFc hk1 hz1
    generalize H1 = H at hP hS ⊢
    have hP : va_P (dC, dI) vwCl [(ax5_8, .inl (cx5_8, 288, .inr (.inl fx5_8))), (ax5_9, .inl (cx5_9, 288, .inr (.inl fx5_9))), (ax5_10, .inl (cx5_10, 288, .inl fx5_10)), (ax5_11, .inl (cx5_11, 288, .inr (.inl fx5_11))), (h0, .inr (5, [.int xx5_0, .int xx5_1, .ref ax5_2, .ref ax5_3, .ref ax5_4, .ref ax5_5, .ref ax5_6, .ref ax5_7, .ref ax5_8, .ref ax5_9, .ref ax5_10, .ref ax5_11, .ref ax5_12, .ref ax5_13, .ref ax5_14, .ref ax5_15, .ref ax5_16])), (ax5_4, .inl (cx5_4, 36, .inl fx5_4))] H := hP
    have hD : va_D A [(ax5_8, .inl (cx5_8, 288, .inr (.inl fx5_8))), (ax5_9, .inl (cx5_9, 288, .inr (.inl fx5_9))), (ax5_10, .inl (cx5_10, 288, .inl fx5_10)), (ax5_11, .inl (cx5_11, 288, .inr (.inl fx5_11))), (h0, .inr (5, [.int xx5_0, .int xx5_1, .ref ax5_2, .ref ax5_3, .ref ax5_4, .ref ax5_5, .ref ax5_6, .ref ax5_7, .ref ax5_8, .ref ax5_9, .ref ax5_10, .ref ax5_11, .ref ax5_12, .ref ax5_13, .ref ax5_14, .ref ax5_15, .ref ax5_16])), (ax5_4, .inl (cx5_4, 36, .inl fx5_4))] := hD
    rcases hw with rfl | ⟨rfl, g_26, g_27, g_28, g_29⟩
    · refine lv_if_eq (tgt := 78) hx hb dX5_addField_13 (by decide) (fun _ => ?_) (fun h => absurd (by decide) h)
      have hP9 := hP.sub (ws' := [(h0, .inr (5, [.int xx5_0, .int xx5_1, .ref ax5_2, .ref ax5_3, .ref ax5_4, .ref ax5_5, .ref ax5_6, .ref ax5_7, .ref ax5_8, .ref ax5_9, .ref ax5_10, .ref ax5_11, .ref ax5_12, .ref ax5_13, .ref ax5_14, .ref ax5_15, .ref ax5_16])), (ax5_4, .inl (cx5_4, 36, .inl fx5_4)), (ax5_8, .inl (cx5_8, 288, .inr (.inl fx5_8))), (ax5_9, .inl (cx5_9, 288, .inr (.inl fx5_9))), (ax5_10, .inl (cx5_10, 288, .inl fx5_10)), (ax5_11, .inl (cx5_11, 288, .inr (.inl fx5_11)))]) [4, 5, 0, 1, 2, 3] rfl
      have hD9 := hD.sub (ws' := [(h0, .inr (5, [.int xx5_0, .int xx5_1, .ref ax5_2, .ref ax5_3, .ref ax5_4, .ref ax5_5, .ref ax5_6, .ref ax5_7, .ref ax5_8, .ref ax5_9, .ref ax5_10, .ref ax5_11, .ref ax5_12, .ref ax5_13, .ref ax5_14, .ref ax5_15, .ref ax5_16])), (ax5_4, .inl (cx5_4, 36, .inl fx5_4)), (ax5_8, .inl (cx5_8, 288, .inr (.inl fx5_8))), (ax5_9, .inl (cx5_9, 288, .inr (.inl fx5_9))), (ax5_10, .inl (cx5_10, 288, .inl fx5_10)), (ax5_11, .inl (cx5_11, 288, .inr (.inl fx5_11)))]) [4, 5, 0, 1, 2, 3] (by decide) rfl
      have hK9 := hK.sub (tys' := [(cx5_4, .int), (cx5_8, .long), (cx5_9, .long), (cx5_10, .int), (cx5_11, .long)]) [0, 1, 2, 3, 4] rfl
      refine W.widen (k := 0) (n := 0) (Nat.le_of_ble_eq_true rfl) (Nat.le_of_ble_eq_true rfl) ?_
      exact W.vret hx hb hr (fun t ht hW => ⟨⟨(), rfl, trivial, fx5_4, fx5_8, fx5_9, fx5_10, fx5_11, by rw [ht]; exact hP9, va_K.moved hW.alike hK9, hD9⟩, hS.F ht⟩) hS.2.2 dX5_addField_78
    · refine lv_if_eq (tgt := 78) hx hb dX5_addField_13 (by decide) (fun h => absurd h (by decide)) (fun _ => ?_)
      refine lv_aload_n hx hb dX5_addField_16 rfl (lv_at hl 1 rfl) ?_
      refine va_get (D := (dC, dI)) (ci := 5) (v := .ref ax5_8) (C := RX5) (T := TX5) (N := 17) hx hb hts inlX5 hown hK hP 4 rfl rfl 8 (by decide) (hts (.fieldLink RX5 38 "ShapeReader$Shapes" "fieldNames" "[J") mw_14_20) (fun _ h9 => h9) rfl dX5_addField_17 ?_
      refine lv_iload_n hx hb dX5_addField_20 rfl (lv_at hl 2 rfl) ?_
      refine lv_bipush (v := 8) hx hb dX5_addField_21 (by decide) ?_
      refine lv_imul hx hb dX5_addField_23 ?_
      refine lv_topi (fun x_32 ex_32 => ?_)
      have bx_32 : (0 : Int) ≤ x_32.toInt ∧ x_32.toInt ≤ (280 : Int) := by have r0 := il_rng p0; have a0 := il_nlt g_26; have a1 := il_nle g_27; have e0 : (0 : Int32).toInt = 0 := (by decide); have e1 : (8 : Int32).toInt = 8 := (by decide); have e2 : (36 : Int32).toInt = 36 := (by decide); rw [ex_32]; have m9 := il_mulE (x := p0) (y := 8) (by rw [e1]; omega) (by rw [e1]; omega); rw [m9, e1]; omega
      refine lv_iload hx hb dX5_addField_24 (lv_at hl 0 rfl) ?_
      refine lv_iadd hx hb dX5_addField_26 ?_
      refine lv_topi (fun x_33 ex_33 => ?_)
      have bx_33 : (0 : Int) ≤ x_33.toInt ∧ x_33.toInt ≤ (280 : Int) := by have r0 := il_rng x_32; have a0 := bx_32.1; have a1 := bx_32.2; have e0 : (0 : Int32).toInt = 0 := (by decide); rw [ex_33, il_addE (by omega) (by omega)]; omega
      refine lv_lload_n hx hb dX5_addField_27 rfl (lv_at hl 3 rfl) ?_
      refine va_last hx hb hK hP hD hS 0 1 rfl rfl (vp_in_iff.mpr (by have a0 := bx_33.1; have a1 := bx_33.2; omega)) dX5_addField_28 (fun H locs hP hD hS => ?_)
      obtain ⟨f_34, hP, hD⟩ : ∃ f_34 : Nat → Int64, va_P (dC, dI) vwCl [(ax5_8, .inl (cx5_8, 288, .inr (.inl f_34))), (ax5_9, .inl (cx5_9, 288, .inr (.inl fx5_9))), (ax5_10, .inl (cx5_10, 288, .inl fx5_10)), (ax5_11, .inl (cx5_11, 288, .inr (.inl fx5_11))), (h0, .inr (5, [.int xx5_0, .int xx5_1, .ref ax5_2, .ref ax5_3, .ref ax5_4, .ref ax5_5, .ref ax5_6, .ref ax5_7, .ref ax5_8, .ref ax5_9, .ref ax5_10, .ref ax5_11, .ref ax5_12, .ref ax5_13, .ref ax5_14, .ref ax5_15, .ref ax5_16])), (ax5_4, .inl (cx5_4, 36, .inl fx5_4))] H ∧ va_D A [(ax5_8, .inl (cx5_8, 288, .inr (.inl f_34))), (ax5_9, .inl (cx5_9, 288, .inr (.inl fx5_9))), (ax5_10, .inl (cx5_10, 288, .inl fx5_10)), (ax5_11, .inl (cx5_11, 288, .inr (.inl fx5_11))), (h0, .inr (5, [.int xx5_0, .int xx5_1, .ref ax5_2, .ref ax5_3, .ref ax5_4, .ref ax5_5, .ref ax5_6, .ref ax5_7, .ref ax5_8, .ref ax5_9, .ref ax5_10, .ref ax5_11, .ref ax5_12, .ref ax5_13, .ref ax5_14, .ref ax5_15, .ref ax5_16])), (ax5_4, .inl (cx5_4, 36, .inl fx5_4))] := ⟨_, hP, hD⟩
      refine lv_aload_n hx hb dX5_addField_29 rfl (lv_at hl 1 rfl) ?_
      refine va_get (D := (dC, dI)) (ci := 5) (v := .ref ax5_9) (C := RX5) (T := TX5) (N := 17) hx hb hts inlX5 hown hK hP 4 rfl rfl 9 (by decide) (hts (.fieldLink RX5 41 "ShapeReader$Shapes" "formerNames" "[J") mw_14_21) (fun _ h9 => h9) rfl dX5_addField_30 ?_
      refine lv_iload_n hx hb dX5_addField_33 rfl (lv_at hl 2 rfl) ?_
      refine lv_bipush (v := 8) hx hb dX5_addField_34 (by decide) ?_
      refine lv_imul hx hb dX5_addField_36 ?_
      refine lv_topi (fun x_35 ex_35 => ?_)
      have bx_35 : (0 : Int) ≤ x_35.toInt ∧ x_35.toInt ≤ (280 : Int) := by have r0 := il_rng p0; have a0 := il_nlt g_26; have a1 := il_nle g_27; have e0 : (0 : Int32).toInt = 0 := (by decide); have e1 : (8 : Int32).toInt = 8 := (by decide); have e2 : (36 : Int32).toInt = 36 := (by decide); rw [ex_35]; have m9 := il_mulE (x := p0) (y := 8) (by rw [e1]; omega) (by rw [e1]; omega); rw [m9, e1]; omega
      refine lv_iload hx hb dX5_addField_37 (lv_at hl 0 rfl) ?_
      refine lv_iadd hx hb dX5_addField_39 ?_
      refine lv_topi (fun x_36 ex_36 => ?_)
      have bx_36 : (0 : Int) ≤ x_36.toInt ∧ x_36.toInt ≤ (280 : Int) := by have r0 := il_rng x_35; have a0 := bx_35.1; have a1 := bx_35.2; have e0 : (0 : Int32).toInt = 0 := (by decide); rw [ex_36, il_addE (by omega) (by omega)]; omega
      refine lv_lconst (v := 0) hx hb dX5_addField_40 (by decide) ?_
      refine va_last hx hb hK hP hD hS 1 2 rfl rfl (vp_in_iff.mpr (by have a0 := bx_36.1; have a1 := bx_36.2; omega)) dX5_addField_41 (fun H locs hP hD hS => ?_)
      obtain ⟨f_37, hP, hD⟩ : ∃ f_37 : Nat → Int64, va_P (dC, dI) vwCl [(ax5_8, .inl (cx5_8, 288, .inr (.inl f_34))), (ax5_9, .inl (cx5_9, 288, .inr (.inl f_37))), (ax5_10, .inl (cx5_10, 288, .inl fx5_10)), (ax5_11, .inl (cx5_11, 288, .inr (.inl fx5_11))), (h0, .inr (5, [.int xx5_0, .int xx5_1, .ref ax5_2, .ref ax5_3, .ref ax5_4, .ref ax5_5, .ref ax5_6, .ref ax5_7, .ref ax5_8, .ref ax5_9, .ref ax5_10, .ref ax5_11, .ref ax5_12, .ref ax5_13, .ref ax5_14, .ref ax5_15, .ref ax5_16])), (ax5_4, .inl (cx5_4, 36, .inl fx5_4))] H ∧ va_D A [(ax5_8, .inl (cx5_8, 288, .inr (.inl f_34))), (ax5_9, .inl (cx5_9, 288, .inr (.inl f_37))), (ax5_10, .inl (cx5_10, 288, .inl fx5_10)), (ax5_11, .inl (cx5_11, 288, .inr (.inl fx5_11))), (h0, .inr (5, [.int xx5_0, .int xx5_1, .ref ax5_2, .ref ax5_3, .ref ax5_4, .ref ax5_5, .ref ax5_6, .ref ax5_7, .ref ax5_8, .ref ax5_9, .ref ax5_10, .ref ax5_11, .ref ax5_12, .ref ax5_13, .ref ax5_14, .ref ax5_15, .ref ax5_16])), (ax5_4, .inl (cx5_4, 36, .inl fx5_4))] := ⟨_, hP, hD⟩
      refine lv_aload_n hx hb dX5_addField_42 rfl (lv_at hl 1 rfl) ?_
      refine va_get (D := (dC, dI)) (ci := 5) (v := .ref ax5_10) (C := RX5) (T := TX5) (N := 17) hx hb hts inlX5 hown hK hP 4 rfl rfl 10 (by decide) (hts (.fieldLink RX5 44 "ShapeReader$Shapes" "fieldTypes" "[I") mw_14_22) (fun _ h9 => h9) rfl dX5_addField_43 ?_
      refine lv_iload_n hx hb dX5_addField_46 rfl (lv_at hl 2 rfl) ?_
      refine lv_bipush (v := 8) hx hb dX5_addField_47 (by decide) ?_
      refine lv_imul hx hb dX5_addField_49 ?_
      refine lv_topi (fun x_38 ex_38 => ?_)
      have bx_38 : (0 : Int) ≤ x_38.toInt ∧ x_38.toInt ≤ (280 : Int) := by have r0 := il_rng p0; have a0 := il_nlt g_26; have a1 := il_nle g_27; have e0 : (0 : Int32).toInt = 0 := (by decide); have e1 : (8 : Int32).toInt = 8 := (by decide); have e2 : (36 : Int32).toInt = 36 := (by decide); rw [ex_38]; have m9 := il_mulE (x := p0) (y := 8) (by rw [e1]; omega) (by rw [e1]; omega); rw [m9, e1]; omega
      refine lv_iload hx hb dX5_addField_50 (lv_at hl 0 rfl) ?_
      refine lv_iadd hx hb dX5_addField_52 ?_
      refine lv_topi (fun x_39 ex_39 => ?_)
      have bx_39 : (0 : Int) ≤ x_39.toInt ∧ x_39.toInt ≤ (280 : Int) := by have r0 := il_rng x_38; have a0 := bx_38.1; have a1 := bx_38.2; have e0 : (0 : Int32).toInt = 0 := (by decide); rw [ex_39, il_addE (by omega) (by omega)]; omega
      refine lv_iconst (v := (-1)) hx hb dX5_addField_53 (by decide) ?_
      refine va_iast hx hb hK hP hD hS 2 3 rfl rfl (vp_in_iff.mpr (by have a0 := bx_39.1; have a1 := bx_39.2; omega)) dX5_addField_54 (fun H locs hP hD hS => ?_)
      obtain ⟨f_40, hP, hD⟩ : ∃ f_40 : Nat → Int32, va_P (dC, dI) vwCl [(ax5_8, .inl (cx5_8, 288, .inr (.inl f_34))), (ax5_9, .inl (cx5_9, 288, .inr (.inl f_37))), (ax5_10, .inl (cx5_10, 288, .inl f_40)), (ax5_11, .inl (cx5_11, 288, .inr (.inl fx5_11))), (h0, .inr (5, [.int xx5_0, .int xx5_1, .ref ax5_2, .ref ax5_3, .ref ax5_4, .ref ax5_5, .ref ax5_6, .ref ax5_7, .ref ax5_8, .ref ax5_9, .ref ax5_10, .ref ax5_11, .ref ax5_12, .ref ax5_13, .ref ax5_14, .ref ax5_15, .ref ax5_16])), (ax5_4, .inl (cx5_4, 36, .inl fx5_4))] H ∧ va_D A [(ax5_8, .inl (cx5_8, 288, .inr (.inl f_34))), (ax5_9, .inl (cx5_9, 288, .inr (.inl f_37))), (ax5_10, .inl (cx5_10, 288, .inl f_40)), (ax5_11, .inl (cx5_11, 288, .inr (.inl fx5_11))), (h0, .inr (5, [.int xx5_0, .int xx5_1, .ref ax5_2, .ref ax5_3, .ref ax5_4, .ref ax5_5, .ref ax5_6, .ref ax5_7, .ref ax5_8, .ref ax5_9, .ref ax5_10, .ref ax5_11, .ref ax5_12, .ref ax5_13, .ref ax5_14, .ref ax5_15, .ref ax5_16])), (ax5_4, .inl (cx5_4, 36, .inl fx5_4))] := ⟨_, hP, hD⟩
      refine lv_aload_n hx hb dX5_addField_55 rfl (lv_at hl 1 rfl) ?_
      refine va_get (D := (dC, dI)) (ci := 5) (v := .ref ax5_11) (C := RX5) (T := TX5) (N := 17) hx hb hts inlX5 hown hK hP 4 rfl rfl 11 (by decide) (hts (.fieldLink RX5 47 "ShapeReader$Shapes" "elseWorths" "[J") mw_14_23) (fun _ h9 => h9) rfl dX5_addField_56 ?_
      refine lv_iload_n hx hb dX5_addField_59 rfl (lv_at hl 2 rfl) ?_
      refine lv_bipush (v := 8) hx hb dX5_addField_60 (by decide) ?_
      refine lv_imul hx hb dX5_addField_62 ?_
      refine lv_topi (fun x_41 ex_41 => ?_)
      have bx_41 : (0 : Int) ≤ x_41.toInt ∧ x_41.toInt ≤ (280 : Int) := by have r0 := il_rng p0; have a0 := il_nlt g_26; have a1 := il_nle g_27; have e0 : (0 : Int32).toInt = 0 := (by decide); have e1 : (8 : Int32).toInt = 8 := (by decide); have e2 : (36 : Int32).toInt = 36 := (by decide); rw [ex_41]; have m9 := il_mulE (x := p0) (y := 8) (by rw [e1]; omega) (by rw [e1]; omega); rw [m9, e1]; omega
      refine lv_iload hx hb dX5_addField_63 (lv_at hl 0 rfl) ?_
      refine lv_iadd hx hb dX5_addField_65 ?_
      refine lv_topi (fun x_42 ex_42 => ?_)
      have bx_42 : (0 : Int) ≤ x_42.toInt ∧ x_42.toInt ≤ (280 : Int) := by have r0 := il_rng x_41; have a0 := bx_41.1; have a1 := bx_41.2; have e0 : (0 : Int32).toInt = 0 := (by decide); rw [ex_42, il_addE (by omega) (by omega)]; omega
      refine lv_lconst (v := 0) hx hb dX5_addField_66 (by decide) ?_
      refine va_last hx hb hK hP hD hS 3 4 rfl rfl (vp_in_iff.mpr (by have a0 := bx_42.1; have a1 := bx_42.2; omega)) dX5_addField_67 (fun H locs hP hD hS => ?_)
      obtain ⟨f_43, hP, hD⟩ : ∃ f_43 : Nat → Int64, va_P (dC, dI) vwCl [(ax5_8, .inl (cx5_8, 288, .inr (.inl f_34))), (ax5_9, .inl (cx5_9, 288, .inr (.inl f_37))), (ax5_10, .inl (cx5_10, 288, .inl f_40)), (ax5_11, .inl (cx5_11, 288, .inr (.inl f_43))), (h0, .inr (5, [.int xx5_0, .int xx5_1, .ref ax5_2, .ref ax5_3, .ref ax5_4, .ref ax5_5, .ref ax5_6, .ref ax5_7, .ref ax5_8, .ref ax5_9, .ref ax5_10, .ref ax5_11, .ref ax5_12, .ref ax5_13, .ref ax5_14, .ref ax5_15, .ref ax5_16])), (ax5_4, .inl (cx5_4, 36, .inl fx5_4))] H ∧ va_D A [(ax5_8, .inl (cx5_8, 288, .inr (.inl f_34))), (ax5_9, .inl (cx5_9, 288, .inr (.inl f_37))), (ax5_10, .inl (cx5_10, 288, .inl f_40)), (ax5_11, .inl (cx5_11, 288, .inr (.inl f_43))), (h0, .inr (5, [.int xx5_0, .int xx5_1, .ref ax5_2, .ref ax5_3, .ref ax5_4, .ref ax5_5, .ref ax5_6, .ref ax5_7, .ref ax5_8, .ref ax5_9, .ref ax5_10, .ref ax5_11, .ref ax5_12, .ref ax5_13, .ref ax5_14, .ref ax5_15, .ref ax5_16])), (ax5_4, .inl (cx5_4, 36, .inl fx5_4))] := ⟨_, hP, hD⟩
      refine lv_aload_n hx hb dX5_addField_68 rfl (lv_at hl 1 rfl) ?_
      refine va_get (D := (dC, dI)) (ci := 5) (v := .ref ax5_4) (C := RX5) (T := TX5) (N := 17) hx hb hts inlX5 hown hK hP 4 rfl rfl 4 (by decide) (hts (.fieldLink RX5 25 "ShapeReader$Shapes" "fieldCounts" "[I") mw_14_16) (fun _ h9 => h9) rfl dX5_addField_69 ?_
      refine lv_iload_n hx hb dX5_addField_72 rfl (lv_at hl 2 rfl) ?_
      refine lv_dup2_11 hx hb dX5_addField_73 rfl rfl ?_
      refine va_iald hx hb hK hP 5 0 rfl rfl (vp_in_iff.mpr (by have a0 := il_nlt g_26; have a1 := il_nle g_27; have e0 : (0 : Int32).toInt = 0 := (by decide); have e1 : (36 : Int32).toInt = 36 := (by decide); omega)) dX5_addField_74 ?_
      refine lv_topi (fun x_44 ex_44 => ?_)
      refine lv_iconst (v := 1) hx hb dX5_addField_75 (by decide) ?_
      refine lv_iadd hx hb dX5_addField_76 ?_
      refine lv_topi (fun x_45 ex_45 => ?_)
      refine va_iast hx hb hK hP hD hS 5 0 rfl rfl (vp_in_iff.mpr (by have a0 := il_nlt g_26; have a1 := il_nle g_27; have e0 : (0 : Int32).toInt = 0 := (by decide); have e1 : (36 : Int32).toInt = 36 := (by decide); omega)) dX5_addField_77 (fun H locs hP hD hS => ?_)
      obtain ⟨f_46, hP, hD⟩ : ∃ f_46 : Nat → Int32, va_P (dC, dI) vwCl [(ax5_8, .inl (cx5_8, 288, .inr (.inl f_34))), (ax5_9, .inl (cx5_9, 288, .inr (.inl f_37))), (ax5_10, .inl (cx5_10, 288, .inl f_40)), (ax5_11, .inl (cx5_11, 288, .inr (.inl f_43))), (h0, .inr (5, [.int xx5_0, .int xx5_1, .ref ax5_2, .ref ax5_3, .ref ax5_4, .ref ax5_5, .ref ax5_6, .ref ax5_7, .ref ax5_8, .ref ax5_9, .ref ax5_10, .ref ax5_11, .ref ax5_12, .ref ax5_13, .ref ax5_14, .ref ax5_15, .ref ax5_16])), (ax5_4, .inl (cx5_4, 36, .inl f_46))] H ∧ va_D A [(ax5_8, .inl (cx5_8, 288, .inr (.inl f_34))), (ax5_9, .inl (cx5_9, 288, .inr (.inl f_37))), (ax5_10, .inl (cx5_10, 288, .inl f_40)), (ax5_11, .inl (cx5_11, 288, .inr (.inl f_43))), (h0, .inr (5, [.int xx5_0, .int xx5_1, .ref ax5_2, .ref ax5_3, .ref ax5_4, .ref ax5_5, .ref ax5_6, .ref ax5_7, .ref ax5_8, .ref ax5_9, .ref ax5_10, .ref ax5_11, .ref ax5_12, .ref ax5_13, .ref ax5_14, .ref ax5_15, .ref ax5_16])), (ax5_4, .inl (cx5_4, 36, .inl f_46))] := ⟨_, hP, hD⟩
      have hP9 := hP.sub (ws' := [(h0, .inr (5, [.int xx5_0, .int xx5_1, .ref ax5_2, .ref ax5_3, .ref ax5_4, .ref ax5_5, .ref ax5_6, .ref ax5_7, .ref ax5_8, .ref ax5_9, .ref ax5_10, .ref ax5_11, .ref ax5_12, .ref ax5_13, .ref ax5_14, .ref ax5_15, .ref ax5_16])), (ax5_4, .inl (cx5_4, 36, .inl f_46)), (ax5_8, .inl (cx5_8, 288, .inr (.inl f_34))), (ax5_9, .inl (cx5_9, 288, .inr (.inl f_37))), (ax5_10, .inl (cx5_10, 288, .inl f_40)), (ax5_11, .inl (cx5_11, 288, .inr (.inl f_43)))]) [4, 5, 0, 1, 2, 3] rfl
      have hD9 := hD.sub (ws' := [(h0, .inr (5, [.int xx5_0, .int xx5_1, .ref ax5_2, .ref ax5_3, .ref ax5_4, .ref ax5_5, .ref ax5_6, .ref ax5_7, .ref ax5_8, .ref ax5_9, .ref ax5_10, .ref ax5_11, .ref ax5_12, .ref ax5_13, .ref ax5_14, .ref ax5_15, .ref ax5_16])), (ax5_4, .inl (cx5_4, 36, .inl f_46)), (ax5_8, .inl (cx5_8, 288, .inr (.inl f_34))), (ax5_9, .inl (cx5_9, 288, .inr (.inl f_37))), (ax5_10, .inl (cx5_10, 288, .inl f_40)), (ax5_11, .inl (cx5_11, 288, .inr (.inl f_43)))]) [4, 5, 0, 1, 2, 3] (by decide) rfl
      have hK9 := hK.sub (tys' := [(cx5_4, .int), (cx5_8, .long), (cx5_9, .long), (cx5_10, .int), (cx5_11, .long)]) [0, 1, 2, 3, 4] rfl
      refine W.widen (k := 0) (n := 0) (Nat.le_of_ble_eq_true rfl) (Nat.le_of_ble_eq_true rfl) ?_
      exact W.vret hx hb hr (fun t ht hW => ⟨⟨(), rfl, trivial, f_46, f_34, f_37, f_40, f_43, by rw [ht]; exact hP9, va_K.moved hW.alike hK9, hD9⟩, hS.F ht⟩) hS.2.2 dX5_addField_78

set_option maxRecDepth 100000 in
set_option maxHeartbeats 4000000 in
theorem s_X5_setType (l : Launch) (dC : Nat → ClassId) (dI : Nat → Nat → Nat) (h0 : Nat) (xx5_0 : Int32) (xx5_1 : Int32) (ax5_2 : Nat) (ax5_3 : Nat) (ax5_4 : Nat) (ax5_5 : Nat) (ax5_6 : Nat) (ax5_7 : Nat) (ax5_8 : Nat) (ax5_9 : Nat) (ax5_10 : Nat) (cx5_10 : ClassId) (fx5_10 : Nat → Int32) (ax5_11 : Nat) (ax5_12 : Nat) (ax5_13 : Nat) (ax5_14 : Nat) (ax5_15 : Nat) (ax5_16 : Nat) (p0 : Int32) (p1 : Int32) (p2 : Int32) (hi_xx5_0 : (0 : Int) ≤ xx5_0.toInt ∧ xx5_0.toInt ≤ (6 : Int)) (hi_xx5_1 : (0 : Int) ≤ xx5_1.toInt ∧ xx5_1.toInt ≤ (262 : Int)) (sz : Nat) : Met l yX5_setType (.code yX5_setType cX5_setType 4 none :: pw) ({ frames := 1, cells := 0, slots := 0, locals := 21 }) (va_Pc [.ref h0, .int p0, .int p1, .int p2] (vPre dC dI [(h0, .inr (5, [.int xx5_0, .int xx5_1, .ref ax5_2, .ref ax5_3, .ref ax5_4, .ref ax5_5, .ref ax5_6, .ref ax5_7, .ref ax5_8, .ref ax5_9, .ref ax5_10, .ref ax5_11, .ref ax5_12, .ref ax5_13, .ref ax5_14, .ref ax5_15, .ref ax5_16])), (ax5_10, .inl (cx5_10, 288, .inl fx5_10))] [(cx5_10, .int)] sz)) (va_Qv (fun (_ : Unit) => True) (fun (_ : Unit) t => ∃ (z1 : Nat → Int32), vPst dC dI (va_A [(h0, .inr (5, [.int xx5_0, .int xx5_1, .ref ax5_2, .ref ax5_3, .ref ax5_4, .ref ax5_5, .ref ax5_6, .ref ax5_7, .ref ax5_8, .ref ax5_9, .ref ax5_10, .ref ax5_11, .ref ax5_12, .ref ax5_13, .ref ax5_14, .ref ax5_15, .ref ax5_16])), (ax5_10, .inl (cx5_10, 288, .inl fx5_10))] sz) [(h0, .inr (5, [.int xx5_0, .int xx5_1, .ref ax5_2, .ref ax5_3, .ref ax5_4, .ref ax5_5, .ref ax5_6, .ref ax5_7, .ref ax5_8, .ref ax5_9, .ref ax5_10, .ref ax5_11, .ref ax5_12, .ref ax5_13, .ref ax5_14, .ref ax5_15, .ref ax5_16])), (ax5_10, .inl (cx5_10, 288, .inl z1))] [(cx5_10, .int)] t) (va_A [(h0, .inr (5, [.int xx5_0, .int xx5_1, .ref ax5_2, .ref ax5_3, .ref ax5_4, .ref ax5_5, .ref ax5_6, .ref ax5_7, .ref ax5_8, .ref ax5_9, .ref ax5_10, .ref ax5_11, .ref ax5_12, .ref ax5_13, .ref ax5_14, .ref ax5_15, .ref ax5_16])), (ax5_10, .inl (cx5_10, 288, .inl fx5_10))] sz)) 0 0 (va_A [(h0, .inr (5, [.int xx5_0, .int xx5_1, .ref ax5_2, .ref ax5_3, .ref ax5_4, .ref ax5_5, .ref ax5_6, .ref ax5_7, .ref ax5_8, .ref ax5_9, .ref ax5_10, .ref ax5_11, .ref ax5_12, .ref ax5_13, .ref ax5_14, .ref ax5_15, .ref ax5_16])), (ax5_10, .inl (cx5_10, 288, .inl fx5_10))] sz) := by
  refine Met.ofW (cc := cX5_setType) (maxL := 4) (ret := none) (by decide) rfl ?_
  intro p e s m args below meth c s₁ B hml hv
  obtain ⟨rfl, hsz, hP, hK, hD0, hN⟩ := hv
  have hx := B.exec
  have hb := B.bytes
  have hr := B.returns
  have hts := atoms_spec (ws := .code yX5_setType cX5_setType 4 none :: pw) B.pre
  have hts : ∀ w ∈ pw, w.before _ s = true := fun w h => hts w (List.mem_cons_of_mem _ h)
  have hown : s.vm.findClass RX5 = some m.cls := findClass_of_methodNamed B.named
  have hlocks := B.notSynchronized
  subst hsz
  have hD := hD0.self (sz := s.heap.size)
  generalize hAe : va_A [(h0, .inr (5, [.int xx5_0, .int xx5_1, .ref ax5_2, .ref ax5_3, .ref ax5_4, .ref ax5_5, .ref ax5_6, .ref ax5_7, .ref ax5_8, .ref ax5_9, .ref ax5_10, .ref ax5_11, .ref ax5_12, .ref ax5_13, .ref ax5_14, .ref ax5_15, .ref ax5_16])), (ax5_10, .inl (cx5_10, 288, .inl fx5_10))] s.heap.size = A at hD ⊢
  have hA : ∀ q : Nat, s.heap.size ≤ q → A q := fun q h => by rw [← hAe]; exact Or.inr h
  have hS : va_S A s.heap s.heap [] := va_S.rf
  have hP : va_P (dC, dI) vwCl [(h0, .inr (5, [.int xx5_0, .int xx5_1, .ref ax5_2, .ref ax5_3, .ref ax5_4, .ref ax5_5, .ref ax5_6, .ref ax5_7, .ref ax5_8, .ref ax5_9, .ref ax5_10, .ref ax5_11, .ref ax5_12, .ref ax5_13, .ref ax5_14, .ref ax5_15, .ref ax5_16])), (ax5_10, .inl (cx5_10, 288, .inl fx5_10))] s.heap := hP
  have hl := lv_entry ([.ref h0, .int p0, .int p1, .int p2]) (n := 4) (Nat.le_of_ble_eq_true rfl)
  rw [lg_entry_eq]
  generalize (lg_sl ([.ref h0, .int p0, .int p1, .int p2]) ++ List.replicate (4 - (lg_sl ([.ref h0, .int p0, .int p1, .int p2])).length) Slot.unset).toArray = ls at hl ⊢
  have hl : lv_has ls 4 [(0, .ref h0), (1, .int p0), (2, .int p1), (3, .int p2)] := hl
  refine lv_iload_n hx hb dX5_setType_0 rfl (lv_at hl 1 rfl) ?_
  refine lv_iload_n hx hb dX5_setType_1 rfl (lv_at hl 2 rfl) ?_
  have hPc := hP.sub (ws' := []) [] rfl
  have hDc := hD.sub (ws' := []) [] (by decide) rfl
  have hKc := hK.sub (tys' := []) [] rfl
  have hFc := va_free (wc := []) hD hS hA [] rfl
  refine va_calli (va_runS (As := [.int p0, .int p1]) (rest := []) ⟨hx, hb, hml, hown, hts⟩ (s_X5_isFieldOf l dC dI p0 p1 s.heap.size) (va_cwS 2 hts (gS mw_15_1 mw_15_2 mw_0_9 mw_48_25) rfl rfl rfl (by decide +kernel) ⟨(Nat.le_of_ble_eq_true rfl), (Nat.le_of_ble_eq_true rfl)⟩) (vS hKc hPc hDc hN) rfl rfl hl.1 rfl (lv_room (Nat.le_of_ble_eq_true rfl)) dX5_setType_2 ⟨(Nat.le_of_ble_eq_true rfl), (Nat.le_of_ble_eq_true rfl)⟩) hS (fun q _ h => hFc q h) hFc (fun r_1 u t H1 locs ht hvm hw hB hz1 hk1 hS => ?_)
  obtain ⟨hP1, hK1, hD1⟩ := hB
  rw [ht] at hP1
  have hK1 := va_K.moved hvm.symm hK1
  obtain ⟨hP, hD⟩ := va_join (wr := [(h0, .inr (5, [.int xx5_0, .int xx5_1, .ref ax5_2, .ref ax5_3, .ref ax5_4, .ref ax5_5, .ref ax5_6, .ref ax5_7, .ref ax5_8, .ref ax5_9, .ref ax5_10, .ref ax5_11, .ref ax5_12, .ref ax5_13, .ref ax5_14, .ref ax5_15, .ref ax5_16])), (ax5_10, .inl (cx5_10, 288, .inl fx5_10))]) (w1 := []) hP hD [] [0, 1] rfl rfl (by decide) (by decide) hk1 hFc hP1 hD1
  clear hPc hDc hKc hP1 hK1 hD1 hFc hk1 hz1
  generalize H1 = H at hP hS ⊢
  have hP : va_P (dC, dI) vwCl [(h0, .inr (5, [.int xx5_0, .int xx5_1, .ref ax5_2, .ref ax5_3, .ref ax5_4, .ref ax5_5, .ref ax5_6, .ref ax5_7, .ref ax5_8, .ref ax5_9, .ref ax5_10, .ref ax5_11, .ref ax5_12, .ref ax5_13, .ref ax5_14, .ref ax5_15, .ref ax5_16])), (ax5_10, .inl (cx5_10, 288, .inl fx5_10))] H := hP
  have hD : va_D A [(h0, .inr (5, [.int xx5_0, .int xx5_1, .ref ax5_2, .ref ax5_3, .ref ax5_4, .ref ax5_5, .ref ax5_6, .ref ax5_7, .ref ax5_8, .ref ax5_9, .ref ax5_10, .ref ax5_11, .ref ax5_12, .ref ax5_13, .ref ax5_14, .ref ax5_15, .ref ax5_16])), (ax5_10, .inl (cx5_10, 288, .inl fx5_10))] := hD
  rcases hw with rfl | ⟨rfl, g_2, g_3, g_4, g_5⟩
  · refine lv_if_eq (tgt := 20) hx hb dX5_setType_5 (by decide) (fun _ => ?_) (fun h => absurd (by decide) h)
    have hP9 := hP.sub (ws' := [(h0, .inr (5, [.int xx5_0, .int xx5_1, .ref ax5_2, .ref ax5_3, .ref ax5_4, .ref ax5_5, .ref ax5_6, .ref ax5_7, .ref ax5_8, .ref ax5_9, .ref ax5_10, .ref ax5_11, .ref ax5_12, .ref ax5_13, .ref ax5_14, .ref ax5_15, .ref ax5_16])), (ax5_10, .inl (cx5_10, 288, .inl fx5_10))]) [0, 1] rfl
    have hD9 := hD.sub (ws' := [(h0, .inr (5, [.int xx5_0, .int xx5_1, .ref ax5_2, .ref ax5_3, .ref ax5_4, .ref ax5_5, .ref ax5_6, .ref ax5_7, .ref ax5_8, .ref ax5_9, .ref ax5_10, .ref ax5_11, .ref ax5_12, .ref ax5_13, .ref ax5_14, .ref ax5_15, .ref ax5_16])), (ax5_10, .inl (cx5_10, 288, .inl fx5_10))]) [0, 1] (by decide) rfl
    have hK9 := hK.sub (tys' := [(cx5_10, .int)]) [0] rfl
    refine W.widen (k := 0) (n := 0) (Nat.le_of_ble_eq_true rfl) (Nat.le_of_ble_eq_true rfl) ?_
    exact W.vret hx hb hr (fun t ht hW => ⟨⟨(), rfl, trivial, fx5_10, by rw [ht]; exact hP9, va_K.moved hW.alike hK9, hD9⟩, hS.F ht⟩) hS.2.2 dX5_setType_20
  · refine lv_if_eq (tgt := 20) hx hb dX5_setType_5 (by decide) (fun h => absurd h (by decide)) (fun _ => ?_)
    refine lv_aload_n hx hb dX5_setType_8 rfl (lv_at hl 0 rfl) ?_
    refine va_get (D := (dC, dI)) (ci := 5) (v := .ref ax5_10) (C := RX5) (T := TX5) (N := 17) hx hb hts inlX5 hown hK hP 0 rfl rfl 10 (by decide) (hts (.fieldLink RX5 44 "ShapeReader$Shapes" "fieldTypes" "[I") mw_14_22) (fun _ h9 => h9) rfl dX5_setType_9 ?_
    refine lv_iload_n hx hb dX5_setType_12 rfl (lv_at hl 1 rfl) ?_
    refine lv_bipush (v := 8) hx hb dX5_setType_13 (by decide) ?_
    refine lv_imul hx hb dX5_setType_15 ?_
    refine lv_topi (fun x_8 ex_8 => ?_)
    have bx_8 : (0 : Int) ≤ x_8.toInt ∧ x_8.toInt ≤ (280 : Int) := by have r0 := il_rng p0; have a0 := il_nlt g_2; have a1 := il_nle g_3; have e0 : (0 : Int32).toInt = 0 := (by decide); have e1 : (8 : Int32).toInt = 8 := (by decide); have e2 : (36 : Int32).toInt = 36 := (by decide); rw [ex_8]; have m9 := il_mulE (x := p0) (y := 8) (by rw [e1]; omega) (by rw [e1]; omega); rw [m9, e1]; omega
    refine lv_iload_n hx hb dX5_setType_16 rfl (lv_at hl 2 rfl) ?_
    refine lv_iadd hx hb dX5_setType_17 ?_
    refine lv_topi (fun x_9 ex_9 => ?_)
    have bx_9 : (0 : Int) ≤ x_9.toInt ∧ x_9.toInt ≤ (287 : Int) := by have r0 := il_rng x_8; have r1 := il_rng p1; have a0 := bx_8.1; have a1 := bx_8.2; have a2 := il_nlt g_4; have a3 := il_nle g_5; have e0 : (0 : Int32).toInt = 0 := (by decide); have e1 : (8 : Int32).toInt = 8 := (by decide); rw [ex_9, il_addE (by omega) (by omega)]; omega
    refine lv_iload_n hx hb dX5_setType_18 rfl (lv_at hl 3 rfl) ?_
    refine va_iast hx hb hK hP hD hS 1 0 rfl rfl (vp_in_iff.mpr (by have a0 := bx_9.1; have a1 := bx_9.2; omega)) dX5_setType_19 (fun H locs hP hD hS => ?_)
    obtain ⟨f_10, hP, hD⟩ : ∃ f_10 : Nat → Int32, va_P (dC, dI) vwCl [(h0, .inr (5, [.int xx5_0, .int xx5_1, .ref ax5_2, .ref ax5_3, .ref ax5_4, .ref ax5_5, .ref ax5_6, .ref ax5_7, .ref ax5_8, .ref ax5_9, .ref ax5_10, .ref ax5_11, .ref ax5_12, .ref ax5_13, .ref ax5_14, .ref ax5_15, .ref ax5_16])), (ax5_10, .inl (cx5_10, 288, .inl f_10))] H ∧ va_D A [(h0, .inr (5, [.int xx5_0, .int xx5_1, .ref ax5_2, .ref ax5_3, .ref ax5_4, .ref ax5_5, .ref ax5_6, .ref ax5_7, .ref ax5_8, .ref ax5_9, .ref ax5_10, .ref ax5_11, .ref ax5_12, .ref ax5_13, .ref ax5_14, .ref ax5_15, .ref ax5_16])), (ax5_10, .inl (cx5_10, 288, .inl f_10))] := ⟨_, hP, hD⟩
    have hP9 := hP.sub (ws' := [(h0, .inr (5, [.int xx5_0, .int xx5_1, .ref ax5_2, .ref ax5_3, .ref ax5_4, .ref ax5_5, .ref ax5_6, .ref ax5_7, .ref ax5_8, .ref ax5_9, .ref ax5_10, .ref ax5_11, .ref ax5_12, .ref ax5_13, .ref ax5_14, .ref ax5_15, .ref ax5_16])), (ax5_10, .inl (cx5_10, 288, .inl f_10))]) [0, 1] rfl
    have hD9 := hD.sub (ws' := [(h0, .inr (5, [.int xx5_0, .int xx5_1, .ref ax5_2, .ref ax5_3, .ref ax5_4, .ref ax5_5, .ref ax5_6, .ref ax5_7, .ref ax5_8, .ref ax5_9, .ref ax5_10, .ref ax5_11, .ref ax5_12, .ref ax5_13, .ref ax5_14, .ref ax5_15, .ref ax5_16])), (ax5_10, .inl (cx5_10, 288, .inl f_10))]) [0, 1] (by decide) rfl
    have hK9 := hK.sub (tys' := [(cx5_10, .int)]) [0] rfl
    refine W.widen (k := 0) (n := 0) (Nat.le_of_ble_eq_true rfl) (Nat.le_of_ble_eq_true rfl) ?_
    exact W.vret hx hb hr (fun t ht hW => ⟨⟨(), rfl, trivial, f_10, by rw [ht]; exact hP9, va_K.moved hW.alike hK9, hD9⟩, hS.F ht⟩) hS.2.2 dX5_setType_20

set_option maxRecDepth 100000 in
set_option maxHeartbeats 4000000 in
theorem s_X5_setFormerName (l : Launch) (dC : Nat → ClassId) (dI : Nat → Nat → Nat) (h0 : Nat) (xx5_0 : Int32) (xx5_1 : Int32) (ax5_2 : Nat) (ax5_3 : Nat) (ax5_4 : Nat) (ax5_5 : Nat) (ax5_6 : Nat) (ax5_7 : Nat) (ax5_8 : Nat) (ax5_9 : Nat) (cx5_9 : ClassId) (fx5_9 : Nat → Int64) (ax5_10 : Nat) (ax5_11 : Nat) (ax5_12 : Nat) (ax5_13 : Nat) (ax5_14 : Nat) (ax5_15 : Nat) (ax5_16 : Nat) (p0 : Int32) (p1 : Int32) (p2 : Int64) (hi_xx5_0 : (0 : Int) ≤ xx5_0.toInt ∧ xx5_0.toInt ≤ (6 : Int)) (hi_xx5_1 : (0 : Int) ≤ xx5_1.toInt ∧ xx5_1.toInt ≤ (262 : Int)) (sz : Nat) : Met l yX5_setFormerName (.code yX5_setFormerName cX5_setFormerName 5 none :: pw) ({ frames := 1, cells := 0, slots := 0, locals := 21 }) (va_Pc [.ref h0, .int p0, .int p1, .long p2] (vPre dC dI [(h0, .inr (5, [.int xx5_0, .int xx5_1, .ref ax5_2, .ref ax5_3, .ref ax5_4, .ref ax5_5, .ref ax5_6, .ref ax5_7, .ref ax5_8, .ref ax5_9, .ref ax5_10, .ref ax5_11, .ref ax5_12, .ref ax5_13, .ref ax5_14, .ref ax5_15, .ref ax5_16])), (ax5_9, .inl (cx5_9, 288, .inr (.inl fx5_9)))] [(cx5_9, .long)] sz)) (va_Qv (fun (_ : Unit) => True) (fun (_ : Unit) t => ∃ (z1 : Nat → Int64), vPst dC dI (va_A [(h0, .inr (5, [.int xx5_0, .int xx5_1, .ref ax5_2, .ref ax5_3, .ref ax5_4, .ref ax5_5, .ref ax5_6, .ref ax5_7, .ref ax5_8, .ref ax5_9, .ref ax5_10, .ref ax5_11, .ref ax5_12, .ref ax5_13, .ref ax5_14, .ref ax5_15, .ref ax5_16])), (ax5_9, .inl (cx5_9, 288, .inr (.inl fx5_9)))] sz) [(h0, .inr (5, [.int xx5_0, .int xx5_1, .ref ax5_2, .ref ax5_3, .ref ax5_4, .ref ax5_5, .ref ax5_6, .ref ax5_7, .ref ax5_8, .ref ax5_9, .ref ax5_10, .ref ax5_11, .ref ax5_12, .ref ax5_13, .ref ax5_14, .ref ax5_15, .ref ax5_16])), (ax5_9, .inl (cx5_9, 288, .inr (.inl z1)))] [(cx5_9, .long)] t) (va_A [(h0, .inr (5, [.int xx5_0, .int xx5_1, .ref ax5_2, .ref ax5_3, .ref ax5_4, .ref ax5_5, .ref ax5_6, .ref ax5_7, .ref ax5_8, .ref ax5_9, .ref ax5_10, .ref ax5_11, .ref ax5_12, .ref ax5_13, .ref ax5_14, .ref ax5_15, .ref ax5_16])), (ax5_9, .inl (cx5_9, 288, .inr (.inl fx5_9)))] sz)) 0 0 (va_A [(h0, .inr (5, [.int xx5_0, .int xx5_1, .ref ax5_2, .ref ax5_3, .ref ax5_4, .ref ax5_5, .ref ax5_6, .ref ax5_7, .ref ax5_8, .ref ax5_9, .ref ax5_10, .ref ax5_11, .ref ax5_12, .ref ax5_13, .ref ax5_14, .ref ax5_15, .ref ax5_16])), (ax5_9, .inl (cx5_9, 288, .inr (.inl fx5_9)))] sz) := by
  refine Met.ofW (cc := cX5_setFormerName) (maxL := 5) (ret := none) (by decide) rfl ?_
  intro p e s m args below meth c s₁ B hml hv
  obtain ⟨rfl, hsz, hP, hK, hD0, hN⟩ := hv
  have hx := B.exec
  have hb := B.bytes
  have hr := B.returns
  have hts := atoms_spec (ws := .code yX5_setFormerName cX5_setFormerName 5 none :: pw) B.pre
  have hts : ∀ w ∈ pw, w.before _ s = true := fun w h => hts w (List.mem_cons_of_mem _ h)
  have hown : s.vm.findClass RX5 = some m.cls := findClass_of_methodNamed B.named
  have hlocks := B.notSynchronized
  subst hsz
  have hD := hD0.self (sz := s.heap.size)
  generalize hAe : va_A [(h0, .inr (5, [.int xx5_0, .int xx5_1, .ref ax5_2, .ref ax5_3, .ref ax5_4, .ref ax5_5, .ref ax5_6, .ref ax5_7, .ref ax5_8, .ref ax5_9, .ref ax5_10, .ref ax5_11, .ref ax5_12, .ref ax5_13, .ref ax5_14, .ref ax5_15, .ref ax5_16])), (ax5_9, .inl (cx5_9, 288, .inr (.inl fx5_9)))] s.heap.size = A at hD ⊢
  have hA : ∀ q : Nat, s.heap.size ≤ q → A q := fun q h => by rw [← hAe]; exact Or.inr h
  have hS : va_S A s.heap s.heap [] := va_S.rf
  have hP : va_P (dC, dI) vwCl [(h0, .inr (5, [.int xx5_0, .int xx5_1, .ref ax5_2, .ref ax5_3, .ref ax5_4, .ref ax5_5, .ref ax5_6, .ref ax5_7, .ref ax5_8, .ref ax5_9, .ref ax5_10, .ref ax5_11, .ref ax5_12, .ref ax5_13, .ref ax5_14, .ref ax5_15, .ref ax5_16])), (ax5_9, .inl (cx5_9, 288, .inr (.inl fx5_9)))] s.heap := hP
  have hl := lv_entry ([.ref h0, .int p0, .int p1, .long p2]) (n := 5) (Nat.le_of_ble_eq_true rfl)
  rw [lg_entry_eq]
  generalize (lg_sl ([.ref h0, .int p0, .int p1, .long p2]) ++ List.replicate (5 - (lg_sl ([.ref h0, .int p0, .int p1, .long p2])).length) Slot.unset).toArray = ls at hl ⊢
  have hl : lv_has ls 5 [(0, .ref h0), (1, .int p0), (2, .int p1), (3, .long p2)] := hl
  refine lv_iload_n hx hb dX5_setFormerName_0 rfl (lv_at hl 1 rfl) ?_
  refine lv_iload_n hx hb dX5_setFormerName_1 rfl (lv_at hl 2 rfl) ?_
  have hPc := hP.sub (ws' := []) [] rfl
  have hDc := hD.sub (ws' := []) [] (by decide) rfl
  have hKc := hK.sub (tys' := []) [] rfl
  have hFc := va_free (wc := []) hD hS hA [] rfl
  refine va_calli (va_runS (As := [.int p0, .int p1]) (rest := []) ⟨hx, hb, hml, hown, hts⟩ (s_X5_isFieldOf l dC dI p0 p1 s.heap.size) (va_cwS 2 hts (gS mw_15_1 mw_15_2 mw_0_9 mw_48_25) rfl rfl rfl (by decide +kernel) ⟨(Nat.le_of_ble_eq_true rfl), (Nat.le_of_ble_eq_true rfl)⟩) (vS hKc hPc hDc hN) rfl rfl hl.1 rfl (lv_room (Nat.le_of_ble_eq_true rfl)) dX5_setFormerName_2 ⟨(Nat.le_of_ble_eq_true rfl), (Nat.le_of_ble_eq_true rfl)⟩) hS (fun q _ h => hFc q h) hFc (fun r_1 u t H1 locs ht hvm hw hB hz1 hk1 hS => ?_)
  obtain ⟨hP1, hK1, hD1⟩ := hB
  rw [ht] at hP1
  have hK1 := va_K.moved hvm.symm hK1
  obtain ⟨hP, hD⟩ := va_join (wr := [(h0, .inr (5, [.int xx5_0, .int xx5_1, .ref ax5_2, .ref ax5_3, .ref ax5_4, .ref ax5_5, .ref ax5_6, .ref ax5_7, .ref ax5_8, .ref ax5_9, .ref ax5_10, .ref ax5_11, .ref ax5_12, .ref ax5_13, .ref ax5_14, .ref ax5_15, .ref ax5_16])), (ax5_9, .inl (cx5_9, 288, .inr (.inl fx5_9)))]) (w1 := []) hP hD [] [0, 1] rfl rfl (by decide) (by decide) hk1 hFc hP1 hD1
  clear hPc hDc hKc hP1 hK1 hD1 hFc hk1 hz1
  generalize H1 = H at hP hS ⊢
  have hP : va_P (dC, dI) vwCl [(h0, .inr (5, [.int xx5_0, .int xx5_1, .ref ax5_2, .ref ax5_3, .ref ax5_4, .ref ax5_5, .ref ax5_6, .ref ax5_7, .ref ax5_8, .ref ax5_9, .ref ax5_10, .ref ax5_11, .ref ax5_12, .ref ax5_13, .ref ax5_14, .ref ax5_15, .ref ax5_16])), (ax5_9, .inl (cx5_9, 288, .inr (.inl fx5_9)))] H := hP
  have hD : va_D A [(h0, .inr (5, [.int xx5_0, .int xx5_1, .ref ax5_2, .ref ax5_3, .ref ax5_4, .ref ax5_5, .ref ax5_6, .ref ax5_7, .ref ax5_8, .ref ax5_9, .ref ax5_10, .ref ax5_11, .ref ax5_12, .ref ax5_13, .ref ax5_14, .ref ax5_15, .ref ax5_16])), (ax5_9, .inl (cx5_9, 288, .inr (.inl fx5_9)))] := hD
  rcases hw with rfl | ⟨rfl, g_2, g_3, g_4, g_5⟩
  · refine lv_if_eq (tgt := 20) hx hb dX5_setFormerName_5 (by decide) (fun _ => ?_) (fun h => absurd (by decide) h)
    have hP9 := hP.sub (ws' := [(h0, .inr (5, [.int xx5_0, .int xx5_1, .ref ax5_2, .ref ax5_3, .ref ax5_4, .ref ax5_5, .ref ax5_6, .ref ax5_7, .ref ax5_8, .ref ax5_9, .ref ax5_10, .ref ax5_11, .ref ax5_12, .ref ax5_13, .ref ax5_14, .ref ax5_15, .ref ax5_16])), (ax5_9, .inl (cx5_9, 288, .inr (.inl fx5_9)))]) [0, 1] rfl
    have hD9 := hD.sub (ws' := [(h0, .inr (5, [.int xx5_0, .int xx5_1, .ref ax5_2, .ref ax5_3, .ref ax5_4, .ref ax5_5, .ref ax5_6, .ref ax5_7, .ref ax5_8, .ref ax5_9, .ref ax5_10, .ref ax5_11, .ref ax5_12, .ref ax5_13, .ref ax5_14, .ref ax5_15, .ref ax5_16])), (ax5_9, .inl (cx5_9, 288, .inr (.inl fx5_9)))]) [0, 1] (by decide) rfl
    have hK9 := hK.sub (tys' := [(cx5_9, .long)]) [0] rfl
    refine W.widen (k := 0) (n := 0) (Nat.le_of_ble_eq_true rfl) (Nat.le_of_ble_eq_true rfl) ?_
    exact W.vret hx hb hr (fun t ht hW => ⟨⟨(), rfl, trivial, fx5_9, by rw [ht]; exact hP9, va_K.moved hW.alike hK9, hD9⟩, hS.F ht⟩) hS.2.2 dX5_setFormerName_20
  · refine lv_if_eq (tgt := 20) hx hb dX5_setFormerName_5 (by decide) (fun h => absurd h (by decide)) (fun _ => ?_)
    refine lv_aload_n hx hb dX5_setFormerName_8 rfl (lv_at hl 0 rfl) ?_
    refine va_get (D := (dC, dI)) (ci := 5) (v := .ref ax5_9) (C := RX5) (T := TX5) (N := 17) hx hb hts inlX5 hown hK hP 0 rfl rfl 9 (by decide) (hts (.fieldLink RX5 41 "ShapeReader$Shapes" "formerNames" "[J") mw_14_21) (fun _ h9 => h9) rfl dX5_setFormerName_9 ?_
    refine lv_iload_n hx hb dX5_setFormerName_12 rfl (lv_at hl 1 rfl) ?_
    refine lv_bipush (v := 8) hx hb dX5_setFormerName_13 (by decide) ?_
    refine lv_imul hx hb dX5_setFormerName_15 ?_
    refine lv_topi (fun x_8 ex_8 => ?_)
    have bx_8 : (0 : Int) ≤ x_8.toInt ∧ x_8.toInt ≤ (280 : Int) := by have r0 := il_rng p0; have a0 := il_nlt g_2; have a1 := il_nle g_3; have e0 : (0 : Int32).toInt = 0 := (by decide); have e1 : (8 : Int32).toInt = 8 := (by decide); have e2 : (36 : Int32).toInt = 36 := (by decide); rw [ex_8]; have m9 := il_mulE (x := p0) (y := 8) (by rw [e1]; omega) (by rw [e1]; omega); rw [m9, e1]; omega
    refine lv_iload_n hx hb dX5_setFormerName_16 rfl (lv_at hl 2 rfl) ?_
    refine lv_iadd hx hb dX5_setFormerName_17 ?_
    refine lv_topi (fun x_9 ex_9 => ?_)
    have bx_9 : (0 : Int) ≤ x_9.toInt ∧ x_9.toInt ≤ (287 : Int) := by have r0 := il_rng x_8; have r1 := il_rng p1; have a0 := bx_8.1; have a1 := bx_8.2; have a2 := il_nlt g_4; have a3 := il_nle g_5; have e0 : (0 : Int32).toInt = 0 := (by decide); have e1 : (8 : Int32).toInt = 8 := (by decide); rw [ex_9, il_addE (by omega) (by omega)]; omega
    refine lv_lload_n hx hb dX5_setFormerName_18 rfl (lv_at hl 3 rfl) ?_
    refine va_last hx hb hK hP hD hS 1 0 rfl rfl (vp_in_iff.mpr (by have a0 := bx_9.1; have a1 := bx_9.2; omega)) dX5_setFormerName_19 (fun H locs hP hD hS => ?_)
    obtain ⟨f_10, hP, hD⟩ : ∃ f_10 : Nat → Int64, va_P (dC, dI) vwCl [(h0, .inr (5, [.int xx5_0, .int xx5_1, .ref ax5_2, .ref ax5_3, .ref ax5_4, .ref ax5_5, .ref ax5_6, .ref ax5_7, .ref ax5_8, .ref ax5_9, .ref ax5_10, .ref ax5_11, .ref ax5_12, .ref ax5_13, .ref ax5_14, .ref ax5_15, .ref ax5_16])), (ax5_9, .inl (cx5_9, 288, .inr (.inl f_10)))] H ∧ va_D A [(h0, .inr (5, [.int xx5_0, .int xx5_1, .ref ax5_2, .ref ax5_3, .ref ax5_4, .ref ax5_5, .ref ax5_6, .ref ax5_7, .ref ax5_8, .ref ax5_9, .ref ax5_10, .ref ax5_11, .ref ax5_12, .ref ax5_13, .ref ax5_14, .ref ax5_15, .ref ax5_16])), (ax5_9, .inl (cx5_9, 288, .inr (.inl f_10)))] := ⟨_, hP, hD⟩
    have hP9 := hP.sub (ws' := [(h0, .inr (5, [.int xx5_0, .int xx5_1, .ref ax5_2, .ref ax5_3, .ref ax5_4, .ref ax5_5, .ref ax5_6, .ref ax5_7, .ref ax5_8, .ref ax5_9, .ref ax5_10, .ref ax5_11, .ref ax5_12, .ref ax5_13, .ref ax5_14, .ref ax5_15, .ref ax5_16])), (ax5_9, .inl (cx5_9, 288, .inr (.inl f_10)))]) [0, 1] rfl
    have hD9 := hD.sub (ws' := [(h0, .inr (5, [.int xx5_0, .int xx5_1, .ref ax5_2, .ref ax5_3, .ref ax5_4, .ref ax5_5, .ref ax5_6, .ref ax5_7, .ref ax5_8, .ref ax5_9, .ref ax5_10, .ref ax5_11, .ref ax5_12, .ref ax5_13, .ref ax5_14, .ref ax5_15, .ref ax5_16])), (ax5_9, .inl (cx5_9, 288, .inr (.inl f_10)))]) [0, 1] (by decide) rfl
    have hK9 := hK.sub (tys' := [(cx5_9, .long)]) [0] rfl
    refine W.widen (k := 0) (n := 0) (Nat.le_of_ble_eq_true rfl) (Nat.le_of_ble_eq_true rfl) ?_
    exact W.vret hx hb hr (fun t ht hW => ⟨⟨(), rfl, trivial, f_10, by rw [ht]; exact hP9, va_K.moved hW.alike hK9, hD9⟩, hS.F ht⟩) hS.2.2 dX5_setFormerName_20

set_option maxRecDepth 100000 in
set_option maxHeartbeats 4000000 in
theorem s_X5_setElse (l : Launch) (dC : Nat → ClassId) (dI : Nat → Nat → Nat) (h0 : Nat) (xx5_0 : Int32) (xx5_1 : Int32) (ax5_2 : Nat) (ax5_3 : Nat) (ax5_4 : Nat) (ax5_5 : Nat) (ax5_6 : Nat) (cx5_6 : ClassId) (fx5_6 : Nat → Int32) (ax5_7 : Nat) (ax5_8 : Nat) (ax5_9 : Nat) (ax5_10 : Nat) (ax5_11 : Nat) (cx5_11 : ClassId) (fx5_11 : Nat → Int64) (ax5_12 : Nat) (ax5_13 : Nat) (ax5_14 : Nat) (ax5_15 : Nat) (ax5_16 : Nat) (p0 : Int32) (p1 : Int32) (p2 : Int64) (hi_xx5_0 : (0 : Int) ≤ xx5_0.toInt ∧ xx5_0.toInt ≤ (6 : Int)) (hi_xx5_1 : (0 : Int) ≤ xx5_1.toInt ∧ xx5_1.toInt ≤ (262 : Int)) (sz : Nat) : Met l yX5_setElse (.code yX5_setElse cX5_setElse 5 none :: pw) ({ frames := 1, cells := 0, slots := 0, locals := 21 }) (va_Pc [.ref h0, .int p0, .int p1, .long p2] (vPre dC dI [(h0, .inr (5, [.int xx5_0, .int xx5_1, .ref ax5_2, .ref ax5_3, .ref ax5_4, .ref ax5_5, .ref ax5_6, .ref ax5_7, .ref ax5_8, .ref ax5_9, .ref ax5_10, .ref ax5_11, .ref ax5_12, .ref ax5_13, .ref ax5_14, .ref ax5_15, .ref ax5_16])), (ax5_6, .inl (cx5_6, 36, .inl fx5_6)), (ax5_11, .inl (cx5_11, 288, .inr (.inl fx5_11)))] [(cx5_6, .int), (cx5_11, .long)] sz)) (va_Qv (fun (_ : Unit) => True) (fun (_ : Unit) t => ∃ (z1 : Nat → Int32), ∃ (z2 : Nat → Int64), vPst dC dI (va_A [(h0, .inr (5, [.int xx5_0, .int xx5_1, .ref ax5_2, .ref ax5_3, .ref ax5_4, .ref ax5_5, .ref ax5_6, .ref ax5_7, .ref ax5_8, .ref ax5_9, .ref ax5_10, .ref ax5_11, .ref ax5_12, .ref ax5_13, .ref ax5_14, .ref ax5_15, .ref ax5_16])), (ax5_6, .inl (cx5_6, 36, .inl fx5_6)), (ax5_11, .inl (cx5_11, 288, .inr (.inl fx5_11)))] sz) [(h0, .inr (5, [.int xx5_0, .int xx5_1, .ref ax5_2, .ref ax5_3, .ref ax5_4, .ref ax5_5, .ref ax5_6, .ref ax5_7, .ref ax5_8, .ref ax5_9, .ref ax5_10, .ref ax5_11, .ref ax5_12, .ref ax5_13, .ref ax5_14, .ref ax5_15, .ref ax5_16])), (ax5_6, .inl (cx5_6, 36, .inl z1)), (ax5_11, .inl (cx5_11, 288, .inr (.inl z2)))] [(cx5_6, .int), (cx5_11, .long)] t) (va_A [(h0, .inr (5, [.int xx5_0, .int xx5_1, .ref ax5_2, .ref ax5_3, .ref ax5_4, .ref ax5_5, .ref ax5_6, .ref ax5_7, .ref ax5_8, .ref ax5_9, .ref ax5_10, .ref ax5_11, .ref ax5_12, .ref ax5_13, .ref ax5_14, .ref ax5_15, .ref ax5_16])), (ax5_6, .inl (cx5_6, 36, .inl fx5_6)), (ax5_11, .inl (cx5_11, 288, .inr (.inl fx5_11)))] sz)) 0 0 (va_A [(h0, .inr (5, [.int xx5_0, .int xx5_1, .ref ax5_2, .ref ax5_3, .ref ax5_4, .ref ax5_5, .ref ax5_6, .ref ax5_7, .ref ax5_8, .ref ax5_9, .ref ax5_10, .ref ax5_11, .ref ax5_12, .ref ax5_13, .ref ax5_14, .ref ax5_15, .ref ax5_16])), (ax5_6, .inl (cx5_6, 36, .inl fx5_6)), (ax5_11, .inl (cx5_11, 288, .inr (.inl fx5_11)))] sz) := by
  refine Met.ofW (cc := cX5_setElse) (maxL := 5) (ret := none) (by decide) rfl ?_
  intro p e s m args below meth c s₁ B hml hv
  obtain ⟨rfl, hsz, hP, hK, hD0, hN⟩ := hv
  have hx := B.exec
  have hb := B.bytes
  have hr := B.returns
  have hts := atoms_spec (ws := .code yX5_setElse cX5_setElse 5 none :: pw) B.pre
  have hts : ∀ w ∈ pw, w.before _ s = true := fun w h => hts w (List.mem_cons_of_mem _ h)
  have hown : s.vm.findClass RX5 = some m.cls := findClass_of_methodNamed B.named
  have hlocks := B.notSynchronized
  subst hsz
  have hD := hD0.self (sz := s.heap.size)
  generalize hAe : va_A [(h0, .inr (5, [.int xx5_0, .int xx5_1, .ref ax5_2, .ref ax5_3, .ref ax5_4, .ref ax5_5, .ref ax5_6, .ref ax5_7, .ref ax5_8, .ref ax5_9, .ref ax5_10, .ref ax5_11, .ref ax5_12, .ref ax5_13, .ref ax5_14, .ref ax5_15, .ref ax5_16])), (ax5_6, .inl (cx5_6, 36, .inl fx5_6)), (ax5_11, .inl (cx5_11, 288, .inr (.inl fx5_11)))] s.heap.size = A at hD ⊢
  have hA : ∀ q : Nat, s.heap.size ≤ q → A q := fun q h => by rw [← hAe]; exact Or.inr h
  have hS : va_S A s.heap s.heap [] := va_S.rf
  have hP : va_P (dC, dI) vwCl [(h0, .inr (5, [.int xx5_0, .int xx5_1, .ref ax5_2, .ref ax5_3, .ref ax5_4, .ref ax5_5, .ref ax5_6, .ref ax5_7, .ref ax5_8, .ref ax5_9, .ref ax5_10, .ref ax5_11, .ref ax5_12, .ref ax5_13, .ref ax5_14, .ref ax5_15, .ref ax5_16])), (ax5_6, .inl (cx5_6, 36, .inl fx5_6)), (ax5_11, .inl (cx5_11, 288, .inr (.inl fx5_11)))] s.heap := hP
  have hl := lv_entry ([.ref h0, .int p0, .int p1, .long p2]) (n := 5) (Nat.le_of_ble_eq_true rfl)
  rw [lg_entry_eq]
  generalize (lg_sl ([.ref h0, .int p0, .int p1, .long p2]) ++ List.replicate (5 - (lg_sl ([.ref h0, .int p0, .int p1, .long p2])).length) Slot.unset).toArray = ls at hl ⊢
  have hl : lv_has ls 5 [(0, .ref h0), (1, .int p0), (2, .int p1), (3, .long p2)] := hl
  refine lv_iload_n hx hb dX5_setElse_0 rfl (lv_at hl 1 rfl) ?_
  refine lv_iload_n hx hb dX5_setElse_1 rfl (lv_at hl 2 rfl) ?_
  have hPc := hP.sub (ws' := []) [] rfl
  have hDc := hD.sub (ws' := []) [] (by decide) rfl
  have hKc := hK.sub (tys' := []) [] rfl
  have hFc := va_free (wc := []) hD hS hA [] rfl
  refine va_calli (va_runS (As := [.int p0, .int p1]) (rest := []) ⟨hx, hb, hml, hown, hts⟩ (s_X5_isFieldOf l dC dI p0 p1 s.heap.size) (va_cwS 2 hts (gS mw_15_1 mw_15_2 mw_0_9 mw_48_25) rfl rfl rfl (by decide +kernel) ⟨(Nat.le_of_ble_eq_true rfl), (Nat.le_of_ble_eq_true rfl)⟩) (vS hKc hPc hDc hN) rfl rfl hl.1 rfl (lv_room (Nat.le_of_ble_eq_true rfl)) dX5_setElse_2 ⟨(Nat.le_of_ble_eq_true rfl), (Nat.le_of_ble_eq_true rfl)⟩) hS (fun q _ h => hFc q h) hFc (fun r_1 u t H1 locs ht hvm hw hB hz1 hk1 hS => ?_)
  obtain ⟨hP1, hK1, hD1⟩ := hB
  rw [ht] at hP1
  have hK1 := va_K.moved hvm.symm hK1
  obtain ⟨hP, hD⟩ := va_join (wr := [(h0, .inr (5, [.int xx5_0, .int xx5_1, .ref ax5_2, .ref ax5_3, .ref ax5_4, .ref ax5_5, .ref ax5_6, .ref ax5_7, .ref ax5_8, .ref ax5_9, .ref ax5_10, .ref ax5_11, .ref ax5_12, .ref ax5_13, .ref ax5_14, .ref ax5_15, .ref ax5_16])), (ax5_6, .inl (cx5_6, 36, .inl fx5_6)), (ax5_11, .inl (cx5_11, 288, .inr (.inl fx5_11)))]) (w1 := []) hP hD [] [0, 1, 2] rfl rfl (by decide) (by decide) hk1 hFc hP1 hD1
  clear hPc hDc hKc hP1 hK1 hD1 hFc hk1 hz1
  generalize H1 = H at hP hS ⊢
  have hP : va_P (dC, dI) vwCl [(h0, .inr (5, [.int xx5_0, .int xx5_1, .ref ax5_2, .ref ax5_3, .ref ax5_4, .ref ax5_5, .ref ax5_6, .ref ax5_7, .ref ax5_8, .ref ax5_9, .ref ax5_10, .ref ax5_11, .ref ax5_12, .ref ax5_13, .ref ax5_14, .ref ax5_15, .ref ax5_16])), (ax5_6, .inl (cx5_6, 36, .inl fx5_6)), (ax5_11, .inl (cx5_11, 288, .inr (.inl fx5_11)))] H := hP
  have hD : va_D A [(h0, .inr (5, [.int xx5_0, .int xx5_1, .ref ax5_2, .ref ax5_3, .ref ax5_4, .ref ax5_5, .ref ax5_6, .ref ax5_7, .ref ax5_8, .ref ax5_9, .ref ax5_10, .ref ax5_11, .ref ax5_12, .ref ax5_13, .ref ax5_14, .ref ax5_15, .ref ax5_16])), (ax5_6, .inl (cx5_6, 36, .inl fx5_6)), (ax5_11, .inl (cx5_11, 288, .inr (.inl fx5_11)))] := hD
  rcases hw with rfl | ⟨rfl, g_2, g_3, g_4, g_5⟩
  · refine lv_if_eq (tgt := 32) hx hb dX5_setElse_5 (by decide) (fun _ => ?_) (fun h => absurd (by decide) h)
    have hP9 := hP.sub (ws' := [(h0, .inr (5, [.int xx5_0, .int xx5_1, .ref ax5_2, .ref ax5_3, .ref ax5_4, .ref ax5_5, .ref ax5_6, .ref ax5_7, .ref ax5_8, .ref ax5_9, .ref ax5_10, .ref ax5_11, .ref ax5_12, .ref ax5_13, .ref ax5_14, .ref ax5_15, .ref ax5_16])), (ax5_6, .inl (cx5_6, 36, .inl fx5_6)), (ax5_11, .inl (cx5_11, 288, .inr (.inl fx5_11)))]) [0, 1, 2] rfl
    have hD9 := hD.sub (ws' := [(h0, .inr (5, [.int xx5_0, .int xx5_1, .ref ax5_2, .ref ax5_3, .ref ax5_4, .ref ax5_5, .ref ax5_6, .ref ax5_7, .ref ax5_8, .ref ax5_9, .ref ax5_10, .ref ax5_11, .ref ax5_12, .ref ax5_13, .ref ax5_14, .ref ax5_15, .ref ax5_16])), (ax5_6, .inl (cx5_6, 36, .inl fx5_6)), (ax5_11, .inl (cx5_11, 288, .inr (.inl fx5_11)))]) [0, 1, 2] (by decide) rfl
    have hK9 := hK.sub (tys' := [(cx5_6, .int), (cx5_11, .long)]) [0, 1] rfl
    refine W.widen (k := 0) (n := 0) (Nat.le_of_ble_eq_true rfl) (Nat.le_of_ble_eq_true rfl) ?_
    exact W.vret hx hb hr (fun t ht hW => ⟨⟨(), rfl, trivial, fx5_6, fx5_11, by rw [ht]; exact hP9, va_K.moved hW.alike hK9, hD9⟩, hS.F ht⟩) hS.2.2 dX5_setElse_32
  · refine lv_if_eq (tgt := 32) hx hb dX5_setElse_5 (by decide) (fun h => absurd h (by decide)) (fun _ => ?_)
    refine lv_aload_n hx hb dX5_setElse_8 rfl (lv_at hl 0 rfl) ?_
    refine va_get (D := (dC, dI)) (ci := 5) (v := .ref ax5_6) (C := RX5) (T := TX5) (N := 17) hx hb hts inlX5 hown hK hP 0 rfl rfl 6 (by decide) (hts (.fieldLink RX5 32 "ShapeReader$Shapes" "elseBits" "[I") mw_14_18) (fun _ h9 => h9) rfl dX5_setElse_9 ?_
    refine lv_iload_n hx hb dX5_setElse_12 rfl (lv_at hl 1 rfl) ?_
    refine lv_dup2_11 hx hb dX5_setElse_13 rfl rfl ?_
    refine va_iald hx hb hK hP 1 0 rfl rfl (vp_in_iff.mpr (by have a0 := il_nlt g_2; have a1 := il_nle g_3; have e0 : (0 : Int32).toInt = 0 := (by decide); have e1 : (36 : Int32).toInt = 36 := (by decide); omega)) dX5_setElse_14 ?_
    refine lv_topi (fun x_8 ex_8 => ?_)
    refine lv_iconst (v := 1) hx hb dX5_setElse_15 (by decide) ?_
    refine lv_iload_n hx hb dX5_setElse_16 rfl (lv_at hl 2 rfl) ?_
    refine lv_ishl hx hb dX5_setElse_17 ?_
    refine lv_topi (fun x_9 ex_9 => ?_)
    refine lv_ior hx hb dX5_setElse_18 ?_
    refine lv_topi (fun x_10 ex_10 => ?_)
    refine va_iast hx hb hK hP hD hS 1 0 rfl rfl (vp_in_iff.mpr (by have a0 := il_nlt g_2; have a1 := il_nle g_3; have e0 : (0 : Int32).toInt = 0 := (by decide); have e1 : (36 : Int32).toInt = 36 := (by decide); omega)) dX5_setElse_19 (fun H locs hP hD hS => ?_)
    obtain ⟨f_11, hP, hD⟩ : ∃ f_11 : Nat → Int32, va_P (dC, dI) vwCl [(h0, .inr (5, [.int xx5_0, .int xx5_1, .ref ax5_2, .ref ax5_3, .ref ax5_4, .ref ax5_5, .ref ax5_6, .ref ax5_7, .ref ax5_8, .ref ax5_9, .ref ax5_10, .ref ax5_11, .ref ax5_12, .ref ax5_13, .ref ax5_14, .ref ax5_15, .ref ax5_16])), (ax5_6, .inl (cx5_6, 36, .inl f_11)), (ax5_11, .inl (cx5_11, 288, .inr (.inl fx5_11)))] H ∧ va_D A [(h0, .inr (5, [.int xx5_0, .int xx5_1, .ref ax5_2, .ref ax5_3, .ref ax5_4, .ref ax5_5, .ref ax5_6, .ref ax5_7, .ref ax5_8, .ref ax5_9, .ref ax5_10, .ref ax5_11, .ref ax5_12, .ref ax5_13, .ref ax5_14, .ref ax5_15, .ref ax5_16])), (ax5_6, .inl (cx5_6, 36, .inl f_11)), (ax5_11, .inl (cx5_11, 288, .inr (.inl fx5_11)))] := ⟨_, hP, hD⟩
    refine lv_aload_n hx hb dX5_setElse_20 rfl (lv_at hl 0 rfl) ?_
    refine va_get (D := (dC, dI)) (ci := 5) (v := .ref ax5_11) (C := RX5) (T := TX5) (N := 17) hx hb hts inlX5 hown hK hP 0 rfl rfl 11 (by decide) (hts (.fieldLink RX5 47 "ShapeReader$Shapes" "elseWorths" "[J") mw_14_23) (fun _ h9 => h9) rfl dX5_setElse_21 ?_
    refine lv_iload_n hx hb dX5_setElse_24 rfl (lv_at hl 1 rfl) ?_
    refine lv_bipush (v := 8) hx hb dX5_setElse_25 (by decide) ?_
    refine lv_imul hx hb dX5_setElse_27 ?_
    refine lv_topi (fun x_12 ex_12 => ?_)
    have bx_12 : (0 : Int) ≤ x_12.toInt ∧ x_12.toInt ≤ (280 : Int) := by have r0 := il_rng p0; have a0 := il_nlt g_2; have a1 := il_nle g_3; have e0 : (0 : Int32).toInt = 0 := (by decide); have e1 : (8 : Int32).toInt = 8 := (by decide); have e2 : (36 : Int32).toInt = 36 := (by decide); rw [ex_12]; have m9 := il_mulE (x := p0) (y := 8) (by rw [e1]; omega) (by rw [e1]; omega); rw [m9, e1]; omega
    refine lv_iload_n hx hb dX5_setElse_28 rfl (lv_at hl 2 rfl) ?_
    refine lv_iadd hx hb dX5_setElse_29 ?_
    refine lv_topi (fun x_13 ex_13 => ?_)
    have bx_13 : (0 : Int) ≤ x_13.toInt ∧ x_13.toInt ≤ (287 : Int) := by have r0 := il_rng x_12; have r1 := il_rng p1; have a0 := bx_12.1; have a1 := bx_12.2; have a2 := il_nlt g_4; have a3 := il_nle g_5; have e0 : (0 : Int32).toInt = 0 := (by decide); have e1 : (8 : Int32).toInt = 8 := (by decide); rw [ex_13, il_addE (by omega) (by omega)]; omega
    refine lv_lload_n hx hb dX5_setElse_30 rfl (lv_at hl 3 rfl) ?_
    refine va_last hx hb hK hP hD hS 2 1 rfl rfl (vp_in_iff.mpr (by have a0 := bx_13.1; have a1 := bx_13.2; omega)) dX5_setElse_31 (fun H locs hP hD hS => ?_)
    obtain ⟨f_14, hP, hD⟩ : ∃ f_14 : Nat → Int64, va_P (dC, dI) vwCl [(h0, .inr (5, [.int xx5_0, .int xx5_1, .ref ax5_2, .ref ax5_3, .ref ax5_4, .ref ax5_5, .ref ax5_6, .ref ax5_7, .ref ax5_8, .ref ax5_9, .ref ax5_10, .ref ax5_11, .ref ax5_12, .ref ax5_13, .ref ax5_14, .ref ax5_15, .ref ax5_16])), (ax5_6, .inl (cx5_6, 36, .inl f_11)), (ax5_11, .inl (cx5_11, 288, .inr (.inl f_14)))] H ∧ va_D A [(h0, .inr (5, [.int xx5_0, .int xx5_1, .ref ax5_2, .ref ax5_3, .ref ax5_4, .ref ax5_5, .ref ax5_6, .ref ax5_7, .ref ax5_8, .ref ax5_9, .ref ax5_10, .ref ax5_11, .ref ax5_12, .ref ax5_13, .ref ax5_14, .ref ax5_15, .ref ax5_16])), (ax5_6, .inl (cx5_6, 36, .inl f_11)), (ax5_11, .inl (cx5_11, 288, .inr (.inl f_14)))] := ⟨_, hP, hD⟩
    have hP9 := hP.sub (ws' := [(h0, .inr (5, [.int xx5_0, .int xx5_1, .ref ax5_2, .ref ax5_3, .ref ax5_4, .ref ax5_5, .ref ax5_6, .ref ax5_7, .ref ax5_8, .ref ax5_9, .ref ax5_10, .ref ax5_11, .ref ax5_12, .ref ax5_13, .ref ax5_14, .ref ax5_15, .ref ax5_16])), (ax5_6, .inl (cx5_6, 36, .inl f_11)), (ax5_11, .inl (cx5_11, 288, .inr (.inl f_14)))]) [0, 1, 2] rfl
    have hD9 := hD.sub (ws' := [(h0, .inr (5, [.int xx5_0, .int xx5_1, .ref ax5_2, .ref ax5_3, .ref ax5_4, .ref ax5_5, .ref ax5_6, .ref ax5_7, .ref ax5_8, .ref ax5_9, .ref ax5_10, .ref ax5_11, .ref ax5_12, .ref ax5_13, .ref ax5_14, .ref ax5_15, .ref ax5_16])), (ax5_6, .inl (cx5_6, 36, .inl f_11)), (ax5_11, .inl (cx5_11, 288, .inr (.inl f_14)))]) [0, 1, 2] (by decide) rfl
    have hK9 := hK.sub (tys' := [(cx5_6, .int), (cx5_11, .long)]) [0, 1] rfl
    refine W.widen (k := 0) (n := 0) (Nat.le_of_ble_eq_true rfl) (Nat.le_of_ble_eq_true rfl) ?_
    exact W.vret hx hb hr (fun t ht hW => ⟨⟨(), rfl, trivial, f_11, f_14, by rw [ht]; exact hP9, va_K.moved hW.alike hK9, hD9⟩, hS.F ht⟩) hS.2.2 dX5_setElse_32

set_option maxRecDepth 100000 in
set_option maxHeartbeats 4000000 in
theorem s_X5_setInner (l : Launch) (dC : Nat → ClassId) (dI : Nat → Nat → Nat) (h0 : Nat) (xx5_0 : Int32) (xx5_1 : Int32) (ax5_2 : Nat) (ax5_3 : Nat) (ax5_4 : Nat) (ax5_5 : Nat) (ax5_6 : Nat) (ax5_7 : Nat) (ax5_8 : Nat) (ax5_9 : Nat) (ax5_10 : Nat) (ax5_11 : Nat) (ax5_12 : Nat) (ax5_13 : Nat) (cx5_13 : ClassId) (fx5_13 : Nat → Int32) (ax5_14 : Nat) (ax5_15 : Nat) (ax5_16 : Nat) (p0 : Int32) (p1 : Int32) (hi_xx5_0 : (0 : Int) ≤ xx5_0.toInt ∧ xx5_0.toInt ≤ (6 : Int)) (hi_xx5_1 : (0 : Int) ≤ xx5_1.toInt ∧ xx5_1.toInt ≤ (262 : Int)) (sz : Nat) : Met l yX5_setInner (.code yX5_setInner cX5_setInner 3 none :: pw) ({ frames := 1, cells := 0, slots := 0, locals := 21 }) (va_Pc [.ref h0, .int p0, .int p1] (vPre dC dI [(h0, .inr (5, [.int xx5_0, .int xx5_1, .ref ax5_2, .ref ax5_3, .ref ax5_4, .ref ax5_5, .ref ax5_6, .ref ax5_7, .ref ax5_8, .ref ax5_9, .ref ax5_10, .ref ax5_11, .ref ax5_12, .ref ax5_13, .ref ax5_14, .ref ax5_15, .ref ax5_16])), (ax5_13, .inl (cx5_13, 262, .inl fx5_13))] [(cx5_13, .int)] sz)) (va_Qv (fun (_ : Unit) => True) (fun (_ : Unit) t => ∃ (z1 : Nat → Int32), vPst dC dI (va_A [(h0, .inr (5, [.int xx5_0, .int xx5_1, .ref ax5_2, .ref ax5_3, .ref ax5_4, .ref ax5_5, .ref ax5_6, .ref ax5_7, .ref ax5_8, .ref ax5_9, .ref ax5_10, .ref ax5_11, .ref ax5_12, .ref ax5_13, .ref ax5_14, .ref ax5_15, .ref ax5_16])), (ax5_13, .inl (cx5_13, 262, .inl fx5_13))] sz) [(h0, .inr (5, [.int xx5_0, .int xx5_1, .ref ax5_2, .ref ax5_3, .ref ax5_4, .ref ax5_5, .ref ax5_6, .ref ax5_7, .ref ax5_8, .ref ax5_9, .ref ax5_10, .ref ax5_11, .ref ax5_12, .ref ax5_13, .ref ax5_14, .ref ax5_15, .ref ax5_16])), (ax5_13, .inl (cx5_13, 262, .inl z1))] [(cx5_13, .int)] t) (va_A [(h0, .inr (5, [.int xx5_0, .int xx5_1, .ref ax5_2, .ref ax5_3, .ref ax5_4, .ref ax5_5, .ref ax5_6, .ref ax5_7, .ref ax5_8, .ref ax5_9, .ref ax5_10, .ref ax5_11, .ref ax5_12, .ref ax5_13, .ref ax5_14, .ref ax5_15, .ref ax5_16])), (ax5_13, .inl (cx5_13, 262, .inl fx5_13))] sz)) 0 0 (va_A [(h0, .inr (5, [.int xx5_0, .int xx5_1, .ref ax5_2, .ref ax5_3, .ref ax5_4, .ref ax5_5, .ref ax5_6, .ref ax5_7, .ref ax5_8, .ref ax5_9, .ref ax5_10, .ref ax5_11, .ref ax5_12, .ref ax5_13, .ref ax5_14, .ref ax5_15, .ref ax5_16])), (ax5_13, .inl (cx5_13, 262, .inl fx5_13))] sz) := by
  refine Met.ofW (cc := cX5_setInner) (maxL := 3) (ret := none) (by decide) rfl ?_
  intro p e s m args below meth c s₁ B hml hv
  obtain ⟨rfl, hsz, hP, hK, hD0, hN⟩ := hv
  have hx := B.exec
  have hb := B.bytes
  have hr := B.returns
  have hts := atoms_spec (ws := .code yX5_setInner cX5_setInner 3 none :: pw) B.pre
  have hts : ∀ w ∈ pw, w.before _ s = true := fun w h => hts w (List.mem_cons_of_mem _ h)
  have hown : s.vm.findClass RX5 = some m.cls := findClass_of_methodNamed B.named
  have hlocks := B.notSynchronized
  subst hsz
  have hD := hD0.self (sz := s.heap.size)
  generalize hAe : va_A [(h0, .inr (5, [.int xx5_0, .int xx5_1, .ref ax5_2, .ref ax5_3, .ref ax5_4, .ref ax5_5, .ref ax5_6, .ref ax5_7, .ref ax5_8, .ref ax5_9, .ref ax5_10, .ref ax5_11, .ref ax5_12, .ref ax5_13, .ref ax5_14, .ref ax5_15, .ref ax5_16])), (ax5_13, .inl (cx5_13, 262, .inl fx5_13))] s.heap.size = A at hD ⊢
  have hA : ∀ q : Nat, s.heap.size ≤ q → A q := fun q h => by rw [← hAe]; exact Or.inr h
  have hS : va_S A s.heap s.heap [] := va_S.rf
  have hP : va_P (dC, dI) vwCl [(h0, .inr (5, [.int xx5_0, .int xx5_1, .ref ax5_2, .ref ax5_3, .ref ax5_4, .ref ax5_5, .ref ax5_6, .ref ax5_7, .ref ax5_8, .ref ax5_9, .ref ax5_10, .ref ax5_11, .ref ax5_12, .ref ax5_13, .ref ax5_14, .ref ax5_15, .ref ax5_16])), (ax5_13, .inl (cx5_13, 262, .inl fx5_13))] s.heap := hP
  have hl := lv_entry ([.ref h0, .int p0, .int p1]) (n := 3) (Nat.le_of_ble_eq_true rfl)
  rw [lg_entry_eq]
  generalize (lg_sl ([.ref h0, .int p0, .int p1]) ++ List.replicate (3 - (lg_sl ([.ref h0, .int p0, .int p1])).length) Slot.unset).toArray = ls at hl ⊢
  have hl : lv_has ls 3 [(0, .ref h0), (1, .int p0), (2, .int p1)] := hl
  refine lv_aload_n hx hb dX5_setInner_0 rfl (lv_at hl 0 rfl) ?_
  refine lv_iload_n hx hb dX5_setInner_1 rfl (lv_at hl 1 rfl) ?_
  have hPc := hP.sub (ws' := [(h0, .inr (5, [.int xx5_0, .int xx5_1, .ref ax5_2, .ref ax5_3, .ref ax5_4, .ref ax5_5, .ref ax5_6, .ref ax5_7, .ref ax5_8, .ref ax5_9, .ref ax5_10, .ref ax5_11, .ref ax5_12, .ref ax5_13, .ref ax5_14, .ref ax5_15, .ref ax5_16]))]) [0] rfl
  have hDc := hD.sub (ws' := [(h0, .inr (5, [.int xx5_0, .int xx5_1, .ref ax5_2, .ref ax5_3, .ref ax5_4, .ref ax5_5, .ref ax5_6, .ref ax5_7, .ref ax5_8, .ref ax5_9, .ref ax5_10, .ref ax5_11, .ref ax5_12, .ref ax5_13, .ref ax5_14, .ref ax5_15, .ref ax5_16]))]) [0] (by decide) rfl
  have hKc := hK.sub (tys' := []) [] rfl
  have hFc := va_free (wc := [(h0, .inr (5, [.int xx5_0, .int xx5_1, .ref ax5_2, .ref ax5_3, .ref ax5_4, .ref ax5_5, .ref ax5_6, .ref ax5_7, .ref ax5_8, .ref ax5_9, .ref ax5_10, .ref ax5_11, .ref ax5_12, .ref ax5_13, .ref ax5_14, .ref ax5_15, .ref ax5_16]))]) hD hS hA [0] rfl
  refine va_calli (va_runV (As := [.int p0]) (rest := []) ⟨hx, hb, hml, hown, hts⟩ (s_X5_isType l dC dI h0 xx5_0 xx5_1 ax5_2 ax5_3 ax5_4 ax5_5 ax5_6 ax5_7 ax5_8 ax5_9 ax5_10 ax5_11 ax5_12 ax5_13 ax5_14 ax5_15 ax5_16 p0 (by have a0 := hi_xx5_0.1; have a1 := hi_xx5_0.2; omega) (by have a0 := hi_xx5_1.1; have a1 := hi_xx5_1.2; omega) s.heap.size) (cwV 1 hts (gV mw_15_3 mw_15_4 mw_15_5 mw_0_9 mw_48_26) rfl rfl rfl (by decide +kernel) ⟨(Nat.le_of_ble_eq_true rfl), (Nat.le_of_ble_eq_true rfl)⟩) (vV (ci := 5) (q0 := 0) hKc hPc hDc hN rfl rfl) rfl rfl hl.1 rfl (lv_room (Nat.le_of_ble_eq_true rfl)) dX5_setInner_2 ⟨(Nat.le_of_ble_eq_true rfl), (Nat.le_of_ble_eq_true rfl)⟩) hS (fun q _ h => hFc q h) hFc (fun r_1 u t H1 locs ht hvm hw hB hz1 hk1 hS => ?_)
  obtain ⟨hP1, hK1, hD1⟩ := hB
  rw [ht] at hP1
  have hK1 := va_K.moved hvm.symm hK1
  obtain ⟨hP, hD⟩ := va_join (wr := [(ax5_13, .inl (cx5_13, 262, .inl fx5_13))]) (w1 := [(h0, .inr (5, [.int xx5_0, .int xx5_1, .ref ax5_2, .ref ax5_3, .ref ax5_4, .ref ax5_5, .ref ax5_6, .ref ax5_7, .ref ax5_8, .ref ax5_9, .ref ax5_10, .ref ax5_11, .ref ax5_12, .ref ax5_13, .ref ax5_14, .ref ax5_15, .ref ax5_16]))]) hP hD [0] [1] rfl rfl (by decide) (by decide) hk1 hFc hP1 hD1
  clear hPc hDc hKc hP1 hK1 hD1 hFc hk1 hz1
  generalize H1 = H at hP hS ⊢
  have hP : va_P (dC, dI) vwCl [(ax5_13, .inl (cx5_13, 262, .inl fx5_13)), (h0, .inr (5, [.int xx5_0, .int xx5_1, .ref ax5_2, .ref ax5_3, .ref ax5_4, .ref ax5_5, .ref ax5_6, .ref ax5_7, .ref ax5_8, .ref ax5_9, .ref ax5_10, .ref ax5_11, .ref ax5_12, .ref ax5_13, .ref ax5_14, .ref ax5_15, .ref ax5_16]))] H := hP
  have hD : va_D A [(ax5_13, .inl (cx5_13, 262, .inl fx5_13)), (h0, .inr (5, [.int xx5_0, .int xx5_1, .ref ax5_2, .ref ax5_3, .ref ax5_4, .ref ax5_5, .ref ax5_6, .ref ax5_7, .ref ax5_8, .ref ax5_9, .ref ax5_10, .ref ax5_11, .ref ax5_12, .ref ax5_13, .ref ax5_14, .ref ax5_15, .ref ax5_16]))] := hD
  rcases hw with rfl | ⟨rfl, g_2, g_3, g_4⟩
  · refine lv_if_eq (tgt := 15) hx hb dX5_setInner_5 (by decide) (fun _ => ?_) (fun h => absurd (by decide) h)
    have hP9 := hP.sub (ws' := [(h0, .inr (5, [.int xx5_0, .int xx5_1, .ref ax5_2, .ref ax5_3, .ref ax5_4, .ref ax5_5, .ref ax5_6, .ref ax5_7, .ref ax5_8, .ref ax5_9, .ref ax5_10, .ref ax5_11, .ref ax5_12, .ref ax5_13, .ref ax5_14, .ref ax5_15, .ref ax5_16])), (ax5_13, .inl (cx5_13, 262, .inl fx5_13))]) [1, 0] rfl
    have hD9 := hD.sub (ws' := [(h0, .inr (5, [.int xx5_0, .int xx5_1, .ref ax5_2, .ref ax5_3, .ref ax5_4, .ref ax5_5, .ref ax5_6, .ref ax5_7, .ref ax5_8, .ref ax5_9, .ref ax5_10, .ref ax5_11, .ref ax5_12, .ref ax5_13, .ref ax5_14, .ref ax5_15, .ref ax5_16])), (ax5_13, .inl (cx5_13, 262, .inl fx5_13))]) [1, 0] (by decide) rfl
    have hK9 := hK.sub (tys' := [(cx5_13, .int)]) [0] rfl
    refine W.widen (k := 0) (n := 0) (Nat.le_of_ble_eq_true rfl) (Nat.le_of_ble_eq_true rfl) ?_
    exact W.vret hx hb hr (fun t ht hW => ⟨⟨(), rfl, trivial, fx5_13, by rw [ht]; exact hP9, va_K.moved hW.alike hK9, hD9⟩, hS.F ht⟩) hS.2.2 dX5_setInner_15
  · refine lv_if_eq (tgt := 15) hx hb dX5_setInner_5 (by decide) (fun h => absurd h (by decide)) (fun _ => ?_)
    refine lv_aload_n hx hb dX5_setInner_8 rfl (lv_at hl 0 rfl) ?_
    refine va_get (D := (dC, dI)) (ci := 5) (v := .ref ax5_13) (C := RX5) (T := TX5) (N := 17) hx hb hts inlX5 hown hK hP 1 rfl rfl 13 (by decide) (hts (.fieldLink RX5 53 "ShapeReader$Shapes" "inners" "[I") mw_14_25) (fun _ h9 => h9) rfl dX5_setInner_9 ?_
    refine lv_iload_n hx hb dX5_setInner_12 rfl (lv_at hl 1 rfl) ?_
    refine lv_iload_n hx hb dX5_setInner_13 rfl (lv_at hl 2 rfl) ?_
    refine va_iast hx hb hK hP hD hS 0 0 rfl rfl (vp_in_iff.mpr (by have a0 := il_nlt g_2; have a1 := il_nle g_4; have e0 : (0 : Int32).toInt = 0 := (by decide); have e1 : (262 : Int32).toInt = 262 := (by decide); omega)) dX5_setInner_14 (fun H locs hP hD hS => ?_)
    obtain ⟨f_7, hP, hD⟩ : ∃ f_7 : Nat → Int32, va_P (dC, dI) vwCl [(ax5_13, .inl (cx5_13, 262, .inl f_7)), (h0, .inr (5, [.int xx5_0, .int xx5_1, .ref ax5_2, .ref ax5_3, .ref ax5_4, .ref ax5_5, .ref ax5_6, .ref ax5_7, .ref ax5_8, .ref ax5_9, .ref ax5_10, .ref ax5_11, .ref ax5_12, .ref ax5_13, .ref ax5_14, .ref ax5_15, .ref ax5_16]))] H ∧ va_D A [(ax5_13, .inl (cx5_13, 262, .inl f_7)), (h0, .inr (5, [.int xx5_0, .int xx5_1, .ref ax5_2, .ref ax5_3, .ref ax5_4, .ref ax5_5, .ref ax5_6, .ref ax5_7, .ref ax5_8, .ref ax5_9, .ref ax5_10, .ref ax5_11, .ref ax5_12, .ref ax5_13, .ref ax5_14, .ref ax5_15, .ref ax5_16]))] := ⟨_, hP, hD⟩
    have hP9 := hP.sub (ws' := [(h0, .inr (5, [.int xx5_0, .int xx5_1, .ref ax5_2, .ref ax5_3, .ref ax5_4, .ref ax5_5, .ref ax5_6, .ref ax5_7, .ref ax5_8, .ref ax5_9, .ref ax5_10, .ref ax5_11, .ref ax5_12, .ref ax5_13, .ref ax5_14, .ref ax5_15, .ref ax5_16])), (ax5_13, .inl (cx5_13, 262, .inl f_7))]) [1, 0] rfl
    have hD9 := hD.sub (ws' := [(h0, .inr (5, [.int xx5_0, .int xx5_1, .ref ax5_2, .ref ax5_3, .ref ax5_4, .ref ax5_5, .ref ax5_6, .ref ax5_7, .ref ax5_8, .ref ax5_9, .ref ax5_10, .ref ax5_11, .ref ax5_12, .ref ax5_13, .ref ax5_14, .ref ax5_15, .ref ax5_16])), (ax5_13, .inl (cx5_13, 262, .inl f_7))]) [1, 0] (by decide) rfl
    have hK9 := hK.sub (tys' := [(cx5_13, .int)]) [0] rfl
    refine W.widen (k := 0) (n := 0) (Nat.le_of_ble_eq_true rfl) (Nat.le_of_ble_eq_true rfl) ?_
    exact W.vret hx hb hr (fun t ht hW => ⟨⟨(), rfl, trivial, f_7, by rw [ht]; exact hP9, va_K.moved hW.alike hK9, hD9⟩, hS.F ht⟩) hS.2.2 dX5_setInner_15

set_option maxRecDepth 100000 in
set_option maxHeartbeats 4000000 in
theorem s_X5_setBranchAfter (l : Launch) (dC : Nat → ClassId) (dI : Nat → Nat → Nat) (h0 : Nat) (xx5_0 : Int32) (xx5_1 : Int32) (ax5_2 : Nat) (ax5_3 : Nat) (ax5_4 : Nat) (ax5_5 : Nat) (ax5_6 : Nat) (ax5_7 : Nat) (ax5_8 : Nat) (ax5_9 : Nat) (ax5_10 : Nat) (ax5_11 : Nat) (ax5_12 : Nat) (ax5_13 : Nat) (ax5_14 : Nat) (cx5_14 : ClassId) (fx5_14 : Nat → Int32) (ax5_15 : Nat) (ax5_16 : Nat) (p0 : Int32) (p1 : Int32) (hi_xx5_0 : (0 : Int) ≤ xx5_0.toInt ∧ xx5_0.toInt ≤ (6 : Int)) (hi_xx5_1 : (0 : Int) ≤ xx5_1.toInt ∧ xx5_1.toInt ≤ (262 : Int)) (sz : Nat) : Met l yX5_setBranchAfter (.code yX5_setBranchAfter cX5_setBranchAfter 3 none :: pw) ({ frames := 1, cells := 0, slots := 0, locals := 21 }) (va_Pc [.ref h0, .int p0, .int p1] (vPre dC dI [(h0, .inr (5, [.int xx5_0, .int xx5_1, .ref ax5_2, .ref ax5_3, .ref ax5_4, .ref ax5_5, .ref ax5_6, .ref ax5_7, .ref ax5_8, .ref ax5_9, .ref ax5_10, .ref ax5_11, .ref ax5_12, .ref ax5_13, .ref ax5_14, .ref ax5_15, .ref ax5_16])), (ax5_14, .inl (cx5_14, 262, .inl fx5_14))] [(cx5_14, .int)] sz)) (va_Qv (fun (_ : Unit) => True) (fun (_ : Unit) t => ∃ (z1 : Nat → Int32), vPst dC dI (va_A [(h0, .inr (5, [.int xx5_0, .int xx5_1, .ref ax5_2, .ref ax5_3, .ref ax5_4, .ref ax5_5, .ref ax5_6, .ref ax5_7, .ref ax5_8, .ref ax5_9, .ref ax5_10, .ref ax5_11, .ref ax5_12, .ref ax5_13, .ref ax5_14, .ref ax5_15, .ref ax5_16])), (ax5_14, .inl (cx5_14, 262, .inl fx5_14))] sz) [(h0, .inr (5, [.int xx5_0, .int xx5_1, .ref ax5_2, .ref ax5_3, .ref ax5_4, .ref ax5_5, .ref ax5_6, .ref ax5_7, .ref ax5_8, .ref ax5_9, .ref ax5_10, .ref ax5_11, .ref ax5_12, .ref ax5_13, .ref ax5_14, .ref ax5_15, .ref ax5_16])), (ax5_14, .inl (cx5_14, 262, .inl z1))] [(cx5_14, .int)] t) (va_A [(h0, .inr (5, [.int xx5_0, .int xx5_1, .ref ax5_2, .ref ax5_3, .ref ax5_4, .ref ax5_5, .ref ax5_6, .ref ax5_7, .ref ax5_8, .ref ax5_9, .ref ax5_10, .ref ax5_11, .ref ax5_12, .ref ax5_13, .ref ax5_14, .ref ax5_15, .ref ax5_16])), (ax5_14, .inl (cx5_14, 262, .inl fx5_14))] sz)) 0 0 (va_A [(h0, .inr (5, [.int xx5_0, .int xx5_1, .ref ax5_2, .ref ax5_3, .ref ax5_4, .ref ax5_5, .ref ax5_6, .ref ax5_7, .ref ax5_8, .ref ax5_9, .ref ax5_10, .ref ax5_11, .ref ax5_12, .ref ax5_13, .ref ax5_14, .ref ax5_15, .ref ax5_16])), (ax5_14, .inl (cx5_14, 262, .inl fx5_14))] sz) := by
  refine Met.ofW (cc := cX5_setBranchAfter) (maxL := 3) (ret := none) (by decide) rfl ?_
  intro p e s m args below meth c s₁ B hml hv
  obtain ⟨rfl, hsz, hP, hK, hD0, hN⟩ := hv
  have hx := B.exec
  have hb := B.bytes
  have hr := B.returns
  have hts := atoms_spec (ws := .code yX5_setBranchAfter cX5_setBranchAfter 3 none :: pw) B.pre
  have hts : ∀ w ∈ pw, w.before _ s = true := fun w h => hts w (List.mem_cons_of_mem _ h)
  have hown : s.vm.findClass RX5 = some m.cls := findClass_of_methodNamed B.named
  have hlocks := B.notSynchronized
  subst hsz
  have hD := hD0.self (sz := s.heap.size)
  generalize hAe : va_A [(h0, .inr (5, [.int xx5_0, .int xx5_1, .ref ax5_2, .ref ax5_3, .ref ax5_4, .ref ax5_5, .ref ax5_6, .ref ax5_7, .ref ax5_8, .ref ax5_9, .ref ax5_10, .ref ax5_11, .ref ax5_12, .ref ax5_13, .ref ax5_14, .ref ax5_15, .ref ax5_16])), (ax5_14, .inl (cx5_14, 262, .inl fx5_14))] s.heap.size = A at hD ⊢
  have hA : ∀ q : Nat, s.heap.size ≤ q → A q := fun q h => by rw [← hAe]; exact Or.inr h
  have hS : va_S A s.heap s.heap [] := va_S.rf
  have hP : va_P (dC, dI) vwCl [(h0, .inr (5, [.int xx5_0, .int xx5_1, .ref ax5_2, .ref ax5_3, .ref ax5_4, .ref ax5_5, .ref ax5_6, .ref ax5_7, .ref ax5_8, .ref ax5_9, .ref ax5_10, .ref ax5_11, .ref ax5_12, .ref ax5_13, .ref ax5_14, .ref ax5_15, .ref ax5_16])), (ax5_14, .inl (cx5_14, 262, .inl fx5_14))] s.heap := hP
  have hl := lv_entry ([.ref h0, .int p0, .int p1]) (n := 3) (Nat.le_of_ble_eq_true rfl)
  rw [lg_entry_eq]
  generalize (lg_sl ([.ref h0, .int p0, .int p1]) ++ List.replicate (3 - (lg_sl ([.ref h0, .int p0, .int p1])).length) Slot.unset).toArray = ls at hl ⊢
  have hl : lv_has ls 3 [(0, .ref h0), (1, .int p0), (2, .int p1)] := hl
  refine lv_aload_n hx hb dX5_setBranchAfter_0 rfl (lv_at hl 0 rfl) ?_
  refine lv_iload_n hx hb dX5_setBranchAfter_1 rfl (lv_at hl 1 rfl) ?_
  have hPc := hP.sub (ws' := [(h0, .inr (5, [.int xx5_0, .int xx5_1, .ref ax5_2, .ref ax5_3, .ref ax5_4, .ref ax5_5, .ref ax5_6, .ref ax5_7, .ref ax5_8, .ref ax5_9, .ref ax5_10, .ref ax5_11, .ref ax5_12, .ref ax5_13, .ref ax5_14, .ref ax5_15, .ref ax5_16]))]) [0] rfl
  have hDc := hD.sub (ws' := [(h0, .inr (5, [.int xx5_0, .int xx5_1, .ref ax5_2, .ref ax5_3, .ref ax5_4, .ref ax5_5, .ref ax5_6, .ref ax5_7, .ref ax5_8, .ref ax5_9, .ref ax5_10, .ref ax5_11, .ref ax5_12, .ref ax5_13, .ref ax5_14, .ref ax5_15, .ref ax5_16]))]) [0] (by decide) rfl
  have hKc := hK.sub (tys' := []) [] rfl
  have hFc := va_free (wc := [(h0, .inr (5, [.int xx5_0, .int xx5_1, .ref ax5_2, .ref ax5_3, .ref ax5_4, .ref ax5_5, .ref ax5_6, .ref ax5_7, .ref ax5_8, .ref ax5_9, .ref ax5_10, .ref ax5_11, .ref ax5_12, .ref ax5_13, .ref ax5_14, .ref ax5_15, .ref ax5_16]))]) hD hS hA [0] rfl
  refine va_calli (va_runV (As := [.int p0]) (rest := []) ⟨hx, hb, hml, hown, hts⟩ (s_X5_isType l dC dI h0 xx5_0 xx5_1 ax5_2 ax5_3 ax5_4 ax5_5 ax5_6 ax5_7 ax5_8 ax5_9 ax5_10 ax5_11 ax5_12 ax5_13 ax5_14 ax5_15 ax5_16 p0 (by have a0 := hi_xx5_0.1; have a1 := hi_xx5_0.2; omega) (by have a0 := hi_xx5_1.1; have a1 := hi_xx5_1.2; omega) s.heap.size) (cwV 1 hts (gV mw_15_3 mw_15_4 mw_15_5 mw_0_9 mw_48_26) rfl rfl rfl (by decide +kernel) ⟨(Nat.le_of_ble_eq_true rfl), (Nat.le_of_ble_eq_true rfl)⟩) (vV (ci := 5) (q0 := 0) hKc hPc hDc hN rfl rfl) rfl rfl hl.1 rfl (lv_room (Nat.le_of_ble_eq_true rfl)) dX5_setBranchAfter_2 ⟨(Nat.le_of_ble_eq_true rfl), (Nat.le_of_ble_eq_true rfl)⟩) hS (fun q _ h => hFc q h) hFc (fun r_1 u t H1 locs ht hvm hw hB hz1 hk1 hS => ?_)
  obtain ⟨hP1, hK1, hD1⟩ := hB
  rw [ht] at hP1
  have hK1 := va_K.moved hvm.symm hK1
  obtain ⟨hP, hD⟩ := va_join (wr := [(ax5_14, .inl (cx5_14, 262, .inl fx5_14))]) (w1 := [(h0, .inr (5, [.int xx5_0, .int xx5_1, .ref ax5_2, .ref ax5_3, .ref ax5_4, .ref ax5_5, .ref ax5_6, .ref ax5_7, .ref ax5_8, .ref ax5_9, .ref ax5_10, .ref ax5_11, .ref ax5_12, .ref ax5_13, .ref ax5_14, .ref ax5_15, .ref ax5_16]))]) hP hD [0] [1] rfl rfl (by decide) (by decide) hk1 hFc hP1 hD1
  clear hPc hDc hKc hP1 hK1 hD1 hFc hk1 hz1
  generalize H1 = H at hP hS ⊢
  have hP : va_P (dC, dI) vwCl [(ax5_14, .inl (cx5_14, 262, .inl fx5_14)), (h0, .inr (5, [.int xx5_0, .int xx5_1, .ref ax5_2, .ref ax5_3, .ref ax5_4, .ref ax5_5, .ref ax5_6, .ref ax5_7, .ref ax5_8, .ref ax5_9, .ref ax5_10, .ref ax5_11, .ref ax5_12, .ref ax5_13, .ref ax5_14, .ref ax5_15, .ref ax5_16]))] H := hP
  have hD : va_D A [(ax5_14, .inl (cx5_14, 262, .inl fx5_14)), (h0, .inr (5, [.int xx5_0, .int xx5_1, .ref ax5_2, .ref ax5_3, .ref ax5_4, .ref ax5_5, .ref ax5_6, .ref ax5_7, .ref ax5_8, .ref ax5_9, .ref ax5_10, .ref ax5_11, .ref ax5_12, .ref ax5_13, .ref ax5_14, .ref ax5_15, .ref ax5_16]))] := hD
  rcases hw with rfl | ⟨rfl, g_2, g_3, g_4⟩
  · refine lv_if_eq (tgt := 15) hx hb dX5_setBranchAfter_5 (by decide) (fun _ => ?_) (fun h => absurd (by decide) h)
    have hP9 := hP.sub (ws' := [(h0, .inr (5, [.int xx5_0, .int xx5_1, .ref ax5_2, .ref ax5_3, .ref ax5_4, .ref ax5_5, .ref ax5_6, .ref ax5_7, .ref ax5_8, .ref ax5_9, .ref ax5_10, .ref ax5_11, .ref ax5_12, .ref ax5_13, .ref ax5_14, .ref ax5_15, .ref ax5_16])), (ax5_14, .inl (cx5_14, 262, .inl fx5_14))]) [1, 0] rfl
    have hD9 := hD.sub (ws' := [(h0, .inr (5, [.int xx5_0, .int xx5_1, .ref ax5_2, .ref ax5_3, .ref ax5_4, .ref ax5_5, .ref ax5_6, .ref ax5_7, .ref ax5_8, .ref ax5_9, .ref ax5_10, .ref ax5_11, .ref ax5_12, .ref ax5_13, .ref ax5_14, .ref ax5_15, .ref ax5_16])), (ax5_14, .inl (cx5_14, 262, .inl fx5_14))]) [1, 0] (by decide) rfl
    have hK9 := hK.sub (tys' := [(cx5_14, .int)]) [0] rfl
    refine W.widen (k := 0) (n := 0) (Nat.le_of_ble_eq_true rfl) (Nat.le_of_ble_eq_true rfl) ?_
    exact W.vret hx hb hr (fun t ht hW => ⟨⟨(), rfl, trivial, fx5_14, by rw [ht]; exact hP9, va_K.moved hW.alike hK9, hD9⟩, hS.F ht⟩) hS.2.2 dX5_setBranchAfter_15
  · refine lv_if_eq (tgt := 15) hx hb dX5_setBranchAfter_5 (by decide) (fun h => absurd h (by decide)) (fun _ => ?_)
    refine lv_aload_n hx hb dX5_setBranchAfter_8 rfl (lv_at hl 0 rfl) ?_
    refine va_get (D := (dC, dI)) (ci := 5) (v := .ref ax5_14) (C := RX5) (T := TX5) (N := 17) hx hb hts inlX5 hown hK hP 1 rfl rfl 14 (by decide) (hts (.fieldLink RX5 56 "ShapeReader$Shapes" "nextBranches" "[I") mw_14_26) (fun _ h9 => h9) rfl dX5_setBranchAfter_9 ?_
    refine lv_iload_n hx hb dX5_setBranchAfter_12 rfl (lv_at hl 1 rfl) ?_
    refine lv_iload_n hx hb dX5_setBranchAfter_13 rfl (lv_at hl 2 rfl) ?_
    refine va_iast hx hb hK hP hD hS 0 0 rfl rfl (vp_in_iff.mpr (by have a0 := il_nlt g_2; have a1 := il_nle g_4; have e0 : (0 : Int32).toInt = 0 := (by decide); have e1 : (262 : Int32).toInt = 262 := (by decide); omega)) dX5_setBranchAfter_14 (fun H locs hP hD hS => ?_)
    obtain ⟨f_7, hP, hD⟩ : ∃ f_7 : Nat → Int32, va_P (dC, dI) vwCl [(ax5_14, .inl (cx5_14, 262, .inl f_7)), (h0, .inr (5, [.int xx5_0, .int xx5_1, .ref ax5_2, .ref ax5_3, .ref ax5_4, .ref ax5_5, .ref ax5_6, .ref ax5_7, .ref ax5_8, .ref ax5_9, .ref ax5_10, .ref ax5_11, .ref ax5_12, .ref ax5_13, .ref ax5_14, .ref ax5_15, .ref ax5_16]))] H ∧ va_D A [(ax5_14, .inl (cx5_14, 262, .inl f_7)), (h0, .inr (5, [.int xx5_0, .int xx5_1, .ref ax5_2, .ref ax5_3, .ref ax5_4, .ref ax5_5, .ref ax5_6, .ref ax5_7, .ref ax5_8, .ref ax5_9, .ref ax5_10, .ref ax5_11, .ref ax5_12, .ref ax5_13, .ref ax5_14, .ref ax5_15, .ref ax5_16]))] := ⟨_, hP, hD⟩
    have hP9 := hP.sub (ws' := [(h0, .inr (5, [.int xx5_0, .int xx5_1, .ref ax5_2, .ref ax5_3, .ref ax5_4, .ref ax5_5, .ref ax5_6, .ref ax5_7, .ref ax5_8, .ref ax5_9, .ref ax5_10, .ref ax5_11, .ref ax5_12, .ref ax5_13, .ref ax5_14, .ref ax5_15, .ref ax5_16])), (ax5_14, .inl (cx5_14, 262, .inl f_7))]) [1, 0] rfl
    have hD9 := hD.sub (ws' := [(h0, .inr (5, [.int xx5_0, .int xx5_1, .ref ax5_2, .ref ax5_3, .ref ax5_4, .ref ax5_5, .ref ax5_6, .ref ax5_7, .ref ax5_8, .ref ax5_9, .ref ax5_10, .ref ax5_11, .ref ax5_12, .ref ax5_13, .ref ax5_14, .ref ax5_15, .ref ax5_16])), (ax5_14, .inl (cx5_14, 262, .inl f_7))]) [1, 0] (by decide) rfl
    have hK9 := hK.sub (tys' := [(cx5_14, .int)]) [0] rfl
    refine W.widen (k := 0) (n := 0) (Nat.le_of_ble_eq_true rfl) (Nat.le_of_ble_eq_true rfl) ?_
    exact W.vret hx hb hr (fun t ht hW => ⟨⟨(), rfl, trivial, f_7, by rw [ht]; exact hP9, va_K.moved hW.alike hK9, hD9⟩, hS.F ht⟩) hS.2.2 dX5_setBranchAfter_15

set_option maxRecDepth 100000 in
set_option maxHeartbeats 4000000 in
theorem s_X5_setAsked (l : Launch) (dC : Nat → ClassId) (dI : Nat → Nat → Nat) (h0 : Nat) (xx5_0 : Int32) (xx5_1 : Int32) (ax5_2 : Nat) (ax5_3 : Nat) (ax5_4 : Nat) (ax5_5 : Nat) (ax5_6 : Nat) (ax5_7 : Nat) (ax5_8 : Nat) (ax5_9 : Nat) (ax5_10 : Nat) (ax5_11 : Nat) (ax5_12 : Nat) (ax5_13 : Nat) (ax5_14 : Nat) (ax5_15 : Nat) (cx5_15 : ClassId) (fx5_15 : Nat → Int64) (ax5_16 : Nat) (cx5_16 : ClassId) (fx5_16 : Nat → Int32) (p0 : Int32) (p1 : Int64) (p2 : Int32) (hi_xx5_0 : (0 : Int) ≤ xx5_0.toInt ∧ xx5_0.toInt ≤ (6 : Int)) (hi_xx5_1 : (0 : Int) ≤ xx5_1.toInt ∧ xx5_1.toInt ≤ (262 : Int)) (sz : Nat) : Met l yX5_setAsked (.code yX5_setAsked cX5_setAsked 5 none :: pw) ({ frames := 1, cells := 0, slots := 0, locals := 21 }) (va_Pc [.ref h0, .int p0, .long p1, .int p2] (vPre dC dI [(h0, .inr (5, [.int xx5_0, .int xx5_1, .ref ax5_2, .ref ax5_3, .ref ax5_4, .ref ax5_5, .ref ax5_6, .ref ax5_7, .ref ax5_8, .ref ax5_9, .ref ax5_10, .ref ax5_11, .ref ax5_12, .ref ax5_13, .ref ax5_14, .ref ax5_15, .ref ax5_16])), (ax5_15, .inl (cx5_15, 262, .inr (.inl fx5_15))), (ax5_16, .inl (cx5_16, 262, .inl fx5_16))] [(cx5_15, .long), (cx5_16, .int)] sz)) (va_Qv (fun (_ : Unit) => True) (fun (_ : Unit) t => ∃ (z1 : Nat → Int64), ∃ (z2 : Nat → Int32), vPst dC dI (va_A [(h0, .inr (5, [.int xx5_0, .int xx5_1, .ref ax5_2, .ref ax5_3, .ref ax5_4, .ref ax5_5, .ref ax5_6, .ref ax5_7, .ref ax5_8, .ref ax5_9, .ref ax5_10, .ref ax5_11, .ref ax5_12, .ref ax5_13, .ref ax5_14, .ref ax5_15, .ref ax5_16])), (ax5_15, .inl (cx5_15, 262, .inr (.inl fx5_15))), (ax5_16, .inl (cx5_16, 262, .inl fx5_16))] sz) [(h0, .inr (5, [.int xx5_0, .int xx5_1, .ref ax5_2, .ref ax5_3, .ref ax5_4, .ref ax5_5, .ref ax5_6, .ref ax5_7, .ref ax5_8, .ref ax5_9, .ref ax5_10, .ref ax5_11, .ref ax5_12, .ref ax5_13, .ref ax5_14, .ref ax5_15, .ref ax5_16])), (ax5_15, .inl (cx5_15, 262, .inr (.inl z1))), (ax5_16, .inl (cx5_16, 262, .inl z2))] [(cx5_15, .long), (cx5_16, .int)] t) (va_A [(h0, .inr (5, [.int xx5_0, .int xx5_1, .ref ax5_2, .ref ax5_3, .ref ax5_4, .ref ax5_5, .ref ax5_6, .ref ax5_7, .ref ax5_8, .ref ax5_9, .ref ax5_10, .ref ax5_11, .ref ax5_12, .ref ax5_13, .ref ax5_14, .ref ax5_15, .ref ax5_16])), (ax5_15, .inl (cx5_15, 262, .inr (.inl fx5_15))), (ax5_16, .inl (cx5_16, 262, .inl fx5_16))] sz)) 0 0 (va_A [(h0, .inr (5, [.int xx5_0, .int xx5_1, .ref ax5_2, .ref ax5_3, .ref ax5_4, .ref ax5_5, .ref ax5_6, .ref ax5_7, .ref ax5_8, .ref ax5_9, .ref ax5_10, .ref ax5_11, .ref ax5_12, .ref ax5_13, .ref ax5_14, .ref ax5_15, .ref ax5_16])), (ax5_15, .inl (cx5_15, 262, .inr (.inl fx5_15))), (ax5_16, .inl (cx5_16, 262, .inl fx5_16))] sz) := by
  refine Met.ofW (cc := cX5_setAsked) (maxL := 5) (ret := none) (by decide) rfl ?_
  intro p e s m args below meth c s₁ B hml hv
  obtain ⟨rfl, hsz, hP, hK, hD0, hN⟩ := hv
  have hx := B.exec
  have hb := B.bytes
  have hr := B.returns
  have hts := atoms_spec (ws := .code yX5_setAsked cX5_setAsked 5 none :: pw) B.pre
  have hts : ∀ w ∈ pw, w.before _ s = true := fun w h => hts w (List.mem_cons_of_mem _ h)
  have hown : s.vm.findClass RX5 = some m.cls := findClass_of_methodNamed B.named
  have hlocks := B.notSynchronized
  subst hsz
  have hD := hD0.self (sz := s.heap.size)
  generalize hAe : va_A [(h0, .inr (5, [.int xx5_0, .int xx5_1, .ref ax5_2, .ref ax5_3, .ref ax5_4, .ref ax5_5, .ref ax5_6, .ref ax5_7, .ref ax5_8, .ref ax5_9, .ref ax5_10, .ref ax5_11, .ref ax5_12, .ref ax5_13, .ref ax5_14, .ref ax5_15, .ref ax5_16])), (ax5_15, .inl (cx5_15, 262, .inr (.inl fx5_15))), (ax5_16, .inl (cx5_16, 262, .inl fx5_16))] s.heap.size = A at hD ⊢
  have hA : ∀ q : Nat, s.heap.size ≤ q → A q := fun q h => by rw [← hAe]; exact Or.inr h
  have hS : va_S A s.heap s.heap [] := va_S.rf
  have hP : va_P (dC, dI) vwCl [(h0, .inr (5, [.int xx5_0, .int xx5_1, .ref ax5_2, .ref ax5_3, .ref ax5_4, .ref ax5_5, .ref ax5_6, .ref ax5_7, .ref ax5_8, .ref ax5_9, .ref ax5_10, .ref ax5_11, .ref ax5_12, .ref ax5_13, .ref ax5_14, .ref ax5_15, .ref ax5_16])), (ax5_15, .inl (cx5_15, 262, .inr (.inl fx5_15))), (ax5_16, .inl (cx5_16, 262, .inl fx5_16))] s.heap := hP
  have hl := lv_entry ([.ref h0, .int p0, .long p1, .int p2]) (n := 5) (Nat.le_of_ble_eq_true rfl)
  rw [lg_entry_eq]
  generalize (lg_sl ([.ref h0, .int p0, .long p1, .int p2]) ++ List.replicate (5 - (lg_sl ([.ref h0, .int p0, .long p1, .int p2])).length) Slot.unset).toArray = ls at hl ⊢
  have hl : lv_has ls 5 [(0, .ref h0), (1, .int p0), (2, .long p1), (4, .int p2)] := hl
  refine lv_aload_n hx hb dX5_setAsked_0 rfl (lv_at hl 0 rfl) ?_
  refine lv_iload_n hx hb dX5_setAsked_1 rfl (lv_at hl 1 rfl) ?_
  have hPc := hP.sub (ws' := [(h0, .inr (5, [.int xx5_0, .int xx5_1, .ref ax5_2, .ref ax5_3, .ref ax5_4, .ref ax5_5, .ref ax5_6, .ref ax5_7, .ref ax5_8, .ref ax5_9, .ref ax5_10, .ref ax5_11, .ref ax5_12, .ref ax5_13, .ref ax5_14, .ref ax5_15, .ref ax5_16]))]) [0] rfl
  have hDc := hD.sub (ws' := [(h0, .inr (5, [.int xx5_0, .int xx5_1, .ref ax5_2, .ref ax5_3, .ref ax5_4, .ref ax5_5, .ref ax5_6, .ref ax5_7, .ref ax5_8, .ref ax5_9, .ref ax5_10, .ref ax5_11, .ref ax5_12, .ref ax5_13, .ref ax5_14, .ref ax5_15, .ref ax5_16]))]) [0] (by decide) rfl
  have hKc := hK.sub (tys' := []) [] rfl
  have hFc := va_free (wc := [(h0, .inr (5, [.int xx5_0, .int xx5_1, .ref ax5_2, .ref ax5_3, .ref ax5_4, .ref ax5_5, .ref ax5_6, .ref ax5_7, .ref ax5_8, .ref ax5_9, .ref ax5_10, .ref ax5_11, .ref ax5_12, .ref ax5_13, .ref ax5_14, .ref ax5_15, .ref ax5_16]))]) hD hS hA [0] rfl
  refine va_calli (va_runV (As := [.int p0]) (rest := []) ⟨hx, hb, hml, hown, hts⟩ (s_X5_isType l dC dI h0 xx5_0 xx5_1 ax5_2 ax5_3 ax5_4 ax5_5 ax5_6 ax5_7 ax5_8 ax5_9 ax5_10 ax5_11 ax5_12 ax5_13 ax5_14 ax5_15 ax5_16 p0 (by have a0 := hi_xx5_0.1; have a1 := hi_xx5_0.2; omega) (by have a0 := hi_xx5_1.1; have a1 := hi_xx5_1.2; omega) s.heap.size) (cwV 1 hts (gV mw_15_3 mw_15_4 mw_15_5 mw_0_9 mw_48_26) rfl rfl rfl (by decide +kernel) ⟨(Nat.le_of_ble_eq_true rfl), (Nat.le_of_ble_eq_true rfl)⟩) (vV (ci := 5) (q0 := 0) hKc hPc hDc hN rfl rfl) rfl rfl hl.1 rfl (lv_room (Nat.le_of_ble_eq_true rfl)) dX5_setAsked_2 ⟨(Nat.le_of_ble_eq_true rfl), (Nat.le_of_ble_eq_true rfl)⟩) hS (fun q _ h => hFc q h) hFc (fun r_1 u t H1 locs ht hvm hw hB hz1 hk1 hS => ?_)
  obtain ⟨hP1, hK1, hD1⟩ := hB
  rw [ht] at hP1
  have hK1 := va_K.moved hvm.symm hK1
  obtain ⟨hP, hD⟩ := va_join (wr := [(ax5_15, .inl (cx5_15, 262, .inr (.inl fx5_15))), (ax5_16, .inl (cx5_16, 262, .inl fx5_16))]) (w1 := [(h0, .inr (5, [.int xx5_0, .int xx5_1, .ref ax5_2, .ref ax5_3, .ref ax5_4, .ref ax5_5, .ref ax5_6, .ref ax5_7, .ref ax5_8, .ref ax5_9, .ref ax5_10, .ref ax5_11, .ref ax5_12, .ref ax5_13, .ref ax5_14, .ref ax5_15, .ref ax5_16]))]) hP hD [0] [1, 2] rfl rfl (by decide) (by decide) hk1 hFc hP1 hD1
  clear hPc hDc hKc hP1 hK1 hD1 hFc hk1 hz1
  generalize H1 = H at hP hS ⊢
  have hP : va_P (dC, dI) vwCl [(ax5_15, .inl (cx5_15, 262, .inr (.inl fx5_15))), (ax5_16, .inl (cx5_16, 262, .inl fx5_16)), (h0, .inr (5, [.int xx5_0, .int xx5_1, .ref ax5_2, .ref ax5_3, .ref ax5_4, .ref ax5_5, .ref ax5_6, .ref ax5_7, .ref ax5_8, .ref ax5_9, .ref ax5_10, .ref ax5_11, .ref ax5_12, .ref ax5_13, .ref ax5_14, .ref ax5_15, .ref ax5_16]))] H := hP
  have hD : va_D A [(ax5_15, .inl (cx5_15, 262, .inr (.inl fx5_15))), (ax5_16, .inl (cx5_16, 262, .inl fx5_16)), (h0, .inr (5, [.int xx5_0, .int xx5_1, .ref ax5_2, .ref ax5_3, .ref ax5_4, .ref ax5_5, .ref ax5_6, .ref ax5_7, .ref ax5_8, .ref ax5_9, .ref ax5_10, .ref ax5_11, .ref ax5_12, .ref ax5_13, .ref ax5_14, .ref ax5_15, .ref ax5_16]))] := hD
  rcases hw with rfl | ⟨rfl, g_2, g_3, g_4⟩
  · refine lv_if_eq (tgt := 23) hx hb dX5_setAsked_5 (by decide) (fun _ => ?_) (fun h => absurd (by decide) h)
    have hP9 := hP.sub (ws' := [(h0, .inr (5, [.int xx5_0, .int xx5_1, .ref ax5_2, .ref ax5_3, .ref ax5_4, .ref ax5_5, .ref ax5_6, .ref ax5_7, .ref ax5_8, .ref ax5_9, .ref ax5_10, .ref ax5_11, .ref ax5_12, .ref ax5_13, .ref ax5_14, .ref ax5_15, .ref ax5_16])), (ax5_15, .inl (cx5_15, 262, .inr (.inl fx5_15))), (ax5_16, .inl (cx5_16, 262, .inl fx5_16))]) [2, 0, 1] rfl
    have hD9 := hD.sub (ws' := [(h0, .inr (5, [.int xx5_0, .int xx5_1, .ref ax5_2, .ref ax5_3, .ref ax5_4, .ref ax5_5, .ref ax5_6, .ref ax5_7, .ref ax5_8, .ref ax5_9, .ref ax5_10, .ref ax5_11, .ref ax5_12, .ref ax5_13, .ref ax5_14, .ref ax5_15, .ref ax5_16])), (ax5_15, .inl (cx5_15, 262, .inr (.inl fx5_15))), (ax5_16, .inl (cx5_16, 262, .inl fx5_16))]) [2, 0, 1] (by decide) rfl
    have hK9 := hK.sub (tys' := [(cx5_15, .long), (cx5_16, .int)]) [0, 1] rfl
    refine W.widen (k := 0) (n := 0) (Nat.le_of_ble_eq_true rfl) (Nat.le_of_ble_eq_true rfl) ?_
    exact W.vret hx hb hr (fun t ht hW => ⟨⟨(), rfl, trivial, fx5_15, fx5_16, by rw [ht]; exact hP9, va_K.moved hW.alike hK9, hD9⟩, hS.F ht⟩) hS.2.2 dX5_setAsked_23
  · refine lv_if_eq (tgt := 23) hx hb dX5_setAsked_5 (by decide) (fun h => absurd h (by decide)) (fun _ => ?_)
    refine lv_aload_n hx hb dX5_setAsked_8 rfl (lv_at hl 0 rfl) ?_
    refine va_get (D := (dC, dI)) (ci := 5) (v := .ref ax5_15) (C := RX5) (T := TX5) (N := 17) hx hb hts inlX5 hown hK hP 2 rfl rfl 15 (by decide) (hts (.fieldLink RX5 59 "ShapeReader$Shapes" "askedNames" "[J") mw_14_27) (fun _ h9 => h9) rfl dX5_setAsked_9 ?_
    refine lv_iload_n hx hb dX5_setAsked_12 rfl (lv_at hl 1 rfl) ?_
    refine lv_lload_n hx hb dX5_setAsked_13 rfl (lv_at hl 2 rfl) ?_
    refine va_last hx hb hK hP hD hS 0 0 rfl rfl (vp_in_iff.mpr (by have a0 := il_nlt g_2; have a1 := il_nle g_4; have e0 : (0 : Int32).toInt = 0 := (by decide); have e1 : (262 : Int32).toInt = 262 := (by decide); omega)) dX5_setAsked_14 (fun H locs hP hD hS => ?_)
    obtain ⟨f_7, hP, hD⟩ : ∃ f_7 : Nat → Int64, va_P (dC, dI) vwCl [(ax5_15, .inl (cx5_15, 262, .inr (.inl f_7))), (ax5_16, .inl (cx5_16, 262, .inl fx5_16)), (h0, .inr (5, [.int xx5_0, .int xx5_1, .ref ax5_2, .ref ax5_3, .ref ax5_4, .ref ax5_5, .ref ax5_6, .ref ax5_7, .ref ax5_8, .ref ax5_9, .ref ax5_10, .ref ax5_11, .ref ax5_12, .ref ax5_13, .ref ax5_14, .ref ax5_15, .ref ax5_16]))] H ∧ va_D A [(ax5_15, .inl (cx5_15, 262, .inr (.inl f_7))), (ax5_16, .inl (cx5_16, 262, .inl fx5_16)), (h0, .inr (5, [.int xx5_0, .int xx5_1, .ref ax5_2, .ref ax5_3, .ref ax5_4, .ref ax5_5, .ref ax5_6, .ref ax5_7, .ref ax5_8, .ref ax5_9, .ref ax5_10, .ref ax5_11, .ref ax5_12, .ref ax5_13, .ref ax5_14, .ref ax5_15, .ref ax5_16]))] := ⟨_, hP, hD⟩
    refine lv_aload_n hx hb dX5_setAsked_15 rfl (lv_at hl 0 rfl) ?_
    refine va_get (D := (dC, dI)) (ci := 5) (v := .ref ax5_16) (C := RX5) (T := TX5) (N := 17) hx hb hts inlX5 hown hK hP 2 rfl rfl 16 (by decide) (hts (.fieldLink RX5 62 "ShapeReader$Shapes" "askedPlaces" "[I") mw_14_28) (fun _ h9 => h9) rfl dX5_setAsked_16 ?_
    refine lv_iload_n hx hb dX5_setAsked_19 rfl (lv_at hl 1 rfl) ?_
    refine lv_iload hx hb dX5_setAsked_20 (lv_at hl 3 rfl) ?_
    refine va_iast hx hb hK hP hD hS 1 1 rfl rfl (vp_in_iff.mpr (by have a0 := il_nlt g_2; have a1 := il_nle g_4; have e0 : (0 : Int32).toInt = 0 := (by decide); have e1 : (262 : Int32).toInt = 262 := (by decide); omega)) dX5_setAsked_22 (fun H locs hP hD hS => ?_)
    obtain ⟨f_8, hP, hD⟩ : ∃ f_8 : Nat → Int32, va_P (dC, dI) vwCl [(ax5_15, .inl (cx5_15, 262, .inr (.inl f_7))), (ax5_16, .inl (cx5_16, 262, .inl f_8)), (h0, .inr (5, [.int xx5_0, .int xx5_1, .ref ax5_2, .ref ax5_3, .ref ax5_4, .ref ax5_5, .ref ax5_6, .ref ax5_7, .ref ax5_8, .ref ax5_9, .ref ax5_10, .ref ax5_11, .ref ax5_12, .ref ax5_13, .ref ax5_14, .ref ax5_15, .ref ax5_16]))] H ∧ va_D A [(ax5_15, .inl (cx5_15, 262, .inr (.inl f_7))), (ax5_16, .inl (cx5_16, 262, .inl f_8)), (h0, .inr (5, [.int xx5_0, .int xx5_1, .ref ax5_2, .ref ax5_3, .ref ax5_4, .ref ax5_5, .ref ax5_6, .ref ax5_7, .ref ax5_8, .ref ax5_9, .ref ax5_10, .ref ax5_11, .ref ax5_12, .ref ax5_13, .ref ax5_14, .ref ax5_15, .ref ax5_16]))] := ⟨_, hP, hD⟩
    have hP9 := hP.sub (ws' := [(h0, .inr (5, [.int xx5_0, .int xx5_1, .ref ax5_2, .ref ax5_3, .ref ax5_4, .ref ax5_5, .ref ax5_6, .ref ax5_7, .ref ax5_8, .ref ax5_9, .ref ax5_10, .ref ax5_11, .ref ax5_12, .ref ax5_13, .ref ax5_14, .ref ax5_15, .ref ax5_16])), (ax5_15, .inl (cx5_15, 262, .inr (.inl f_7))), (ax5_16, .inl (cx5_16, 262, .inl f_8))]) [2, 0, 1] rfl
    have hD9 := hD.sub (ws' := [(h0, .inr (5, [.int xx5_0, .int xx5_1, .ref ax5_2, .ref ax5_3, .ref ax5_4, .ref ax5_5, .ref ax5_6, .ref ax5_7, .ref ax5_8, .ref ax5_9, .ref ax5_10, .ref ax5_11, .ref ax5_12, .ref ax5_13, .ref ax5_14, .ref ax5_15, .ref ax5_16])), (ax5_15, .inl (cx5_15, 262, .inr (.inl f_7))), (ax5_16, .inl (cx5_16, 262, .inl f_8))]) [2, 0, 1] (by decide) rfl
    have hK9 := hK.sub (tys' := [(cx5_15, .long), (cx5_16, .int)]) [0, 1] rfl
    refine W.widen (k := 0) (n := 0) (Nat.le_of_ble_eq_true rfl) (Nat.le_of_ble_eq_true rfl) ?_
    exact W.vret hx hb hr (fun t ht hW => ⟨⟨(), rfl, trivial, f_7, f_8, by rw [ht]; exact hP9, va_K.moved hW.alike hK9, hD9⟩, hS.F ht⟩) hS.2.2 dX5_setAsked_23

set_option maxRecDepth 100000 in
set_option maxHeartbeats 4000000 in
theorem s_X5_askedPlace (l : Launch) (dC : Nat → ClassId) (dI : Nat → Nat → Nat) (h0 : Nat) (xx5_0 : Int32) (xx5_1 : Int32) (ax5_2 : Nat) (ax5_3 : Nat) (ax5_4 : Nat) (ax5_5 : Nat) (ax5_6 : Nat) (ax5_7 : Nat) (ax5_8 : Nat) (ax5_9 : Nat) (ax5_10 : Nat) (ax5_11 : Nat) (ax5_12 : Nat) (ax5_13 : Nat) (ax5_14 : Nat) (ax5_15 : Nat) (ax5_16 : Nat) (cx5_16 : ClassId) (fx5_16 : Nat → Int32) (p0 : Int32) (hi_xx5_0 : (0 : Int) ≤ xx5_0.toInt ∧ xx5_0.toInt ≤ (6 : Int)) (hi_xx5_1 : (0 : Int) ≤ xx5_1.toInt ∧ xx5_1.toInt ≤ (262 : Int)) (sz : Nat) : Met l yX5_askedPlace (.code yX5_askedPlace cX5_askedPlace 2 (some .int) :: pw) ({ frames := 1, cells := 0, slots := 0, locals := 21 }) (va_Pc [.ref h0, .int p0] (vPre dC dI [(h0, .inr (5, [.int xx5_0, .int xx5_1, .ref ax5_2, .ref ax5_3, .ref ax5_4, .ref ax5_5, .ref ax5_6, .ref ax5_7, .ref ax5_8, .ref ax5_9, .ref ax5_10, .ref ax5_11, .ref ax5_12, .ref ax5_13, .ref ax5_14, .ref ax5_15, .ref ax5_16])), (ax5_16, .inl (cx5_16, 262, .inl fx5_16))] [(cx5_16, .int)] sz)) (va_Qi (fun (r : Int32) (_ : Unit) => (r = (fx5_16 p0.toNatClampNeg)) ∨ (r = 0)) (fun (_ : Unit) t => vPst dC dI (va_A [(h0, .inr (5, [.int xx5_0, .int xx5_1, .ref ax5_2, .ref ax5_3, .ref ax5_4, .ref ax5_5, .ref ax5_6, .ref ax5_7, .ref ax5_8, .ref ax5_9, .ref ax5_10, .ref ax5_11, .ref ax5_12, .ref ax5_13, .ref ax5_14, .ref ax5_15, .ref ax5_16])), (ax5_16, .inl (cx5_16, 262, .inl fx5_16))] sz) [(h0, .inr (5, [.int xx5_0, .int xx5_1, .ref ax5_2, .ref ax5_3, .ref ax5_4, .ref ax5_5, .ref ax5_6, .ref ax5_7, .ref ax5_8, .ref ax5_9, .ref ax5_10, .ref ax5_11, .ref ax5_12, .ref ax5_13, .ref ax5_14, .ref ax5_15, .ref ax5_16])), (ax5_16, .inl (cx5_16, 262, .inl fx5_16))] [(cx5_16, .int)] t) (va_A [(h0, .inr (5, [.int xx5_0, .int xx5_1, .ref ax5_2, .ref ax5_3, .ref ax5_4, .ref ax5_5, .ref ax5_6, .ref ax5_7, .ref ax5_8, .ref ax5_9, .ref ax5_10, .ref ax5_11, .ref ax5_12, .ref ax5_13, .ref ax5_14, .ref ax5_15, .ref ax5_16])), (ax5_16, .inl (cx5_16, 262, .inl fx5_16))] sz)) 0 0 (va_A [(h0, .inr (5, [.int xx5_0, .int xx5_1, .ref ax5_2, .ref ax5_3, .ref ax5_4, .ref ax5_5, .ref ax5_6, .ref ax5_7, .ref ax5_8, .ref ax5_9, .ref ax5_10, .ref ax5_11, .ref ax5_12, .ref ax5_13, .ref ax5_14, .ref ax5_15, .ref ax5_16])), (ax5_16, .inl (cx5_16, 262, .inl fx5_16))] sz) := by
  refine Met.ofW (cc := cX5_askedPlace) (maxL := 2) (ret := (some .int)) (by decide) rfl ?_
  intro p e s m args below meth c s₁ B hml hv
  obtain ⟨rfl, hsz, hP, hK, hD0, hN⟩ := hv
  have hx := B.exec
  have hb := B.bytes
  have hr := B.returns
  have hts := atoms_spec (ws := .code yX5_askedPlace cX5_askedPlace 2 (some .int) :: pw) B.pre
  have hts : ∀ w ∈ pw, w.before _ s = true := fun w h => hts w (List.mem_cons_of_mem _ h)
  have hown : s.vm.findClass RX5 = some m.cls := findClass_of_methodNamed B.named
  have hlocks := B.notSynchronized
  subst hsz
  have hD := hD0.self (sz := s.heap.size)
  generalize hAe : va_A [(h0, .inr (5, [.int xx5_0, .int xx5_1, .ref ax5_2, .ref ax5_3, .ref ax5_4, .ref ax5_5, .ref ax5_6, .ref ax5_7, .ref ax5_8, .ref ax5_9, .ref ax5_10, .ref ax5_11, .ref ax5_12, .ref ax5_13, .ref ax5_14, .ref ax5_15, .ref ax5_16])), (ax5_16, .inl (cx5_16, 262, .inl fx5_16))] s.heap.size = A at hD ⊢
  have hA : ∀ q : Nat, s.heap.size ≤ q → A q := fun q h => by rw [← hAe]; exact Or.inr h
  have hS : va_S A s.heap s.heap [] := va_S.rf
  have hP : va_P (dC, dI) vwCl [(h0, .inr (5, [.int xx5_0, .int xx5_1, .ref ax5_2, .ref ax5_3, .ref ax5_4, .ref ax5_5, .ref ax5_6, .ref ax5_7, .ref ax5_8, .ref ax5_9, .ref ax5_10, .ref ax5_11, .ref ax5_12, .ref ax5_13, .ref ax5_14, .ref ax5_15, .ref ax5_16])), (ax5_16, .inl (cx5_16, 262, .inl fx5_16))] s.heap := hP
  have hl := lv_entry ([.ref h0, .int p0]) (n := 2) (Nat.le_of_ble_eq_true rfl)
  rw [lg_entry_eq]
  generalize (lg_sl ([.ref h0, .int p0]) ++ List.replicate (2 - (lg_sl ([.ref h0, .int p0])).length) Slot.unset).toArray = ls at hl ⊢
  have hl : lv_has ls 2 [(0, .ref h0), (1, .int p0)] := hl
  refine lv_aload_n hx hb dX5_askedPlace_0 rfl (lv_at hl 0 rfl) ?_
  refine lv_iload_n hx hb dX5_askedPlace_1 rfl (lv_at hl 1 rfl) ?_
  have hPc := hP.sub (ws' := [(h0, .inr (5, [.int xx5_0, .int xx5_1, .ref ax5_2, .ref ax5_3, .ref ax5_4, .ref ax5_5, .ref ax5_6, .ref ax5_7, .ref ax5_8, .ref ax5_9, .ref ax5_10, .ref ax5_11, .ref ax5_12, .ref ax5_13, .ref ax5_14, .ref ax5_15, .ref ax5_16]))]) [0] rfl
  have hDc := hD.sub (ws' := [(h0, .inr (5, [.int xx5_0, .int xx5_1, .ref ax5_2, .ref ax5_3, .ref ax5_4, .ref ax5_5, .ref ax5_6, .ref ax5_7, .ref ax5_8, .ref ax5_9, .ref ax5_10, .ref ax5_11, .ref ax5_12, .ref ax5_13, .ref ax5_14, .ref ax5_15, .ref ax5_16]))]) [0] (by decide) rfl
  have hKc := hK.sub (tys' := []) [] rfl
  have hFc := va_free (wc := [(h0, .inr (5, [.int xx5_0, .int xx5_1, .ref ax5_2, .ref ax5_3, .ref ax5_4, .ref ax5_5, .ref ax5_6, .ref ax5_7, .ref ax5_8, .ref ax5_9, .ref ax5_10, .ref ax5_11, .ref ax5_12, .ref ax5_13, .ref ax5_14, .ref ax5_15, .ref ax5_16]))]) hD hS hA [0] rfl
  refine va_calli (va_runV (As := [.int p0]) (rest := []) ⟨hx, hb, hml, hown, hts⟩ (s_X5_isType l dC dI h0 xx5_0 xx5_1 ax5_2 ax5_3 ax5_4 ax5_5 ax5_6 ax5_7 ax5_8 ax5_9 ax5_10 ax5_11 ax5_12 ax5_13 ax5_14 ax5_15 ax5_16 p0 (by have a0 := hi_xx5_0.1; have a1 := hi_xx5_0.2; omega) (by have a0 := hi_xx5_1.1; have a1 := hi_xx5_1.2; omega) s.heap.size) (cwV 1 hts (gV mw_15_3 mw_15_4 mw_15_5 mw_0_9 mw_48_26) rfl rfl rfl (by decide +kernel) ⟨(Nat.le_of_ble_eq_true rfl), (Nat.le_of_ble_eq_true rfl)⟩) (vV (ci := 5) (q0 := 0) hKc hPc hDc hN rfl rfl) rfl rfl hl.1 rfl (lv_room (Nat.le_of_ble_eq_true rfl)) dX5_askedPlace_2 ⟨(Nat.le_of_ble_eq_true rfl), (Nat.le_of_ble_eq_true rfl)⟩) hS (fun q _ h => hFc q h) hFc (fun r_1 u t H1 locs ht hvm hw hB hz1 hk1 hS => ?_)
  obtain ⟨hP1, hK1, hD1⟩ := hB
  rw [ht] at hP1
  have hK1 := va_K.moved hvm.symm hK1
  obtain ⟨hP, hD⟩ := va_join (wr := [(ax5_16, .inl (cx5_16, 262, .inl fx5_16))]) (w1 := [(h0, .inr (5, [.int xx5_0, .int xx5_1, .ref ax5_2, .ref ax5_3, .ref ax5_4, .ref ax5_5, .ref ax5_6, .ref ax5_7, .ref ax5_8, .ref ax5_9, .ref ax5_10, .ref ax5_11, .ref ax5_12, .ref ax5_13, .ref ax5_14, .ref ax5_15, .ref ax5_16]))]) hP hD [0] [1] rfl rfl (by decide) (by decide) hk1 hFc hP1 hD1
  clear hPc hDc hKc hP1 hK1 hD1 hFc hk1 hz1
  generalize H1 = H at hP hS ⊢
  have hP : va_P (dC, dI) vwCl [(ax5_16, .inl (cx5_16, 262, .inl fx5_16)), (h0, .inr (5, [.int xx5_0, .int xx5_1, .ref ax5_2, .ref ax5_3, .ref ax5_4, .ref ax5_5, .ref ax5_6, .ref ax5_7, .ref ax5_8, .ref ax5_9, .ref ax5_10, .ref ax5_11, .ref ax5_12, .ref ax5_13, .ref ax5_14, .ref ax5_15, .ref ax5_16]))] H := hP
  have hD : va_D A [(ax5_16, .inl (cx5_16, 262, .inl fx5_16)), (h0, .inr (5, [.int xx5_0, .int xx5_1, .ref ax5_2, .ref ax5_3, .ref ax5_4, .ref ax5_5, .ref ax5_6, .ref ax5_7, .ref ax5_8, .ref ax5_9, .ref ax5_10, .ref ax5_11, .ref ax5_12, .ref ax5_13, .ref ax5_14, .ref ax5_15, .ref ax5_16]))] := hD
  rcases hw with rfl | ⟨rfl, g_2, g_3, g_4⟩
  · refine lv_if_eq (tgt := 17) hx hb dX5_askedPlace_5 (by decide) (fun _ => ?_) (fun h => absurd (by decide) h)
    refine lv_iconst (v := 0) hx hb dX5_askedPlace_17 (by decide) ?_
    have hP9 := hP.sub (ws' := [(h0, .inr (5, [.int xx5_0, .int xx5_1, .ref ax5_2, .ref ax5_3, .ref ax5_4, .ref ax5_5, .ref ax5_6, .ref ax5_7, .ref ax5_8, .ref ax5_9, .ref ax5_10, .ref ax5_11, .ref ax5_12, .ref ax5_13, .ref ax5_14, .ref ax5_15, .ref ax5_16])), (ax5_16, .inl (cx5_16, 262, .inl fx5_16))]) [1, 0] rfl
    have hD9 := hD.sub (ws' := [(h0, .inr (5, [.int xx5_0, .int xx5_1, .ref ax5_2, .ref ax5_3, .ref ax5_4, .ref ax5_5, .ref ax5_6, .ref ax5_7, .ref ax5_8, .ref ax5_9, .ref ax5_10, .ref ax5_11, .ref ax5_12, .ref ax5_13, .ref ax5_14, .ref ax5_15, .ref ax5_16])), (ax5_16, .inl (cx5_16, 262, .inl fx5_16))]) [1, 0] (by decide) rfl
    have hK9 := hK.sub (tys' := [(cx5_16, .int)]) [0] rfl
    refine W.widen (k := 0) (n := 0) (Nat.le_of_ble_eq_true rfl) (Nat.le_of_ble_eq_true rfl) ?_
    exact W.iret (v := 0) hx hb hr (fun t ht hW => ⟨⟨0, (), rfl, Or.inr (rfl), by rw [ht]; exact hP9, va_K.moved hW.alike hK9, hD9⟩, hS.F ht⟩) hS.2.2 dX5_askedPlace_18
  · refine lv_if_eq (tgt := 17) hx hb dX5_askedPlace_5 (by decide) (fun h => absurd h (by decide)) (fun _ => ?_)
    refine lv_aload_n hx hb dX5_askedPlace_8 rfl (lv_at hl 0 rfl) ?_
    refine va_get (D := (dC, dI)) (ci := 5) (v := .ref ax5_16) (C := RX5) (T := TX5) (N := 17) hx hb hts inlX5 hown hK hP 1 rfl rfl 16 (by decide) (hts (.fieldLink RX5 62 "ShapeReader$Shapes" "askedPlaces" "[I") mw_14_28) (fun _ h9 => h9) rfl dX5_askedPlace_9 ?_
    refine lv_iload_n hx hb dX5_askedPlace_12 rfl (lv_at hl 1 rfl) ?_
    refine va_iald hx hb hK hP 0 0 rfl rfl (vp_in_iff.mpr (by have a0 := il_nlt g_2; have a1 := il_nle g_4; have e0 : (0 : Int32).toInt = 0 := (by decide); have e1 : (262 : Int32).toInt = 262 := (by decide); omega)) dX5_askedPlace_13 ?_
    refine lv_topi (fun x_7 ex_7 => ?_)
    refine lv_goto (tgt := 18) hx hb dX5_askedPlace_14 (by decide) ?_
    have hP9 := hP.sub (ws' := [(h0, .inr (5, [.int xx5_0, .int xx5_1, .ref ax5_2, .ref ax5_3, .ref ax5_4, .ref ax5_5, .ref ax5_6, .ref ax5_7, .ref ax5_8, .ref ax5_9, .ref ax5_10, .ref ax5_11, .ref ax5_12, .ref ax5_13, .ref ax5_14, .ref ax5_15, .ref ax5_16])), (ax5_16, .inl (cx5_16, 262, .inl fx5_16))]) [1, 0] rfl
    have hD9 := hD.sub (ws' := [(h0, .inr (5, [.int xx5_0, .int xx5_1, .ref ax5_2, .ref ax5_3, .ref ax5_4, .ref ax5_5, .ref ax5_6, .ref ax5_7, .ref ax5_8, .ref ax5_9, .ref ax5_10, .ref ax5_11, .ref ax5_12, .ref ax5_13, .ref ax5_14, .ref ax5_15, .ref ax5_16])), (ax5_16, .inl (cx5_16, 262, .inl fx5_16))]) [1, 0] (by decide) rfl
    have hK9 := hK.sub (tys' := [(cx5_16, .int)]) [0] rfl
    refine W.widen (k := 0) (n := 0) (Nat.le_of_ble_eq_true rfl) (Nat.le_of_ble_eq_true rfl) ?_
    exact W.iret (v := x_7) hx hb hr (fun t ht hW => ⟨⟨x_7, (), rfl, Or.inl ((by rw [ex_7])), by rw [ht]; exact hP9, va_K.moved hW.alike hK9, hD9⟩, hS.F ht⟩) hS.2.2 dX5_askedPlace_18

set_option maxRecDepth 100000 in
set_option maxHeartbeats 4000000 in
theorem s_X6_refuseAt (l : Launch) (dC : Nat → ClassId) (dI : Nat → Nat → Nat) (h0 : Nat) (ax6_0 : Nat) (ax6_1 : Nat) (xx6_2 : Int32) (xx6_3 : Int32) (xx6_4 : Int32) (xx6_5 : Int32) (xx6_6 : Int32) (xx6_7 : Int64) (xx6_8 : Int64) (xx6_9 : Int32) (xx6_10 : Int32) (xx6_11 : Int32) (xx6_12 : Int32) (xx6_13 : Int32) (p0 : Int32) (p1 : Int32) (sz : Nat) : Met l yX6_refuseAt (.code yX6_refuseAt cX6_refuseAt 3 (some .boolean) :: pw) ({ frames := 0, cells := 0, slots := 0, locals := 0 }) (va_Pc [.ref h0, .int p0, .int p1] (vPre dC dI [(h0, .inr (6, [.ref ax6_0, .ref ax6_1, .int xx6_2, .int xx6_3, .int xx6_4, .int xx6_5, .int xx6_6, .long xx6_7, .long xx6_8, .int xx6_9, .int xx6_10, .int xx6_11, .int xx6_12, .int xx6_13]))] [] sz)) (va_Qi (fun (r : Int32) (_ : Unit) => (r = 0)) (fun (_ : Unit) t => ∃ (y0_12 : Int32), ∃ (y0_13 : Int32), vPst dC dI (va_A [(h0, .inr (6, [.ref ax6_0, .ref ax6_1, .int xx6_2, .int xx6_3, .int xx6_4, .int xx6_5, .int xx6_6, .long xx6_7, .long xx6_8, .int xx6_9, .int xx6_10, .int xx6_11, .int xx6_12, .int xx6_13]))] sz) [(h0, .inr (6, [.ref ax6_0, .ref ax6_1, .int xx6_2, .int xx6_3, .int xx6_4, .int xx6_5, .int xx6_6, .long xx6_7, .long xx6_8, .int xx6_9, .int xx6_10, .int xx6_11, .int y0_12, .int y0_13]))] [] t) (va_A [(h0, .inr (6, [.ref ax6_0, .ref ax6_1, .int xx6_2, .int xx6_3, .int xx6_4, .int xx6_5, .int xx6_6, .long xx6_7, .long xx6_8, .int xx6_9, .int xx6_10, .int xx6_11, .int xx6_12, .int xx6_13]))] sz)) 0 0 (va_A [(h0, .inr (6, [.ref ax6_0, .ref ax6_1, .int xx6_2, .int xx6_3, .int xx6_4, .int xx6_5, .int xx6_6, .long xx6_7, .long xx6_8, .int xx6_9, .int xx6_10, .int xx6_11, .int xx6_12, .int xx6_13]))] sz) := by
  refine Met.ofW (cc := cX6_refuseAt) (maxL := 3) (ret := (some .boolean)) (by decide) rfl ?_
  intro p e s m args below meth c s₁ B hml hv
  obtain ⟨rfl, hsz, hP, hK, hD0, hN⟩ := hv
  have hx := B.exec
  have hb := B.bytes
  have hr := B.returns
  have hts := atoms_spec (ws := .code yX6_refuseAt cX6_refuseAt 3 (some .boolean) :: pw) B.pre
  have hts : ∀ w ∈ pw, w.before _ s = true := fun w h => hts w (List.mem_cons_of_mem _ h)
  have hown : s.vm.findClass RX6 = some m.cls := findClass_of_methodNamed B.named
  have hlocks := B.notSynchronized
  subst hsz
  have hD := hD0.self (sz := s.heap.size)
  generalize hAe : va_A [(h0, .inr (6, [.ref ax6_0, .ref ax6_1, .int xx6_2, .int xx6_3, .int xx6_4, .int xx6_5, .int xx6_6, .long xx6_7, .long xx6_8, .int xx6_9, .int xx6_10, .int xx6_11, .int xx6_12, .int xx6_13]))] s.heap.size = A at hD ⊢
  have hA : ∀ q : Nat, s.heap.size ≤ q → A q := fun q h => by rw [← hAe]; exact Or.inr h
  have hS : va_S A s.heap s.heap [] := va_S.rf
  have hP : va_P (dC, dI) vwCl [(h0, .inr (6, [.ref ax6_0, .ref ax6_1, .int xx6_2, .int xx6_3, .int xx6_4, .int xx6_5, .int xx6_6, .long xx6_7, .long xx6_8, .int xx6_9, .int xx6_10, .int xx6_11, .int xx6_12, .int xx6_13]))] s.heap := hP
  have hl := lv_entry ([.ref h0, .int p0, .int p1]) (n := 3) (Nat.le_of_ble_eq_true rfl)
  rw [lg_entry_eq]
  generalize (lg_sl ([.ref h0, .int p0, .int p1]) ++ List.replicate (3 - (lg_sl ([.ref h0, .int p0, .int p1])).length) Slot.unset).toArray = ls at hl ⊢
  have hl : lv_has ls 3 [(0, .ref h0), (1, .int p0), (2, .int p1)] := hl
  refine lv_aload_n hx hb dX6_refuseAt_0 rfl (lv_at hl 0 rfl) ?_
  refine va_get (D := (dC, dI)) (ci := 6) (v := .int xx6_12) (C := RX6) (T := TX6) (N := 14) hx hb hts inlX6 hown hK hP 0 rfl rfl 12 (by decide) (hts (.fieldLink RX6 48 "ShapeReader$Tokens" "faultKind" "I") mw_16_10) (fun _ h9 => h9) rfl dX6_refuseAt_1 ?_
  refine lv_if_ne (tgt := 17) hx hb dX6_refuseAt_4 (by decide) (fun c_1 => ?_) (fun c_1 => ?_)
  · refine lv_iconst (v := 0) hx hb dX6_refuseAt_17 (by decide) ?_
    have hP9 := hP.sub (ws' := [(h0, .inr (6, [.ref ax6_0, .ref ax6_1, .int xx6_2, .int xx6_3, .int xx6_4, .int xx6_5, .int xx6_6, .long xx6_7, .long xx6_8, .int xx6_9, .int xx6_10, .int xx6_11, .int xx6_12, .int xx6_13]))]) [0] rfl
    have hD9 := hD.sub (ws' := [(h0, .inr (6, [.ref ax6_0, .ref ax6_1, .int xx6_2, .int xx6_3, .int xx6_4, .int xx6_5, .int xx6_6, .long xx6_7, .long xx6_8, .int xx6_9, .int xx6_10, .int xx6_11, .int xx6_12, .int xx6_13]))]) [0] (by decide) rfl
    have hK9 := hK.sub (tys' := []) [] rfl
    refine W.widen (k := 0) (n := 0) (Nat.le_of_ble_eq_true rfl) (Nat.le_of_ble_eq_true rfl) ?_
    exact W.zret (v := 0) hx hb hr rfl (fun t ht hW => ⟨⟨0, (), rfl, rfl, xx6_12, xx6_13, by rw [ht]; exact hP9, va_K.moved hW.alike hK9, hD9⟩, hS.F ht⟩) hS.2.2 dX6_refuseAt_18
  · refine lv_aload_n hx hb dX6_refuseAt_7 rfl (lv_at hl 0 rfl) ?_
    refine lv_iload_n hx hb dX6_refuseAt_8 rfl (lv_at hl 1 rfl) ?_
    refine va_put (D := (dC, dI)) (ci := 6) (v := .int p0) (ty := .int) (C := RX6) (T := TX6) (N := 14) hx hb hts inlX6 tyX6 tyX6_ok nmX6 hown hK hP hD hS 0 rfl rfl 12 (by decide) (hts (.fieldLink RX6 48 "ShapeReader$Tokens" "faultKind" "I") mw_16_10) (fun _ h9 => h9) rfl (by decide +kernel) rfl rfl (Nat.le_of_ble_eq_true rfl) dX6_refuseAt_9 (fun H locs hP hD hS => ?_)
    have hP : va_P (dC, dI) vwCl [(h0, .inr (6, [.ref ax6_0, .ref ax6_1, .int xx6_2, .int xx6_3, .int xx6_4, .int xx6_5, .int xx6_6, .long xx6_7, .long xx6_8, .int xx6_9, .int xx6_10, .int xx6_11, .int p0, .int xx6_13]))] H := hP
    have hD : va_D A [(h0, .inr (6, [.ref ax6_0, .ref ax6_1, .int xx6_2, .int xx6_3, .int xx6_4, .int xx6_5, .int xx6_6, .long xx6_7, .long xx6_8, .int xx6_9, .int xx6_10, .int xx6_11, .int p0, .int xx6_13]))] := hD
    refine lv_aload_n hx hb dX6_refuseAt_12 rfl (lv_at hl 0 rfl) ?_
    refine lv_iload_n hx hb dX6_refuseAt_13 rfl (lv_at hl 2 rfl) ?_
    refine va_put (D := (dC, dI)) (ci := 6) (v := .int p1) (ty := .int) (C := RX6) (T := TX6) (N := 14) hx hb hts inlX6 tyX6 tyX6_ok nmX6 hown hK hP hD hS 0 rfl rfl 13 (by decide) (hts (.fieldLink RX6 51 "ShapeReader$Tokens" "faultPlace" "I") mw_16_11) (fun _ h9 => h9) rfl (by decide +kernel) rfl rfl (Nat.le_of_ble_eq_true rfl) dX6_refuseAt_14 (fun H locs hP hD hS => ?_)
    have hP : va_P (dC, dI) vwCl [(h0, .inr (6, [.ref ax6_0, .ref ax6_1, .int xx6_2, .int xx6_3, .int xx6_4, .int xx6_5, .int xx6_6, .long xx6_7, .long xx6_8, .int xx6_9, .int xx6_10, .int xx6_11, .int p0, .int p1]))] H := hP
    have hD : va_D A [(h0, .inr (6, [.ref ax6_0, .ref ax6_1, .int xx6_2, .int xx6_3, .int xx6_4, .int xx6_5, .int xx6_6, .long xx6_7, .long xx6_8, .int xx6_9, .int xx6_10, .int xx6_11, .int p0, .int p1]))] := hD
    refine lv_iconst (v := 0) hx hb dX6_refuseAt_17 (by decide) ?_
    have hP9 := hP.sub (ws' := [(h0, .inr (6, [.ref ax6_0, .ref ax6_1, .int xx6_2, .int xx6_3, .int xx6_4, .int xx6_5, .int xx6_6, .long xx6_7, .long xx6_8, .int xx6_9, .int xx6_10, .int xx6_11, .int p0, .int p1]))]) [0] rfl
    have hD9 := hD.sub (ws' := [(h0, .inr (6, [.ref ax6_0, .ref ax6_1, .int xx6_2, .int xx6_3, .int xx6_4, .int xx6_5, .int xx6_6, .long xx6_7, .long xx6_8, .int xx6_9, .int xx6_10, .int xx6_11, .int p0, .int p1]))]) [0] (by decide) rfl
    have hK9 := hK.sub (tys' := []) [] rfl
    refine W.widen (k := 0) (n := 0) (Nat.le_of_ble_eq_true rfl) (Nat.le_of_ble_eq_true rfl) ?_
    exact W.zret (v := 0) hx hb hr rfl (fun t ht hW => ⟨⟨0, (), rfl, rfl, p0, p1, by rw [ht]; exact hP9, va_K.moved hW.alike hK9, hD9⟩, hS.F ht⟩) hS.2.2 dX6_refuseAt_18

set_option maxRecDepth 100000 in
set_option maxHeartbeats 4000000 in
theorem s_X6_faultAnswer (l : Launch) (dC : Nat → ClassId) (dI : Nat → Nat → Nat) (h0 : Nat) (ax6_0 : Nat) (ax6_1 : Nat) (xx6_2 : Int32) (xx6_3 : Int32) (xx6_4 : Int32) (xx6_5 : Int32) (xx6_6 : Int32) (xx6_7 : Int64) (xx6_8 : Int64) (xx6_9 : Int32) (xx6_10 : Int32) (xx6_11 : Int32) (xx6_12 : Int32) (xx6_13 : Int32) (sz : Nat) : Met l yX6_faultAnswer (.code yX6_faultAnswer cX6_faultAnswer 1 (some .int) :: pw) ({ frames := 0, cells := 0, slots := 0, locals := 0 }) (va_Pc [.ref h0] (vPre dC dI [(h0, .inr (6, [.ref ax6_0, .ref ax6_1, .int xx6_2, .int xx6_3, .int xx6_4, .int xx6_5, .int xx6_6, .long xx6_7, .long xx6_8, .int xx6_9, .int xx6_10, .int xx6_11, .int xx6_12, .int xx6_13]))] [] sz)) (va_Qi (fun (r : Int32) (_ : Unit) => (r = ((-2) - ((8 * xx6_13) + xx6_12)))) (fun (_ : Unit) t => vPst dC dI (va_A [(h0, .inr (6, [.ref ax6_0, .ref ax6_1, .int xx6_2, .int xx6_3, .int xx6_4, .int xx6_5, .int xx6_6, .long xx6_7, .long xx6_8, .int xx6_9, .int xx6_10, .int xx6_11, .int xx6_12, .int xx6_13]))] sz) [(h0, .inr (6, [.ref ax6_0, .ref ax6_1, .int xx6_2, .int xx6_3, .int xx6_4, .int xx6_5, .int xx6_6, .long xx6_7, .long xx6_8, .int xx6_9, .int xx6_10, .int xx6_11, .int xx6_12, .int xx6_13]))] [] t) (va_A [(h0, .inr (6, [.ref ax6_0, .ref ax6_1, .int xx6_2, .int xx6_3, .int xx6_4, .int xx6_5, .int xx6_6, .long xx6_7, .long xx6_8, .int xx6_9, .int xx6_10, .int xx6_11, .int xx6_12, .int xx6_13]))] sz)) 0 0 (va_A [(h0, .inr (6, [.ref ax6_0, .ref ax6_1, .int xx6_2, .int xx6_3, .int xx6_4, .int xx6_5, .int xx6_6, .long xx6_7, .long xx6_8, .int xx6_9, .int xx6_10, .int xx6_11, .int xx6_12, .int xx6_13]))] sz) := by
  refine Met.ofW (cc := cX6_faultAnswer) (maxL := 1) (ret := (some .int)) (by decide) rfl ?_
  intro p e s m args below meth c s₁ B hml hv
  obtain ⟨rfl, hsz, hP, hK, hD0, hN⟩ := hv
  have hx := B.exec
  have hb := B.bytes
  have hr := B.returns
  have hts := atoms_spec (ws := .code yX6_faultAnswer cX6_faultAnswer 1 (some .int) :: pw) B.pre
  have hts : ∀ w ∈ pw, w.before _ s = true := fun w h => hts w (List.mem_cons_of_mem _ h)
  have hown : s.vm.findClass RX6 = some m.cls := findClass_of_methodNamed B.named
  have hlocks := B.notSynchronized
  subst hsz
  have hD := hD0.self (sz := s.heap.size)
  generalize hAe : va_A [(h0, .inr (6, [.ref ax6_0, .ref ax6_1, .int xx6_2, .int xx6_3, .int xx6_4, .int xx6_5, .int xx6_6, .long xx6_7, .long xx6_8, .int xx6_9, .int xx6_10, .int xx6_11, .int xx6_12, .int xx6_13]))] s.heap.size = A at hD ⊢
  have hA : ∀ q : Nat, s.heap.size ≤ q → A q := fun q h => by rw [← hAe]; exact Or.inr h
  have hS : va_S A s.heap s.heap [] := va_S.rf
  have hP : va_P (dC, dI) vwCl [(h0, .inr (6, [.ref ax6_0, .ref ax6_1, .int xx6_2, .int xx6_3, .int xx6_4, .int xx6_5, .int xx6_6, .long xx6_7, .long xx6_8, .int xx6_9, .int xx6_10, .int xx6_11, .int xx6_12, .int xx6_13]))] s.heap := hP
  have hl := lv_entry ([.ref h0]) (n := 1) (Nat.le_of_ble_eq_true rfl)
  rw [lg_entry_eq]
  generalize (lg_sl ([.ref h0]) ++ List.replicate (1 - (lg_sl ([.ref h0])).length) Slot.unset).toArray = ls at hl ⊢
  have hl : lv_has ls 1 [(0, .ref h0)] := hl
  refine lv_bipush (v := (-2)) hx hb dX6_faultAnswer_0 (by decide) ?_
  refine lv_bipush (v := 8) hx hb dX6_faultAnswer_2 (by decide) ?_
  refine lv_aload_n hx hb dX6_faultAnswer_4 rfl (lv_at hl 0 rfl) ?_
  refine va_get (D := (dC, dI)) (ci := 6) (v := .int xx6_13) (C := RX6) (T := TX6) (N := 14) hx hb hts inlX6 hown hK hP 0 rfl rfl 13 (by decide) (hts (.fieldLink RX6 51 "ShapeReader$Tokens" "faultPlace" "I") mw_16_11) (fun _ h9 => h9) rfl dX6_faultAnswer_5 ?_
  refine lv_imul hx hb dX6_faultAnswer_8 ?_
  refine lv_topi (fun x_1 ex_1 => ?_)
  refine lv_aload_n hx hb dX6_faultAnswer_9 rfl (lv_at hl 0 rfl) ?_
  refine va_get (D := (dC, dI)) (ci := 6) (v := .int xx6_12) (C := RX6) (T := TX6) (N := 14) hx hb hts inlX6 hown hK hP 0 rfl rfl 12 (by decide) (hts (.fieldLink RX6 48 "ShapeReader$Tokens" "faultKind" "I") mw_16_10) (fun _ h9 => h9) rfl dX6_faultAnswer_10 ?_
  refine lv_iadd hx hb dX6_faultAnswer_13 ?_
  refine lv_topi (fun x_2 ex_2 => ?_)
  refine lv_isub hx hb dX6_faultAnswer_14 ?_
  refine lv_topi (fun x_3 ex_3 => ?_)
  have hP9 := hP.sub (ws' := [(h0, .inr (6, [.ref ax6_0, .ref ax6_1, .int xx6_2, .int xx6_3, .int xx6_4, .int xx6_5, .int xx6_6, .long xx6_7, .long xx6_8, .int xx6_9, .int xx6_10, .int xx6_11, .int xx6_12, .int xx6_13]))]) [0] rfl
  have hD9 := hD.sub (ws' := [(h0, .inr (6, [.ref ax6_0, .ref ax6_1, .int xx6_2, .int xx6_3, .int xx6_4, .int xx6_5, .int xx6_6, .long xx6_7, .long xx6_8, .int xx6_9, .int xx6_10, .int xx6_11, .int xx6_12, .int xx6_13]))]) [0] (by decide) rfl
  have hK9 := hK.sub (tys' := []) [] rfl
  refine W.widen (k := 0) (n := 0) (Nat.le_of_ble_eq_true rfl) (Nat.le_of_ble_eq_true rfl) ?_
  exact W.iret (v := x_3) hx hb hr (fun t ht hW => ⟨⟨x_3, (), rfl, (by rw [ex_3, ex_2, ex_1]), by rw [ht]; exact hP9, va_K.moved hW.alike hK9, hD9⟩, hS.F ht⟩) hS.2.2 dX6_faultAnswer_15

set_option maxRecDepth 100000 in
set_option maxHeartbeats 4000000 in
theorem s_X6_signAt (l : Launch) (dC : Nat → ClassId) (dI : Nat → Nat → Nat) (h0 : Nat) (ax6_0 : Nat) (cx6_0 : ClassId) (fx6_0 : Nat → Int32) (ax6_1 : Nat) (xx6_2 : Int32) (xx6_3 : Int32) (xx6_4 : Int32) (xx6_5 : Int32) (xx6_6 : Int32) (xx6_7 : Int64) (xx6_8 : Int64) (xx6_9 : Int32) (xx6_10 : Int32) (xx6_11 : Int32) (xx6_12 : Int32) (xx6_13 : Int32) (p0 : Int32) (sz : Nat) : Met l yX6_signAt (.code yX6_signAt cX6_signAt 2 (some .int) :: pw) ({ frames := 0, cells := 0, slots := 0, locals := 0 }) (va_Pc [.ref h0, .int p0] (vPre dC dI [(h0, .inr (6, [.ref ax6_0, .ref ax6_1, .int xx6_2, .int xx6_3, .int xx6_4, .int xx6_5, .int xx6_6, .long xx6_7, .long xx6_8, .int xx6_9, .int xx6_10, .int xx6_11, .int xx6_12, .int xx6_13])), (ax6_0, .inl (cx6_0, 1000, .inl fx6_0))] [(cx6_0, .byte)] sz)) (va_Qi (fun (r : Int32) (_ : Unit) => (r = ((fx6_0 p0.toNatClampNeg) &&& 255) ∧ ¬ p0 < 0 ∧ ¬ xx6_2 ≤ p0 ∧ ¬ 1000 ≤ p0) ∨ (r = 0)) (fun (_ : Unit) t => vPst dC dI (va_A [(h0, .inr (6, [.ref ax6_0, .ref ax6_1, .int xx6_2, .int xx6_3, .int xx6_4, .int xx6_5, .int xx6_6, .long xx6_7, .long xx6_8, .int xx6_9, .int xx6_10, .int xx6_11, .int xx6_12, .int xx6_13])), (ax6_0, .inl (cx6_0, 1000, .inl fx6_0))] sz) [(h0, .inr (6, [.ref ax6_0, .ref ax6_1, .int xx6_2, .int xx6_3, .int xx6_4, .int xx6_5, .int xx6_6, .long xx6_7, .long xx6_8, .int xx6_9, .int xx6_10, .int xx6_11, .int xx6_12, .int xx6_13])), (ax6_0, .inl (cx6_0, 1000, .inl fx6_0))] [(cx6_0, .byte)] t) (va_A [(h0, .inr (6, [.ref ax6_0, .ref ax6_1, .int xx6_2, .int xx6_3, .int xx6_4, .int xx6_5, .int xx6_6, .long xx6_7, .long xx6_8, .int xx6_9, .int xx6_10, .int xx6_11, .int xx6_12, .int xx6_13])), (ax6_0, .inl (cx6_0, 1000, .inl fx6_0))] sz)) 0 0 (va_A [(h0, .inr (6, [.ref ax6_0, .ref ax6_1, .int xx6_2, .int xx6_3, .int xx6_4, .int xx6_5, .int xx6_6, .long xx6_7, .long xx6_8, .int xx6_9, .int xx6_10, .int xx6_11, .int xx6_12, .int xx6_13])), (ax6_0, .inl (cx6_0, 1000, .inl fx6_0))] sz) := by
  refine Met.ofW (cc := cX6_signAt) (maxL := 2) (ret := (some .int)) (by decide) rfl ?_
  intro p e s m args below meth c s₁ B hml hv
  obtain ⟨rfl, hsz, hP, hK, hD0, hN⟩ := hv
  have hx := B.exec
  have hb := B.bytes
  have hr := B.returns
  have hts := atoms_spec (ws := .code yX6_signAt cX6_signAt 2 (some .int) :: pw) B.pre
  have hts : ∀ w ∈ pw, w.before _ s = true := fun w h => hts w (List.mem_cons_of_mem _ h)
  have hown : s.vm.findClass RX6 = some m.cls := findClass_of_methodNamed B.named
  have hlocks := B.notSynchronized
  subst hsz
  have hD := hD0.self (sz := s.heap.size)
  generalize hAe : va_A [(h0, .inr (6, [.ref ax6_0, .ref ax6_1, .int xx6_2, .int xx6_3, .int xx6_4, .int xx6_5, .int xx6_6, .long xx6_7, .long xx6_8, .int xx6_9, .int xx6_10, .int xx6_11, .int xx6_12, .int xx6_13])), (ax6_0, .inl (cx6_0, 1000, .inl fx6_0))] s.heap.size = A at hD ⊢
  have hA : ∀ q : Nat, s.heap.size ≤ q → A q := fun q h => by rw [← hAe]; exact Or.inr h
  have hS : va_S A s.heap s.heap [] := va_S.rf
  have hP : va_P (dC, dI) vwCl [(h0, .inr (6, [.ref ax6_0, .ref ax6_1, .int xx6_2, .int xx6_3, .int xx6_4, .int xx6_5, .int xx6_6, .long xx6_7, .long xx6_8, .int xx6_9, .int xx6_10, .int xx6_11, .int xx6_12, .int xx6_13])), (ax6_0, .inl (cx6_0, 1000, .inl fx6_0))] s.heap := hP
  have hl := lv_entry ([.ref h0, .int p0]) (n := 2) (Nat.le_of_ble_eq_true rfl)
  rw [lg_entry_eq]
  generalize (lg_sl ([.ref h0, .int p0]) ++ List.replicate (2 - (lg_sl ([.ref h0, .int p0])).length) Slot.unset).toArray = ls at hl ⊢
  have hl : lv_has ls 2 [(0, .ref h0), (1, .int p0)] := hl
  refine lv_iload_n hx hb dX6_signAt_0 rfl (lv_at hl 1 rfl) ?_
  refine lv_if_lt (tgt := 34) hx hb dX6_signAt_1 (by decide) (fun c_1 => ?_) (fun c_1 => ?_)
  · refine lv_iconst (v := 0) hx hb dX6_signAt_34 (by decide) ?_
    have hP9 := hP.sub (ws' := [(h0, .inr (6, [.ref ax6_0, .ref ax6_1, .int xx6_2, .int xx6_3, .int xx6_4, .int xx6_5, .int xx6_6, .long xx6_7, .long xx6_8, .int xx6_9, .int xx6_10, .int xx6_11, .int xx6_12, .int xx6_13])), (ax6_0, .inl (cx6_0, 1000, .inl fx6_0))]) [0, 1] rfl
    have hD9 := hD.sub (ws' := [(h0, .inr (6, [.ref ax6_0, .ref ax6_1, .int xx6_2, .int xx6_3, .int xx6_4, .int xx6_5, .int xx6_6, .long xx6_7, .long xx6_8, .int xx6_9, .int xx6_10, .int xx6_11, .int xx6_12, .int xx6_13])), (ax6_0, .inl (cx6_0, 1000, .inl fx6_0))]) [0, 1] (by decide) rfl
    have hK9 := hK.sub (tys' := [(cx6_0, .byte)]) [0] rfl
    refine W.widen (k := 0) (n := 0) (Nat.le_of_ble_eq_true rfl) (Nat.le_of_ble_eq_true rfl) ?_
    exact W.iret (v := 0) hx hb hr (fun t ht hW => ⟨⟨0, (), rfl, Or.inr (rfl), by rw [ht]; exact hP9, va_K.moved hW.alike hK9, hD9⟩, hS.F ht⟩) hS.2.2 dX6_signAt_35
  · refine lv_iload_n hx hb dX6_signAt_4 rfl (lv_at hl 1 rfl) ?_
    refine lv_aload_n hx hb dX6_signAt_5 rfl (lv_at hl 0 rfl) ?_
    refine va_get (D := (dC, dI)) (ci := 6) (v := .int xx6_2) (C := RX6) (T := TX6) (N := 14) hx hb hts inlX6 hown hK hP 0 rfl rfl 2 (by decide) (hts (.fieldLink RX6 15 "ShapeReader$Tokens" "end" "I") mw_16_0) (fun _ h9 => h9) rfl dX6_signAt_6 ?_
    refine lv_icmp_ge (tgt := 34) hx hb dX6_signAt_9 (by decide) (fun c_2 => ?_) (fun c_2 => ?_)
    · refine lv_iconst (v := 0) hx hb dX6_signAt_34 (by decide) ?_
      have hP9 := hP.sub (ws' := [(h0, .inr (6, [.ref ax6_0, .ref ax6_1, .int xx6_2, .int xx6_3, .int xx6_4, .int xx6_5, .int xx6_6, .long xx6_7, .long xx6_8, .int xx6_9, .int xx6_10, .int xx6_11, .int xx6_12, .int xx6_13])), (ax6_0, .inl (cx6_0, 1000, .inl fx6_0))]) [0, 1] rfl
      have hD9 := hD.sub (ws' := [(h0, .inr (6, [.ref ax6_0, .ref ax6_1, .int xx6_2, .int xx6_3, .int xx6_4, .int xx6_5, .int xx6_6, .long xx6_7, .long xx6_8, .int xx6_9, .int xx6_10, .int xx6_11, .int xx6_12, .int xx6_13])), (ax6_0, .inl (cx6_0, 1000, .inl fx6_0))]) [0, 1] (by decide) rfl
      have hK9 := hK.sub (tys' := [(cx6_0, .byte)]) [0] rfl
      refine W.widen (k := 0) (n := 0) (Nat.le_of_ble_eq_true rfl) (Nat.le_of_ble_eq_true rfl) ?_
      exact W.iret (v := 0) hx hb hr (fun t ht hW => ⟨⟨0, (), rfl, Or.inr (rfl), by rw [ht]; exact hP9, va_K.moved hW.alike hK9, hD9⟩, hS.F ht⟩) hS.2.2 dX6_signAt_35
    · refine lv_iload_n hx hb dX6_signAt_12 rfl (lv_at hl 1 rfl) ?_
      refine lv_aload_n hx hb dX6_signAt_13 rfl (lv_at hl 0 rfl) ?_
      refine va_get (D := (dC, dI)) (ci := 6) (v := .ref ax6_0) (C := RX6) (T := TX6) (N := 14) hx hb hts inlX6 hown hK hP 0 rfl rfl 0 (by decide) (hts (.fieldLink RX6 54 "ShapeReader$Tokens" "tape" "[B") mw_16_12) (fun _ h9 => h9) rfl dX6_signAt_14 ?_
      refine va_alen hx hb hK hP 1 0 rfl rfl (v := 1000) rfl dX6_signAt_17 ?_
      refine lv_icmp_ge (tgt := 34) hx hb dX6_signAt_18 (by decide) (fun c_3 => ?_) (fun c_3 => ?_)
      · refine lv_iconst (v := 0) hx hb dX6_signAt_34 (by decide) ?_
        have hP9 := hP.sub (ws' := [(h0, .inr (6, [.ref ax6_0, .ref ax6_1, .int xx6_2, .int xx6_3, .int xx6_4, .int xx6_5, .int xx6_6, .long xx6_7, .long xx6_8, .int xx6_9, .int xx6_10, .int xx6_11, .int xx6_12, .int xx6_13])), (ax6_0, .inl (cx6_0, 1000, .inl fx6_0))]) [0, 1] rfl
        have hD9 := hD.sub (ws' := [(h0, .inr (6, [.ref ax6_0, .ref ax6_1, .int xx6_2, .int xx6_3, .int xx6_4, .int xx6_5, .int xx6_6, .long xx6_7, .long xx6_8, .int xx6_9, .int xx6_10, .int xx6_11, .int xx6_12, .int xx6_13])), (ax6_0, .inl (cx6_0, 1000, .inl fx6_0))]) [0, 1] (by decide) rfl
        have hK9 := hK.sub (tys' := [(cx6_0, .byte)]) [0] rfl
        refine W.widen (k := 0) (n := 0) (Nat.le_of_ble_eq_true rfl) (Nat.le_of_ble_eq_true rfl) ?_
        exact W.iret (v := 0) hx hb hr (fun t ht hW => ⟨⟨0, (), rfl, Or.inr (rfl), by rw [ht]; exact hP9, va_K.moved hW.alike hK9, hD9⟩, hS.F ht⟩) hS.2.2 dX6_signAt_35
      · refine lv_aload_n hx hb dX6_signAt_21 rfl (lv_at hl 0 rfl) ?_
        refine va_get (D := (dC, dI)) (ci := 6) (v := .ref ax6_0) (C := RX6) (T := TX6) (N := 14) hx hb hts inlX6 hown hK hP 0 rfl rfl 0 (by decide) (hts (.fieldLink RX6 54 "ShapeReader$Tokens" "tape" "[B") mw_16_12) (fun _ h9 => h9) rfl dX6_signAt_22 ?_
        refine lv_iload_n hx hb dX6_signAt_25 rfl (lv_at hl 1 rfl) ?_
        refine va_bald hx hb hK hP 1 0 rfl rfl (vp_in_iff.mpr (by have a0 := il_nlt c_1; have a1 := il_nle c_3; have e0 : (0 : Int32).toInt = 0 := (by decide); have e1 : (1000 : Int32).toInt = 1000 := (by decide); omega)) dX6_signAt_26 ?_
        refine lv_topi (fun x_4 ex_4 => ?_)
        refine lv_sipush (v := 255) hx hb dX6_signAt_27 (by decide) ?_
        refine lv_iand hx hb dX6_signAt_30 ?_
        refine lv_topi (fun x_5 ex_5 => ?_)
        refine lv_goto (tgt := 35) hx hb dX6_signAt_31 (by decide) ?_
        have hP9 := hP.sub (ws' := [(h0, .inr (6, [.ref ax6_0, .ref ax6_1, .int xx6_2, .int xx6_3, .int xx6_4, .int xx6_5, .int xx6_6, .long xx6_7, .long xx6_8, .int xx6_9, .int xx6_10, .int xx6_11, .int xx6_12, .int xx6_13])), (ax6_0, .inl (cx6_0, 1000, .inl fx6_0))]) [0, 1] rfl
        have hD9 := hD.sub (ws' := [(h0, .inr (6, [.ref ax6_0, .ref ax6_1, .int xx6_2, .int xx6_3, .int xx6_4, .int xx6_5, .int xx6_6, .long xx6_7, .long xx6_8, .int xx6_9, .int xx6_10, .int xx6_11, .int xx6_12, .int xx6_13])), (ax6_0, .inl (cx6_0, 1000, .inl fx6_0))]) [0, 1] (by decide) rfl
        have hK9 := hK.sub (tys' := [(cx6_0, .byte)]) [0] rfl
        refine W.widen (k := 0) (n := 0) (Nat.le_of_ble_eq_true rfl) (Nat.le_of_ble_eq_true rfl) ?_
        exact W.iret (v := x_5) hx hb hr (fun t ht hW => ⟨⟨x_5, (), rfl, Or.inl (⟨(by rw [ex_5, ex_4]), c_1, c_2, c_3⟩), by rw [ht]; exact hP9, va_K.moved hW.alike hK9, hD9⟩, hS.F ht⟩) hS.2.2 dX6_signAt_35

set_option maxRecDepth 100000 in
set_option maxHeartbeats 4000000 in
theorem s_X6_isLetter (l : Launch) (dC : Nat → ClassId) (dI : Nat → Nat → Nat) (p0 : Int32) (sz : Nat) : Met l yX6_isLetter (.code yX6_isLetter cX6_isLetter 1 (some .boolean) :: pw) ({ frames := 0, cells := 0, slots := 0, locals := 0 }) (va_Pc [.int p0] (vPre dC dI [] [] sz)) (va_Qi (fun (r : Int32) (_ : Unit) => (r = 0) ∨ (r = 1 ∧ ¬ p0 < 97 ∧ ¬ 122 < p0)) (fun (_ : Unit) t => vPst dC dI (va_A [] sz) [] [] t) (va_A [] sz)) 0 0 (va_A [] sz) := by
  refine Met.ofW (cc := cX6_isLetter) (maxL := 1) (ret := (some .boolean)) (by decide) rfl ?_
  intro p e s m args below meth c s₁ B hml hv
  obtain ⟨rfl, hsz, hP, hK, hD0, hN⟩ := hv
  have hx := B.exec
  have hb := B.bytes
  have hr := B.returns
  have hts := atoms_spec (ws := .code yX6_isLetter cX6_isLetter 1 (some .boolean) :: pw) B.pre
  have hts : ∀ w ∈ pw, w.before _ s = true := fun w h => hts w (List.mem_cons_of_mem _ h)
  have hown : s.vm.findClass RX6 = some m.cls := findClass_of_methodNamed B.named
  have hlocks := B.notSynchronized
  subst hsz
  have hD := hD0.self (sz := s.heap.size)
  generalize hAe : va_A [] s.heap.size = A at hD ⊢
  have hA : ∀ q : Nat, s.heap.size ≤ q → A q := fun q h => by rw [← hAe]; exact Or.inr h
  have hS : va_S A s.heap s.heap [] := va_S.rf
  have hP : va_P (dC, dI) vwCl [] s.heap := hP
  have hl := lv_entry ([.int p0]) (n := 1) (Nat.le_of_ble_eq_true rfl)
  rw [lg_entry_eq]
  generalize (lg_sl ([.int p0]) ++ List.replicate (1 - (lg_sl ([.int p0])).length) Slot.unset).toArray = ls at hl ⊢
  have hl : lv_has ls 1 [(0, .int p0)] := hl
  refine lv_iload_n hx hb dX6_isLetter_0 rfl (lv_at hl 0 rfl) ?_
  refine lv_bipush (v := 97) hx hb dX6_isLetter_1 (by decide) ?_
  refine lv_icmp_lt (tgt := 16) hx hb dX6_isLetter_3 (by decide) (fun c_1 => ?_) (fun c_1 => ?_)
  · refine lv_iconst (v := 0) hx hb dX6_isLetter_16 (by decide) ?_
    have hP9 := hP.sub (ws' := []) [] rfl
    have hD9 := hD.sub (ws' := []) [] (by decide) rfl
    have hK9 := hK.sub (tys' := []) [] rfl
    refine W.widen (k := 0) (n := 0) (Nat.le_of_ble_eq_true rfl) (Nat.le_of_ble_eq_true rfl) ?_
    exact W.zret (v := 0) hx hb hr rfl (fun t ht hW => ⟨⟨0, (), rfl, Or.inl (rfl), by rw [ht]; exact hP9, va_K.moved hW.alike hK9, hD9⟩, hS.F ht⟩) hS.2.2 dX6_isLetter_17
  · refine lv_iload_n hx hb dX6_isLetter_6 rfl (lv_at hl 0 rfl) ?_
    refine lv_bipush (v := 122) hx hb dX6_isLetter_7 (by decide) ?_
    refine lv_icmp_gt (tgt := 16) hx hb dX6_isLetter_9 (by decide) (fun c_2 => ?_) (fun c_2 => ?_)
    · refine lv_iconst (v := 0) hx hb dX6_isLetter_16 (by decide) ?_
      have hP9 := hP.sub (ws' := []) [] rfl
      have hD9 := hD.sub (ws' := []) [] (by decide) rfl
      have hK9 := hK.sub (tys' := []) [] rfl
      refine W.widen (k := 0) (n := 0) (Nat.le_of_ble_eq_true rfl) (Nat.le_of_ble_eq_true rfl) ?_
      exact W.zret (v := 0) hx hb hr rfl (fun t ht hW => ⟨⟨0, (), rfl, Or.inl (rfl), by rw [ht]; exact hP9, va_K.moved hW.alike hK9, hD9⟩, hS.F ht⟩) hS.2.2 dX6_isLetter_17
    · refine lv_iconst (v := 1) hx hb dX6_isLetter_12 (by decide) ?_
      refine lv_goto (tgt := 17) hx hb dX6_isLetter_13 (by decide) ?_
      have hP9 := hP.sub (ws' := []) [] rfl
      have hD9 := hD.sub (ws' := []) [] (by decide) rfl
      have hK9 := hK.sub (tys' := []) [] rfl
      refine W.widen (k := 0) (n := 0) (Nat.le_of_ble_eq_true rfl) (Nat.le_of_ble_eq_true rfl) ?_
      exact W.zret (v := 1) hx hb hr rfl (fun t ht hW => ⟨⟨1, (), rfl, Or.inr (⟨rfl, c_1, c_2⟩), by rw [ht]; exact hP9, va_K.moved hW.alike hK9, hD9⟩, hS.F ht⟩) hS.2.2 dX6_isLetter_17

set_option maxRecDepth 100000 in
set_option maxHeartbeats 4000000 in
theorem s_X6_isDigit (l : Launch) (dC : Nat → ClassId) (dI : Nat → Nat → Nat) (p0 : Int32) (sz : Nat) : Met l yX6_isDigit (.code yX6_isDigit cX6_isDigit 1 (some .boolean) :: pw) ({ frames := 0, cells := 0, slots := 0, locals := 0 }) (va_Pc [.int p0] (vPre dC dI [] [] sz)) (va_Qi (fun (r : Int32) (_ : Unit) => (r = 0) ∨ (r = 1 ∧ ¬ p0 < 48 ∧ ¬ 57 < p0)) (fun (_ : Unit) t => vPst dC dI (va_A [] sz) [] [] t) (va_A [] sz)) 0 0 (va_A [] sz) := by
  refine Met.ofW (cc := cX6_isDigit) (maxL := 1) (ret := (some .boolean)) (by decide) rfl ?_
  intro p e s m args below meth c s₁ B hml hv
  obtain ⟨rfl, hsz, hP, hK, hD0, hN⟩ := hv
  have hx := B.exec
  have hb := B.bytes
  have hr := B.returns
  have hts := atoms_spec (ws := .code yX6_isDigit cX6_isDigit 1 (some .boolean) :: pw) B.pre
  have hts : ∀ w ∈ pw, w.before _ s = true := fun w h => hts w (List.mem_cons_of_mem _ h)
  have hown : s.vm.findClass RX6 = some m.cls := findClass_of_methodNamed B.named
  have hlocks := B.notSynchronized
  subst hsz
  have hD := hD0.self (sz := s.heap.size)
  generalize hAe : va_A [] s.heap.size = A at hD ⊢
  have hA : ∀ q : Nat, s.heap.size ≤ q → A q := fun q h => by rw [← hAe]; exact Or.inr h
  have hS : va_S A s.heap s.heap [] := va_S.rf
  have hP : va_P (dC, dI) vwCl [] s.heap := hP
  have hl := lv_entry ([.int p0]) (n := 1) (Nat.le_of_ble_eq_true rfl)
  rw [lg_entry_eq]
  generalize (lg_sl ([.int p0]) ++ List.replicate (1 - (lg_sl ([.int p0])).length) Slot.unset).toArray = ls at hl ⊢
  have hl : lv_has ls 1 [(0, .int p0)] := hl
  refine lv_iload_n hx hb dX6_isDigit_0 rfl (lv_at hl 0 rfl) ?_
  refine lv_bipush (v := 48) hx hb dX6_isDigit_1 (by decide) ?_
  refine lv_icmp_lt (tgt := 16) hx hb dX6_isDigit_3 (by decide) (fun c_1 => ?_) (fun c_1 => ?_)
  · refine lv_iconst (v := 0) hx hb dX6_isDigit_16 (by decide) ?_
    have hP9 := hP.sub (ws' := []) [] rfl
    have hD9 := hD.sub (ws' := []) [] (by decide) rfl
    have hK9 := hK.sub (tys' := []) [] rfl
    refine W.widen (k := 0) (n := 0) (Nat.le_of_ble_eq_true rfl) (Nat.le_of_ble_eq_true rfl) ?_
    exact W.zret (v := 0) hx hb hr rfl (fun t ht hW => ⟨⟨0, (), rfl, Or.inl (rfl), by rw [ht]; exact hP9, va_K.moved hW.alike hK9, hD9⟩, hS.F ht⟩) hS.2.2 dX6_isDigit_17
  · refine lv_iload_n hx hb dX6_isDigit_6 rfl (lv_at hl 0 rfl) ?_
    refine lv_bipush (v := 57) hx hb dX6_isDigit_7 (by decide) ?_
    refine lv_icmp_gt (tgt := 16) hx hb dX6_isDigit_9 (by decide) (fun c_2 => ?_) (fun c_2 => ?_)
    · refine lv_iconst (v := 0) hx hb dX6_isDigit_16 (by decide) ?_
      have hP9 := hP.sub (ws' := []) [] rfl
      have hD9 := hD.sub (ws' := []) [] (by decide) rfl
      have hK9 := hK.sub (tys' := []) [] rfl
      refine W.widen (k := 0) (n := 0) (Nat.le_of_ble_eq_true rfl) (Nat.le_of_ble_eq_true rfl) ?_
      exact W.zret (v := 0) hx hb hr rfl (fun t ht hW => ⟨⟨0, (), rfl, Or.inl (rfl), by rw [ht]; exact hP9, va_K.moved hW.alike hK9, hD9⟩, hS.F ht⟩) hS.2.2 dX6_isDigit_17
    · refine lv_iconst (v := 1) hx hb dX6_isDigit_12 (by decide) ?_
      refine lv_goto (tgt := 17) hx hb dX6_isDigit_13 (by decide) ?_
      have hP9 := hP.sub (ws' := []) [] rfl
      have hD9 := hD.sub (ws' := []) [] (by decide) rfl
      have hK9 := hK.sub (tys' := []) [] rfl
      refine W.widen (k := 0) (n := 0) (Nat.le_of_ble_eq_true rfl) (Nat.le_of_ble_eq_true rfl) ?_
      exact W.zret (v := 1) hx hb hr rfl (fun t ht hW => ⟨⟨1, (), rfl, Or.inr (⟨rfl, c_1, c_2⟩), by rw [ht]; exact hP9, va_K.moved hW.alike hK9, hD9⟩, hS.F ht⟩) hS.2.2 dX6_isDigit_17

set_option maxRecDepth 100000 in
set_option maxHeartbeats 4000000 in
theorem s_X6_isKeyword (l : Launch) (dC : Nat → ClassId) (dI : Nat → Nat → Nat) (h0 : Nat) (ax6_0 : Nat) (ax6_1 : Nat) (xx6_2 : Int32) (xx6_3 : Int32) (xx6_4 : Int32) (xx6_5 : Int32) (xx6_6 : Int32) (xx6_7 : Int64) (xx6_8 : Int64) (xx6_9 : Int32) (xx6_10 : Int32) (xx6_11 : Int32) (xx6_12 : Int32) (xx6_13 : Int32) (p0 : Int32) (sz : Nat) : Met l yX6_isKeyword (.code yX6_isKeyword cX6_isKeyword 2 (some .boolean) :: pw) ({ frames := 0, cells := 0, slots := 0, locals := 0 }) (va_Pc [.ref h0, .int p0] (vPre dC dI [(h0, .inr (6, [.ref ax6_0, .ref ax6_1, .int xx6_2, .int xx6_3, .int xx6_4, .int xx6_5, .int xx6_6, .long xx6_7, .long xx6_8, .int xx6_9, .int xx6_10, .int xx6_11, .int xx6_12, .int xx6_13]))] [] sz)) (va_Qi (fun (r : Int32) (_ : Unit) => (r = 0) ∨ (r = 1 ∧ xx6_4 = 2 ∧ xx6_6 = p0)) (fun (_ : Unit) t => vPst dC dI (va_A [(h0, .inr (6, [.ref ax6_0, .ref ax6_1, .int xx6_2, .int xx6_3, .int xx6_4, .int xx6_5, .int xx6_6, .long xx6_7, .long xx6_8, .int xx6_9, .int xx6_10, .int xx6_11, .int xx6_12, .int xx6_13]))] sz) [(h0, .inr (6, [.ref ax6_0, .ref ax6_1, .int xx6_2, .int xx6_3, .int xx6_4, .int xx6_5, .int xx6_6, .long xx6_7, .long xx6_8, .int xx6_9, .int xx6_10, .int xx6_11, .int xx6_12, .int xx6_13]))] [] t) (va_A [(h0, .inr (6, [.ref ax6_0, .ref ax6_1, .int xx6_2, .int xx6_3, .int xx6_4, .int xx6_5, .int xx6_6, .long xx6_7, .long xx6_8, .int xx6_9, .int xx6_10, .int xx6_11, .int xx6_12, .int xx6_13]))] sz)) 0 0 (va_A [(h0, .inr (6, [.ref ax6_0, .ref ax6_1, .int xx6_2, .int xx6_3, .int xx6_4, .int xx6_5, .int xx6_6, .long xx6_7, .long xx6_8, .int xx6_9, .int xx6_10, .int xx6_11, .int xx6_12, .int xx6_13]))] sz) := by
  refine Met.ofW (cc := cX6_isKeyword) (maxL := 2) (ret := (some .boolean)) (by decide) rfl ?_
  intro p e s m args below meth c s₁ B hml hv
  obtain ⟨rfl, hsz, hP, hK, hD0, hN⟩ := hv
  have hx := B.exec
  have hb := B.bytes
  have hr := B.returns
  have hts := atoms_spec (ws := .code yX6_isKeyword cX6_isKeyword 2 (some .boolean) :: pw) B.pre
  have hts : ∀ w ∈ pw, w.before _ s = true := fun w h => hts w (List.mem_cons_of_mem _ h)
  have hown : s.vm.findClass RX6 = some m.cls := findClass_of_methodNamed B.named
  have hlocks := B.notSynchronized
  subst hsz
  have hD := hD0.self (sz := s.heap.size)
  generalize hAe : va_A [(h0, .inr (6, [.ref ax6_0, .ref ax6_1, .int xx6_2, .int xx6_3, .int xx6_4, .int xx6_5, .int xx6_6, .long xx6_7, .long xx6_8, .int xx6_9, .int xx6_10, .int xx6_11, .int xx6_12, .int xx6_13]))] s.heap.size = A at hD ⊢
  have hA : ∀ q : Nat, s.heap.size ≤ q → A q := fun q h => by rw [← hAe]; exact Or.inr h
  have hS : va_S A s.heap s.heap [] := va_S.rf
  have hP : va_P (dC, dI) vwCl [(h0, .inr (6, [.ref ax6_0, .ref ax6_1, .int xx6_2, .int xx6_3, .int xx6_4, .int xx6_5, .int xx6_6, .long xx6_7, .long xx6_8, .int xx6_9, .int xx6_10, .int xx6_11, .int xx6_12, .int xx6_13]))] s.heap := hP
  have hl := lv_entry ([.ref h0, .int p0]) (n := 2) (Nat.le_of_ble_eq_true rfl)
  rw [lg_entry_eq]
  generalize (lg_sl ([.ref h0, .int p0]) ++ List.replicate (2 - (lg_sl ([.ref h0, .int p0])).length) Slot.unset).toArray = ls at hl ⊢
  have hl : lv_has ls 2 [(0, .ref h0), (1, .int p0)] := hl
  refine lv_aload_n hx hb dX6_isKeyword_0 rfl (lv_at hl 0 rfl) ?_
  refine va_get (D := (dC, dI)) (ci := 6) (v := .int xx6_4) (C := RX6) (T := TX6) (N := 14) hx hb hts inlX6 hown hK hP 0 rfl rfl 4 (by decide) (hts (.fieldLink RX6 22 "ShapeReader$Tokens" "kind" "I") mw_16_2) (fun _ h9 => h9) rfl dX6_isKeyword_1 ?_
  refine lv_iconst (v := 2) hx hb dX6_isKeyword_4 (by decide) ?_
  refine lv_icmp_ne (tgt := 20) hx hb dX6_isKeyword_5 (by decide) (fun c_1 => ?_) (fun c_1 => ?_)
  · refine lv_iconst (v := 0) hx hb dX6_isKeyword_20 (by decide) ?_
    have hP9 := hP.sub (ws' := [(h0, .inr (6, [.ref ax6_0, .ref ax6_1, .int xx6_2, .int xx6_3, .int xx6_4, .int xx6_5, .int xx6_6, .long xx6_7, .long xx6_8, .int xx6_9, .int xx6_10, .int xx6_11, .int xx6_12, .int xx6_13]))]) [0] rfl
    have hD9 := hD.sub (ws' := [(h0, .inr (6, [.ref ax6_0, .ref ax6_1, .int xx6_2, .int xx6_3, .int xx6_4, .int xx6_5, .int xx6_6, .long xx6_7, .long xx6_8, .int xx6_9, .int xx6_10, .int xx6_11, .int xx6_12, .int xx6_13]))]) [0] (by decide) rfl
    have hK9 := hK.sub (tys' := []) [] rfl
    refine W.widen (k := 0) (n := 0) (Nat.le_of_ble_eq_true rfl) (Nat.le_of_ble_eq_true rfl) ?_
    exact W.zret (v := 0) hx hb hr rfl (fun t ht hW => ⟨⟨0, (), rfl, Or.inl (rfl), by rw [ht]; exact hP9, va_K.moved hW.alike hK9, hD9⟩, hS.F ht⟩) hS.2.2 dX6_isKeyword_21
  · refine lv_aload_n hx hb dX6_isKeyword_8 rfl (lv_at hl 0 rfl) ?_
    refine va_get (D := (dC, dI)) (ci := 6) (v := .int xx6_6) (C := RX6) (T := TX6) (N := 14) hx hb hts inlX6 hown hK hP 0 rfl rfl 6 (by decide) (hts (.fieldLink RX6 28 "ShapeReader$Tokens" "keyword" "I") mw_16_4) (fun _ h9 => h9) rfl dX6_isKeyword_9 ?_
    refine lv_iload_n hx hb dX6_isKeyword_12 rfl (lv_at hl 1 rfl) ?_
    refine lv_icmp_ne (tgt := 20) hx hb dX6_isKeyword_13 (by decide) (fun c_2 => ?_) (fun c_2 => ?_)
    · refine lv_iconst (v := 0) hx hb dX6_isKeyword_20 (by decide) ?_
      have hP9 := hP.sub (ws' := [(h0, .inr (6, [.ref ax6_0, .ref ax6_1, .int xx6_2, .int xx6_3, .int xx6_4, .int xx6_5, .int xx6_6, .long xx6_7, .long xx6_8, .int xx6_9, .int xx6_10, .int xx6_11, .int xx6_12, .int xx6_13]))]) [0] rfl
      have hD9 := hD.sub (ws' := [(h0, .inr (6, [.ref ax6_0, .ref ax6_1, .int xx6_2, .int xx6_3, .int xx6_4, .int xx6_5, .int xx6_6, .long xx6_7, .long xx6_8, .int xx6_9, .int xx6_10, .int xx6_11, .int xx6_12, .int xx6_13]))]) [0] (by decide) rfl
      have hK9 := hK.sub (tys' := []) [] rfl
      refine W.widen (k := 0) (n := 0) (Nat.le_of_ble_eq_true rfl) (Nat.le_of_ble_eq_true rfl) ?_
      exact W.zret (v := 0) hx hb hr rfl (fun t ht hW => ⟨⟨0, (), rfl, Or.inl (rfl), by rw [ht]; exact hP9, va_K.moved hW.alike hK9, hD9⟩, hS.F ht⟩) hS.2.2 dX6_isKeyword_21
    · refine lv_iconst (v := 1) hx hb dX6_isKeyword_16 (by decide) ?_
      refine lv_goto (tgt := 21) hx hb dX6_isKeyword_17 (by decide) ?_
      have hP9 := hP.sub (ws' := [(h0, .inr (6, [.ref ax6_0, .ref ax6_1, .int xx6_2, .int xx6_3, .int xx6_4, .int xx6_5, .int xx6_6, .long xx6_7, .long xx6_8, .int xx6_9, .int xx6_10, .int xx6_11, .int xx6_12, .int xx6_13]))]) [0] rfl
      have hD9 := hD.sub (ws' := [(h0, .inr (6, [.ref ax6_0, .ref ax6_1, .int xx6_2, .int xx6_3, .int xx6_4, .int xx6_5, .int xx6_6, .long xx6_7, .long xx6_8, .int xx6_9, .int xx6_10, .int xx6_11, .int xx6_12, .int xx6_13]))]) [0] (by decide) rfl
      have hK9 := hK.sub (tys' := []) [] rfl
      refine W.widen (k := 0) (n := 0) (Nat.le_of_ble_eq_true rfl) (Nat.le_of_ble_eq_true rfl) ?_
      exact W.zret (v := 1) hx hb hr rfl (fun t ht hW => ⟨⟨1, (), rfl, Or.inr (⟨rfl, c_1, c_2⟩), by rw [ht]; exact hP9, va_K.moved hW.alike hK9, hD9⟩, hS.F ht⟩) hS.2.2 dX6_isKeyword_21

set_option maxRecDepth 100000 in
set_option maxHeartbeats 4000000 in
theorem s_X6_beginsLiteral (l : Launch) (dC : Nat → ClassId) (dI : Nat → Nat → Nat) (h0 : Nat) (ax6_0 : Nat) (ax6_1 : Nat) (xx6_2 : Int32) (xx6_3 : Int32) (xx6_4 : Int32) (xx6_5 : Int32) (xx6_6 : Int32) (xx6_7 : Int64) (xx6_8 : Int64) (xx6_9 : Int32) (xx6_10 : Int32) (xx6_11 : Int32) (xx6_12 : Int32) (xx6_13 : Int32) (sz : Nat) : Met l yX6_beginsLiteral (.code yX6_beginsLiteral cX6_beginsLiteral 1 (some .boolean) :: pw) ({ frames := 1, cells := 0, slots := 0, locals := 21 }) (va_Pc [.ref h0] (vPre dC dI [(h0, .inr (6, [.ref ax6_0, .ref ax6_1, .int xx6_2, .int xx6_3, .int xx6_4, .int xx6_5, .int xx6_6, .long xx6_7, .long xx6_8, .int xx6_9, .int xx6_10, .int xx6_11, .int xx6_12, .int xx6_13]))] [] sz)) (va_Qi (fun (r : Int32) (_ : Unit) => (r = 0 ∧ ¬ xx6_4 = 4 ∧ ¬ xx6_4 = 5 ∧ ¬ xx6_4 = 91) ∨ (r = 1)) (fun (_ : Unit) t => vPst dC dI (va_A [(h0, .inr (6, [.ref ax6_0, .ref ax6_1, .int xx6_2, .int xx6_3, .int xx6_4, .int xx6_5, .int xx6_6, .long xx6_7, .long xx6_8, .int xx6_9, .int xx6_10, .int xx6_11, .int xx6_12, .int xx6_13]))] sz) [(h0, .inr (6, [.ref ax6_0, .ref ax6_1, .int xx6_2, .int xx6_3, .int xx6_4, .int xx6_5, .int xx6_6, .long xx6_7, .long xx6_8, .int xx6_9, .int xx6_10, .int xx6_11, .int xx6_12, .int xx6_13]))] [] t) (va_A [(h0, .inr (6, [.ref ax6_0, .ref ax6_1, .int xx6_2, .int xx6_3, .int xx6_4, .int xx6_5, .int xx6_6, .long xx6_7, .long xx6_8, .int xx6_9, .int xx6_10, .int xx6_11, .int xx6_12, .int xx6_13]))] sz)) 0 0 (va_A [(h0, .inr (6, [.ref ax6_0, .ref ax6_1, .int xx6_2, .int xx6_3, .int xx6_4, .int xx6_5, .int xx6_6, .long xx6_7, .long xx6_8, .int xx6_9, .int xx6_10, .int xx6_11, .int xx6_12, .int xx6_13]))] sz) := by
  refine Met.ofW (cc := cX6_beginsLiteral) (maxL := 1) (ret := (some .boolean)) (by decide) rfl ?_
  intro p e s m args below meth c s₁ B hml hv
  obtain ⟨rfl, hsz, hP, hK, hD0, hN⟩ := hv
  have hx := B.exec
  have hb := B.bytes
  have hr := B.returns
  have hts := atoms_spec (ws := .code yX6_beginsLiteral cX6_beginsLiteral 1 (some .boolean) :: pw) B.pre
  have hts : ∀ w ∈ pw, w.before _ s = true := fun w h => hts w (List.mem_cons_of_mem _ h)
  have hown : s.vm.findClass RX6 = some m.cls := findClass_of_methodNamed B.named
  have hlocks := B.notSynchronized
  subst hsz
  have hD := hD0.self (sz := s.heap.size)
  generalize hAe : va_A [(h0, .inr (6, [.ref ax6_0, .ref ax6_1, .int xx6_2, .int xx6_3, .int xx6_4, .int xx6_5, .int xx6_6, .long xx6_7, .long xx6_8, .int xx6_9, .int xx6_10, .int xx6_11, .int xx6_12, .int xx6_13]))] s.heap.size = A at hD ⊢
  have hA : ∀ q : Nat, s.heap.size ≤ q → A q := fun q h => by rw [← hAe]; exact Or.inr h
  have hS : va_S A s.heap s.heap [] := va_S.rf
  have hP : va_P (dC, dI) vwCl [(h0, .inr (6, [.ref ax6_0, .ref ax6_1, .int xx6_2, .int xx6_3, .int xx6_4, .int xx6_5, .int xx6_6, .long xx6_7, .long xx6_8, .int xx6_9, .int xx6_10, .int xx6_11, .int xx6_12, .int xx6_13]))] s.heap := hP
  have hl := lv_entry ([.ref h0]) (n := 1) (Nat.le_of_ble_eq_true rfl)
  rw [lg_entry_eq]
  generalize (lg_sl ([.ref h0]) ++ List.replicate (1 - (lg_sl ([.ref h0])).length) Slot.unset).toArray = ls at hl ⊢
  have hl : lv_has ls 1 [(0, .ref h0)] := hl
  refine lv_aload_n hx hb dX6_beginsLiteral_0 rfl (lv_at hl 0 rfl) ?_
  refine va_get (D := (dC, dI)) (ci := 6) (v := .int xx6_4) (C := RX6) (T := TX6) (N := 14) hx hb hts inlX6 hown hK hP 0 rfl rfl 4 (by decide) (hts (.fieldLink RX6 22 "ShapeReader$Tokens" "kind" "I") mw_16_2) (fun _ h9 => h9) rfl dX6_beginsLiteral_1 ?_
  refine lv_iconst (v := 4) hx hb dX6_beginsLiteral_4 (by decide) ?_
  refine lv_icmp_eq (tgt := 52) hx hb dX6_beginsLiteral_5 (by decide) (fun c_1 => ?_) (fun c_1 => ?_)
  · refine lv_iconst (v := 1) hx hb dX6_beginsLiteral_52 (by decide) ?_
    refine lv_goto (tgt := 57) hx hb dX6_beginsLiteral_53 (by decide) ?_
    have hP9 := hP.sub (ws' := [(h0, .inr (6, [.ref ax6_0, .ref ax6_1, .int xx6_2, .int xx6_3, .int xx6_4, .int xx6_5, .int xx6_6, .long xx6_7, .long xx6_8, .int xx6_9, .int xx6_10, .int xx6_11, .int xx6_12, .int xx6_13]))]) [0] rfl
    have hD9 := hD.sub (ws' := [(h0, .inr (6, [.ref ax6_0, .ref ax6_1, .int xx6_2, .int xx6_3, .int xx6_4, .int xx6_5, .int xx6_6, .long xx6_7, .long xx6_8, .int xx6_9, .int xx6_10, .int xx6_11, .int xx6_12, .int xx6_13]))]) [0] (by decide) rfl
    have hK9 := hK.sub (tys' := []) [] rfl
    refine W.widen (k := 0) (n := 0) (Nat.le_of_ble_eq_true rfl) (Nat.le_of_ble_eq_true rfl) ?_
    exact W.zret (v := 1) hx hb hr rfl (fun t ht hW => ⟨⟨1, (), rfl, Or.inr (rfl), by rw [ht]; exact hP9, va_K.moved hW.alike hK9, hD9⟩, hS.F ht⟩) hS.2.2 dX6_beginsLiteral_57
  · refine lv_aload_n hx hb dX6_beginsLiteral_8 rfl (lv_at hl 0 rfl) ?_
    refine va_get (D := (dC, dI)) (ci := 6) (v := .int xx6_4) (C := RX6) (T := TX6) (N := 14) hx hb hts inlX6 hown hK hP 0 rfl rfl 4 (by decide) (hts (.fieldLink RX6 22 "ShapeReader$Tokens" "kind" "I") mw_16_2) (fun _ h9 => h9) rfl dX6_beginsLiteral_9 ?_
    refine lv_iconst (v := 5) hx hb dX6_beginsLiteral_12 (by decide) ?_
    refine lv_icmp_eq (tgt := 52) hx hb dX6_beginsLiteral_13 (by decide) (fun c_2 => ?_) (fun c_2 => ?_)
    · refine lv_iconst (v := 1) hx hb dX6_beginsLiteral_52 (by decide) ?_
      refine lv_goto (tgt := 57) hx hb dX6_beginsLiteral_53 (by decide) ?_
      have hP9 := hP.sub (ws' := [(h0, .inr (6, [.ref ax6_0, .ref ax6_1, .int xx6_2, .int xx6_3, .int xx6_4, .int xx6_5, .int xx6_6, .long xx6_7, .long xx6_8, .int xx6_9, .int xx6_10, .int xx6_11, .int xx6_12, .int xx6_13]))]) [0] rfl
      have hD9 := hD.sub (ws' := [(h0, .inr (6, [.ref ax6_0, .ref ax6_1, .int xx6_2, .int xx6_3, .int xx6_4, .int xx6_5, .int xx6_6, .long xx6_7, .long xx6_8, .int xx6_9, .int xx6_10, .int xx6_11, .int xx6_12, .int xx6_13]))]) [0] (by decide) rfl
      have hK9 := hK.sub (tys' := []) [] rfl
      refine W.widen (k := 0) (n := 0) (Nat.le_of_ble_eq_true rfl) (Nat.le_of_ble_eq_true rfl) ?_
      exact W.zret (v := 1) hx hb hr rfl (fun t ht hW => ⟨⟨1, (), rfl, Or.inr (rfl), by rw [ht]; exact hP9, va_K.moved hW.alike hK9, hD9⟩, hS.F ht⟩) hS.2.2 dX6_beginsLiteral_57
    · refine lv_aload_n hx hb dX6_beginsLiteral_16 rfl (lv_at hl 0 rfl) ?_
      refine va_get (D := (dC, dI)) (ci := 6) (v := .int xx6_4) (C := RX6) (T := TX6) (N := 14) hx hb hts inlX6 hown hK hP 0 rfl rfl 4 (by decide) (hts (.fieldLink RX6 22 "ShapeReader$Tokens" "kind" "I") mw_16_2) (fun _ h9 => h9) rfl dX6_beginsLiteral_17 ?_
      refine lv_bipush (v := 91) hx hb dX6_beginsLiteral_20 (by decide) ?_
      refine lv_icmp_eq (tgt := 52) hx hb dX6_beginsLiteral_22 (by decide) (fun c_3 => ?_) (fun c_3 => ?_)
      · refine lv_iconst (v := 1) hx hb dX6_beginsLiteral_52 (by decide) ?_
        refine lv_goto (tgt := 57) hx hb dX6_beginsLiteral_53 (by decide) ?_
        have hP9 := hP.sub (ws' := [(h0, .inr (6, [.ref ax6_0, .ref ax6_1, .int xx6_2, .int xx6_3, .int xx6_4, .int xx6_5, .int xx6_6, .long xx6_7, .long xx6_8, .int xx6_9, .int xx6_10, .int xx6_11, .int xx6_12, .int xx6_13]))]) [0] rfl
        have hD9 := hD.sub (ws' := [(h0, .inr (6, [.ref ax6_0, .ref ax6_1, .int xx6_2, .int xx6_3, .int xx6_4, .int xx6_5, .int xx6_6, .long xx6_7, .long xx6_8, .int xx6_9, .int xx6_10, .int xx6_11, .int xx6_12, .int xx6_13]))]) [0] (by decide) rfl
        have hK9 := hK.sub (tys' := []) [] rfl
        refine W.widen (k := 0) (n := 0) (Nat.le_of_ble_eq_true rfl) (Nat.le_of_ble_eq_true rfl) ?_
        exact W.zret (v := 1) hx hb hr rfl (fun t ht hW => ⟨⟨1, (), rfl, Or.inr (rfl), by rw [ht]; exact hP9, va_K.moved hW.alike hK9, hD9⟩, hS.F ht⟩) hS.2.2 dX6_beginsLiteral_57
      · refine lv_aload_n hx hb dX6_beginsLiteral_25 rfl (lv_at hl 0 rfl) ?_
        refine lv_bipush (v := 7) hx hb dX6_beginsLiteral_26 (by decide) ?_
        have hPc := hP.sub (ws' := [(h0, .inr (6, [.ref ax6_0, .ref ax6_1, .int xx6_2, .int xx6_3, .int xx6_4, .int xx6_5, .int xx6_6, .long xx6_7, .long xx6_8, .int xx6_9, .int xx6_10, .int xx6_11, .int xx6_12, .int xx6_13]))]) [0] rfl
        have hDc := hD.sub (ws' := [(h0, .inr (6, [.ref ax6_0, .ref ax6_1, .int xx6_2, .int xx6_3, .int xx6_4, .int xx6_5, .int xx6_6, .long xx6_7, .long xx6_8, .int xx6_9, .int xx6_10, .int xx6_11, .int xx6_12, .int xx6_13]))]) [0] (by decide) rfl
        have hKc := hK.sub (tys' := []) [] rfl
        have hFc := va_free (wc := [(h0, .inr (6, [.ref ax6_0, .ref ax6_1, .int xx6_2, .int xx6_3, .int xx6_4, .int xx6_5, .int xx6_6, .long xx6_7, .long xx6_8, .int xx6_9, .int xx6_10, .int xx6_11, .int xx6_12, .int xx6_13]))]) hD hS hA [0] rfl
        refine va_calli (va_runV (As := [.int 7]) (rest := []) ⟨hx, hb, hml, hown, hts⟩ (s_X6_isKeyword l dC dI h0 ax6_0 ax6_1 xx6_2 xx6_3 xx6_4 xx6_5 xx6_6 xx6_7 xx6_8 xx6_9 xx6_10 xx6_11 xx6_12 xx6_13 7 s.heap.size) (cwV 1 hts (gV mw_17_12 mw_7_3 mw_7_4 mw_0_10 mw_50_14) rfl rfl rfl (by decide +kernel) ⟨(Nat.le_of_ble_eq_true rfl), (Nat.le_of_ble_eq_true rfl)⟩) (vV (ci := 6) (q0 := 0) hKc hPc hDc hN rfl rfl) rfl rfl hl.1 rfl (lv_room (Nat.le_of_ble_eq_true rfl)) dX6_beginsLiteral_28 ⟨(Nat.le_of_ble_eq_true rfl), (Nat.le_of_ble_eq_true rfl)⟩) hS (fun q _ h => hFc q h) hFc (fun r_4 u t H1 locs ht hvm hw hB hz1 hk1 hS => ?_)
        obtain ⟨hP1, hK1, hD1⟩ := hB
        rw [ht] at hP1
        have hK1 := va_K.moved hvm.symm hK1
        obtain ⟨hP, hD⟩ := va_join (wr := []) (w1 := [(h0, .inr (6, [.ref ax6_0, .ref ax6_1, .int xx6_2, .int xx6_3, .int xx6_4, .int xx6_5, .int xx6_6, .long xx6_7, .long xx6_8, .int xx6_9, .int xx6_10, .int xx6_11, .int xx6_12, .int xx6_13]))]) hP hD [0] [] rfl rfl (by decide) (by decide) hk1 hFc hP1 hD1
        clear hPc hDc hKc hP1 hK1 hD1 hFc hk1 hz1
        generalize H1 = H at hP hS ⊢
        have hP : va_P (dC, dI) vwCl [(h0, .inr (6, [.ref ax6_0, .ref ax6_1, .int xx6_2, .int xx6_3, .int xx6_4, .int xx6_5, .int xx6_6, .long xx6_7, .long xx6_8, .int xx6_9, .int xx6_10, .int xx6_11, .int xx6_12, .int xx6_13]))] H := hP
        have hD : va_D A [(h0, .inr (6, [.ref ax6_0, .ref ax6_1, .int xx6_2, .int xx6_3, .int xx6_4, .int xx6_5, .int xx6_6, .long xx6_7, .long xx6_8, .int xx6_9, .int xx6_10, .int xx6_11, .int xx6_12, .int xx6_13]))] := hD
        rcases hw with rfl | ⟨rfl, g_5, g_6⟩
        · refine lv_if_ne (tgt := 52) hx hb dX6_beginsLiteral_31 (by decide) (fun h => absurd rfl h) (fun _ => ?_)
          refine lv_aload_n hx hb dX6_beginsLiteral_34 rfl (lv_at hl 0 rfl) ?_
          refine lv_bipush (v := 13) hx hb dX6_beginsLiteral_35 (by decide) ?_
          have hPc := hP.sub (ws' := [(h0, .inr (6, [.ref ax6_0, .ref ax6_1, .int xx6_2, .int xx6_3, .int xx6_4, .int xx6_5, .int xx6_6, .long xx6_7, .long xx6_8, .int xx6_9, .int xx6_10, .int xx6_11, .int xx6_12, .int xx6_13]))]) [0] rfl
          have hDc := hD.sub (ws' := [(h0, .inr (6, [.ref ax6_0, .ref ax6_1, .int xx6_2, .int xx6_3, .int xx6_4, .int xx6_5, .int xx6_6, .long xx6_7, .long xx6_8, .int xx6_9, .int xx6_10, .int xx6_11, .int xx6_12, .int xx6_13]))]) [0] (by decide) rfl
          have hKc := hK.sub (tys' := []) [] rfl
          have hFc := va_free (wc := [(h0, .inr (6, [.ref ax6_0, .ref ax6_1, .int xx6_2, .int xx6_3, .int xx6_4, .int xx6_5, .int xx6_6, .long xx6_7, .long xx6_8, .int xx6_9, .int xx6_10, .int xx6_11, .int xx6_12, .int xx6_13]))]) hD hS hA [0] rfl
          refine va_calli (va_runV (As := [.int 13]) (rest := []) ⟨hx, hb, hml, hown, hts⟩ (s_X6_isKeyword l dC dI h0 ax6_0 ax6_1 xx6_2 xx6_3 xx6_4 xx6_5 xx6_6 xx6_7 xx6_8 xx6_9 xx6_10 xx6_11 xx6_12 xx6_13 13 H.size) (cwV 1 hts (gV mw_17_12 mw_7_3 mw_7_4 mw_0_10 mw_50_14) rfl rfl rfl (by decide +kernel) ⟨(Nat.le_of_ble_eq_true rfl), (Nat.le_of_ble_eq_true rfl)⟩) (vV (ci := 6) (q0 := 0) hKc hPc hDc hN rfl rfl) rfl rfl hl.1 rfl (lv_room (Nat.le_of_ble_eq_true rfl)) dX6_beginsLiteral_37 ⟨(Nat.le_of_ble_eq_true rfl), (Nat.le_of_ble_eq_true rfl)⟩) hS (fun q _ h => hFc q h) hFc (fun r_8 u t H1 locs ht hvm hw hB hz1 hk1 hS => ?_)
          obtain ⟨hP1, hK1, hD1⟩ := hB
          rw [ht] at hP1
          have hK1 := va_K.moved hvm.symm hK1
          obtain ⟨hP, hD⟩ := va_join (wr := []) (w1 := [(h0, .inr (6, [.ref ax6_0, .ref ax6_1, .int xx6_2, .int xx6_3, .int xx6_4, .int xx6_5, .int xx6_6, .long xx6_7, .long xx6_8, .int xx6_9, .int xx6_10, .int xx6_11, .int xx6_12, .int xx6_13]))]) hP hD [0] [] rfl rfl (by decide) (by decide) hk1 hFc hP1 hD1
          clear hPc hDc hKc hP1 hK1 hD1 hFc hk1 hz1
          generalize H1 = H at hP hS ⊢
          have hP : va_P (dC, dI) vwCl [(h0, .inr (6, [.ref ax6_0, .ref ax6_1, .int xx6_2, .int xx6_3, .int xx6_4, .int xx6_5, .int xx6_6, .long xx6_7, .long xx6_8, .int xx6_9, .int xx6_10, .int xx6_11, .int xx6_12, .int xx6_13]))] H := hP
          have hD : va_D A [(h0, .inr (6, [.ref ax6_0, .ref ax6_1, .int xx6_2, .int xx6_3, .int xx6_4, .int xx6_5, .int xx6_6, .long xx6_7, .long xx6_8, .int xx6_9, .int xx6_10, .int xx6_11, .int xx6_12, .int xx6_13]))] := hD
          rcases hw with rfl | ⟨rfl, g_9, g_10⟩
          · refine lv_if_ne (tgt := 52) hx hb dX6_beginsLiteral_40 (by decide) (fun h => absurd rfl h) (fun _ => ?_)
            refine lv_aload_n hx hb dX6_beginsLiteral_43 rfl (lv_at hl 0 rfl) ?_
            refine lv_bipush (v := 14) hx hb dX6_beginsLiteral_44 (by decide) ?_
            have hPc := hP.sub (ws' := [(h0, .inr (6, [.ref ax6_0, .ref ax6_1, .int xx6_2, .int xx6_3, .int xx6_4, .int xx6_5, .int xx6_6, .long xx6_7, .long xx6_8, .int xx6_9, .int xx6_10, .int xx6_11, .int xx6_12, .int xx6_13]))]) [0] rfl
            have hDc := hD.sub (ws' := [(h0, .inr (6, [.ref ax6_0, .ref ax6_1, .int xx6_2, .int xx6_3, .int xx6_4, .int xx6_5, .int xx6_6, .long xx6_7, .long xx6_8, .int xx6_9, .int xx6_10, .int xx6_11, .int xx6_12, .int xx6_13]))]) [0] (by decide) rfl
            have hKc := hK.sub (tys' := []) [] rfl
            have hFc := va_free (wc := [(h0, .inr (6, [.ref ax6_0, .ref ax6_1, .int xx6_2, .int xx6_3, .int xx6_4, .int xx6_5, .int xx6_6, .long xx6_7, .long xx6_8, .int xx6_9, .int xx6_10, .int xx6_11, .int xx6_12, .int xx6_13]))]) hD hS hA [0] rfl
            refine va_calli (va_runV (As := [.int 14]) (rest := []) ⟨hx, hb, hml, hown, hts⟩ (s_X6_isKeyword l dC dI h0 ax6_0 ax6_1 xx6_2 xx6_3 xx6_4 xx6_5 xx6_6 xx6_7 xx6_8 xx6_9 xx6_10 xx6_11 xx6_12 xx6_13 14 H.size) (cwV 1 hts (gV mw_17_12 mw_7_3 mw_7_4 mw_0_10 mw_50_14) rfl rfl rfl (by decide +kernel) ⟨(Nat.le_of_ble_eq_true rfl), (Nat.le_of_ble_eq_true rfl)⟩) (vV (ci := 6) (q0 := 0) hKc hPc hDc hN rfl rfl) rfl rfl hl.1 rfl (lv_room (Nat.le_of_ble_eq_true rfl)) dX6_beginsLiteral_46 ⟨(Nat.le_of_ble_eq_true rfl), (Nat.le_of_ble_eq_true rfl)⟩) hS (fun q _ h => hFc q h) hFc (fun r_12 u t H1 locs ht hvm hw hB hz1 hk1 hS => ?_)
            obtain ⟨hP1, hK1, hD1⟩ := hB
            rw [ht] at hP1
            have hK1 := va_K.moved hvm.symm hK1
            obtain ⟨hP, hD⟩ := va_join (wr := []) (w1 := [(h0, .inr (6, [.ref ax6_0, .ref ax6_1, .int xx6_2, .int xx6_3, .int xx6_4, .int xx6_5, .int xx6_6, .long xx6_7, .long xx6_8, .int xx6_9, .int xx6_10, .int xx6_11, .int xx6_12, .int xx6_13]))]) hP hD [0] [] rfl rfl (by decide) (by decide) hk1 hFc hP1 hD1
            clear hPc hDc hKc hP1 hK1 hD1 hFc hk1 hz1
            generalize H1 = H at hP hS ⊢
            have hP : va_P (dC, dI) vwCl [(h0, .inr (6, [.ref ax6_0, .ref ax6_1, .int xx6_2, .int xx6_3, .int xx6_4, .int xx6_5, .int xx6_6, .long xx6_7, .long xx6_8, .int xx6_9, .int xx6_10, .int xx6_11, .int xx6_12, .int xx6_13]))] H := hP
            have hD : va_D A [(h0, .inr (6, [.ref ax6_0, .ref ax6_1, .int xx6_2, .int xx6_3, .int xx6_4, .int xx6_5, .int xx6_6, .long xx6_7, .long xx6_8, .int xx6_9, .int xx6_10, .int xx6_11, .int xx6_12, .int xx6_13]))] := hD
            rcases hw with rfl | ⟨rfl, g_13, g_14⟩
            · refine lv_if_eq (tgt := 56) hx hb dX6_beginsLiteral_49 (by decide) (fun _ => ?_) (fun h => absurd (by decide) h)
              refine lv_iconst (v := 0) hx hb dX6_beginsLiteral_56 (by decide) ?_
              have hP9 := hP.sub (ws' := [(h0, .inr (6, [.ref ax6_0, .ref ax6_1, .int xx6_2, .int xx6_3, .int xx6_4, .int xx6_5, .int xx6_6, .long xx6_7, .long xx6_8, .int xx6_9, .int xx6_10, .int xx6_11, .int xx6_12, .int xx6_13]))]) [0] rfl
              have hD9 := hD.sub (ws' := [(h0, .inr (6, [.ref ax6_0, .ref ax6_1, .int xx6_2, .int xx6_3, .int xx6_4, .int xx6_5, .int xx6_6, .long xx6_7, .long xx6_8, .int xx6_9, .int xx6_10, .int xx6_11, .int xx6_12, .int xx6_13]))]) [0] (by decide) rfl
              have hK9 := hK.sub (tys' := []) [] rfl
              refine W.widen (k := 0) (n := 0) (Nat.le_of_ble_eq_true rfl) (Nat.le_of_ble_eq_true rfl) ?_
              exact W.zret (v := 0) hx hb hr rfl (fun t ht hW => ⟨⟨0, (), rfl, Or.inl (⟨rfl, c_1, c_2, c_3⟩), by rw [ht]; exact hP9, va_K.moved hW.alike hK9, hD9⟩, hS.F ht⟩) hS.2.2 dX6_beginsLiteral_57
            · refine lv_if_eq (tgt := 56) hx hb dX6_beginsLiteral_49 (by decide) (fun h => absurd h (by decide)) (fun _ => ?_)
              refine lv_iconst (v := 1) hx hb dX6_beginsLiteral_52 (by decide) ?_
              refine lv_goto (tgt := 57) hx hb dX6_beginsLiteral_53 (by decide) ?_
              have hP9 := hP.sub (ws' := [(h0, .inr (6, [.ref ax6_0, .ref ax6_1, .int xx6_2, .int xx6_3, .int xx6_4, .int xx6_5, .int xx6_6, .long xx6_7, .long xx6_8, .int xx6_9, .int xx6_10, .int xx6_11, .int xx6_12, .int xx6_13]))]) [0] rfl
              have hD9 := hD.sub (ws' := [(h0, .inr (6, [.ref ax6_0, .ref ax6_1, .int xx6_2, .int xx6_3, .int xx6_4, .int xx6_5, .int xx6_6, .long xx6_7, .long xx6_8, .int xx6_9, .int xx6_10, .int xx6_11, .int xx6_12, .int xx6_13]))]) [0] (by decide) rfl
              have hK9 := hK.sub (tys' := []) [] rfl
              refine W.widen (k := 0) (n := 0) (Nat.le_of_ble_eq_true rfl) (Nat.le_of_ble_eq_true rfl) ?_
              exact W.zret (v := 1) hx hb hr rfl (fun t ht hW => ⟨⟨1, (), rfl, Or.inr (rfl), by rw [ht]; exact hP9, va_K.moved hW.alike hK9, hD9⟩, hS.F ht⟩) hS.2.2 dX6_beginsLiteral_57
          · refine lv_if_ne (tgt := 52) hx hb dX6_beginsLiteral_40 (by decide) (fun _ => ?_) (fun h => absurd h (by decide))
            refine lv_iconst (v := 1) hx hb dX6_beginsLiteral_52 (by decide) ?_
            refine lv_goto (tgt := 57) hx hb dX6_beginsLiteral_53 (by decide) ?_
            have hP9 := hP.sub (ws' := [(h0, .inr (6, [.ref ax6_0, .ref ax6_1, .int xx6_2, .int xx6_3, .int xx6_4, .int xx6_5, .int xx6_6, .long xx6_7, .long xx6_8, .int xx6_9, .int xx6_10, .int xx6_11, .int xx6_12, .int xx6_13]))]) [0] rfl
            have hD9 := hD.sub (ws' := [(h0, .inr (6, [.ref ax6_0, .ref ax6_1, .int xx6_2, .int xx6_3, .int xx6_4, .int xx6_5, .int xx6_6, .long xx6_7, .long xx6_8, .int xx6_9, .int xx6_10, .int xx6_11, .int xx6_12, .int xx6_13]))]) [0] (by decide) rfl
            have hK9 := hK.sub (tys' := []) [] rfl
            refine W.widen (k := 0) (n := 0) (Nat.le_of_ble_eq_true rfl) (Nat.le_of_ble_eq_true rfl) ?_
            exact W.zret (v := 1) hx hb hr rfl (fun t ht hW => ⟨⟨1, (), rfl, Or.inr (rfl), by rw [ht]; exact hP9, va_K.moved hW.alike hK9, hD9⟩, hS.F ht⟩) hS.2.2 dX6_beginsLiteral_57
        · refine lv_if_ne (tgt := 52) hx hb dX6_beginsLiteral_31 (by decide) (fun _ => ?_) (fun h => absurd h (by decide))
          refine lv_iconst (v := 1) hx hb dX6_beginsLiteral_52 (by decide) ?_
          refine lv_goto (tgt := 57) hx hb dX6_beginsLiteral_53 (by decide) ?_
          have hP9 := hP.sub (ws' := [(h0, .inr (6, [.ref ax6_0, .ref ax6_1, .int xx6_2, .int xx6_3, .int xx6_4, .int xx6_5, .int xx6_6, .long xx6_7, .long xx6_8, .int xx6_9, .int xx6_10, .int xx6_11, .int xx6_12, .int xx6_13]))]) [0] rfl
          have hD9 := hD.sub (ws' := [(h0, .inr (6, [.ref ax6_0, .ref ax6_1, .int xx6_2, .int xx6_3, .int xx6_4, .int xx6_5, .int xx6_6, .long xx6_7, .long xx6_8, .int xx6_9, .int xx6_10, .int xx6_11, .int xx6_12, .int xx6_13]))]) [0] (by decide) rfl
          have hK9 := hK.sub (tys' := []) [] rfl
          refine W.widen (k := 0) (n := 0) (Nat.le_of_ble_eq_true rfl) (Nat.le_of_ble_eq_true rfl) ?_
          exact W.zret (v := 1) hx hb hr rfl (fun t ht hW => ⟨⟨1, (), rfl, Or.inr (rfl), by rw [ht]; exact hP9, va_K.moved hW.alike hK9, hD9⟩, hS.F ht⟩) hS.2.2 dX6_beginsLiteral_57

set_option maxRecDepth 100000 in
set_option maxHeartbeats 4000000 in
theorem s_X6_sortBegun (l : Launch) (dC : Nat → ClassId) (dI : Nat → Nat → Nat) (h0 : Nat) (ax6_0 : Nat) (ax6_1 : Nat) (xx6_2 : Int32) (xx6_3 : Int32) (xx6_4 : Int32) (xx6_5 : Int32) (xx6_6 : Int32) (xx6_7 : Int64) (xx6_8 : Int64) (xx6_9 : Int32) (xx6_10 : Int32) (xx6_11 : Int32) (xx6_12 : Int32) (xx6_13 : Int32) (sz : Nat) : Met l yX6_sortBegun (.code yX6_sortBegun cX6_sortBegun 1 (some .int) :: pw) ({ frames := 0, cells := 0, slots := 0, locals := 0 }) (va_Pc [.ref h0] (vPre dC dI [(h0, .inr (6, [.ref ax6_0, .ref ax6_1, .int xx6_2, .int xx6_3, .int xx6_4, .int xx6_5, .int xx6_6, .long xx6_7, .long xx6_8, .int xx6_9, .int xx6_10, .int xx6_11, .int xx6_12, .int xx6_13]))] [] sz)) (va_Qi (fun (r : Int32) (_ : Unit) => (r = (xx6_6 - 7) ∧ ¬ xx6_4 = 3 ∧ xx6_4 = 2 ∧ ¬ xx6_6 = 4 ∧ ¬ xx6_6 = 5 ∧ ¬ xx6_6 < 7 ∧ ¬ 12 < xx6_6) ∨ (r = (-1)) ∨ (r = 6 ∧ ¬ xx6_4 = 3 ∧ xx6_4 = 2 ∧ xx6_6 = 4) ∨ (r = 7 ∧ xx6_4 = 3) ∨ (r = 8 ∧ ¬ xx6_4 = 3 ∧ xx6_4 = 2 ∧ ¬ xx6_6 = 4 ∧ xx6_6 = 5)) (fun (_ : Unit) t => vPst dC dI (va_A [(h0, .inr (6, [.ref ax6_0, .ref ax6_1, .int xx6_2, .int xx6_3, .int xx6_4, .int xx6_5, .int xx6_6, .long xx6_7, .long xx6_8, .int xx6_9, .int xx6_10, .int xx6_11, .int xx6_12, .int xx6_13]))] sz) [(h0, .inr (6, [.ref ax6_0, .ref ax6_1, .int xx6_2, .int xx6_3, .int xx6_4, .int xx6_5, .int xx6_6, .long xx6_7, .long xx6_8, .int xx6_9, .int xx6_10, .int xx6_11, .int xx6_12, .int xx6_13]))] [] t) (va_A [(h0, .inr (6, [.ref ax6_0, .ref ax6_1, .int xx6_2, .int xx6_3, .int xx6_4, .int xx6_5, .int xx6_6, .long xx6_7, .long xx6_8, .int xx6_9, .int xx6_10, .int xx6_11, .int xx6_12, .int xx6_13]))] sz)) 0 0 (va_A [(h0, .inr (6, [.ref ax6_0, .ref ax6_1, .int xx6_2, .int xx6_3, .int xx6_4, .int xx6_5, .int xx6_6, .long xx6_7, .long xx6_8, .int xx6_9, .int xx6_10, .int xx6_11, .int xx6_12, .int xx6_13]))] sz) := by
  refine Met.ofW (cc := cX6_sortBegun) (maxL := 1) (ret := (some .int)) (by decide) rfl ?_
  intro p e s m args below meth c s₁ B hml hv
  obtain ⟨rfl, hsz, hP, hK, hD0, hN⟩ := hv
  have hx := B.exec
  have hb := B.bytes
  have hr := B.returns
  have hts := atoms_spec (ws := .code yX6_sortBegun cX6_sortBegun 1 (some .int) :: pw) B.pre
  have hts : ∀ w ∈ pw, w.before _ s = true := fun w h => hts w (List.mem_cons_of_mem _ h)
  have hown : s.vm.findClass RX6 = some m.cls := findClass_of_methodNamed B.named
  have hlocks := B.notSynchronized
  subst hsz
  have hD := hD0.self (sz := s.heap.size)
  generalize hAe : va_A [(h0, .inr (6, [.ref ax6_0, .ref ax6_1, .int xx6_2, .int xx6_3, .int xx6_4, .int xx6_5, .int xx6_6, .long xx6_7, .long xx6_8, .int xx6_9, .int xx6_10, .int xx6_11, .int xx6_12, .int xx6_13]))] s.heap.size = A at hD ⊢
  have hA : ∀ q : Nat, s.heap.size ≤ q → A q := fun q h => by rw [← hAe]; exact Or.inr h
  have hS : va_S A s.heap s.heap [] := va_S.rf
  have hP : va_P (dC, dI) vwCl [(h0, .inr (6, [.ref ax6_0, .ref ax6_1, .int xx6_2, .int xx6_3, .int xx6_4, .int xx6_5, .int xx6_6, .long xx6_7, .long xx6_8, .int xx6_9, .int xx6_10, .int xx6_11, .int xx6_12, .int xx6_13]))] s.heap := hP
  have hl := lv_entry ([.ref h0]) (n := 1) (Nat.le_of_ble_eq_true rfl)
  rw [lg_entry_eq]
  generalize (lg_sl ([.ref h0]) ++ List.replicate (1 - (lg_sl ([.ref h0])).length) Slot.unset).toArray = ls at hl ⊢
  have hl : lv_has ls 1 [(0, .ref h0)] := hl
  refine lv_aload_n hx hb dX6_sortBegun_0 rfl (lv_at hl 0 rfl) ?_
  refine va_get (D := (dC, dI)) (ci := 6) (v := .int xx6_4) (C := RX6) (T := TX6) (N := 14) hx hb hts inlX6 hown hK hP 0 rfl rfl 4 (by decide) (hts (.fieldLink RX6 22 "ShapeReader$Tokens" "kind" "I") mw_16_2) (fun _ h9 => h9) rfl dX6_sortBegun_1 ?_
  refine lv_iconst (v := 3) hx hb dX6_sortBegun_4 (by decide) ?_
  refine lv_icmp_ne (tgt := 11) hx hb dX6_sortBegun_5 (by decide) (fun c_1 => ?_) (fun c_1 => ?_)
  · refine lv_aload_n hx hb dX6_sortBegun_11 rfl (lv_at hl 0 rfl) ?_
    refine va_get (D := (dC, dI)) (ci := 6) (v := .int xx6_4) (C := RX6) (T := TX6) (N := 14) hx hb hts inlX6 hown hK hP 0 rfl rfl 4 (by decide) (hts (.fieldLink RX6 22 "ShapeReader$Tokens" "kind" "I") mw_16_2) (fun _ h9 => h9) rfl dX6_sortBegun_12 ?_
    refine lv_iconst (v := 2) hx hb dX6_sortBegun_15 (by decide) ?_
    refine lv_icmp_eq (tgt := 21) hx hb dX6_sortBegun_16 (by decide) (fun c_2 => ?_) (fun c_2 => ?_)
    · refine lv_aload_n hx hb dX6_sortBegun_21 rfl (lv_at hl 0 rfl) ?_
      refine va_get (D := (dC, dI)) (ci := 6) (v := .int xx6_6) (C := RX6) (T := TX6) (N := 14) hx hb hts inlX6 hown hK hP 0 rfl rfl 6 (by decide) (hts (.fieldLink RX6 28 "ShapeReader$Tokens" "keyword" "I") mw_16_4) (fun _ h9 => h9) rfl dX6_sortBegun_22 ?_
      refine lv_iconst (v := 4) hx hb dX6_sortBegun_25 (by decide) ?_
      refine lv_icmp_ne (tgt := 32) hx hb dX6_sortBegun_26 (by decide) (fun c_3 => ?_) (fun c_3 => ?_)
      · refine lv_aload_n hx hb dX6_sortBegun_32 rfl (lv_at hl 0 rfl) ?_
        refine va_get (D := (dC, dI)) (ci := 6) (v := .int xx6_6) (C := RX6) (T := TX6) (N := 14) hx hb hts inlX6 hown hK hP 0 rfl rfl 6 (by decide) (hts (.fieldLink RX6 28 "ShapeReader$Tokens" "keyword" "I") mw_16_4) (fun _ h9 => h9) rfl dX6_sortBegun_33 ?_
        refine lv_iconst (v := 5) hx hb dX6_sortBegun_36 (by decide) ?_
        refine lv_icmp_ne (tgt := 43) hx hb dX6_sortBegun_37 (by decide) (fun c_4 => ?_) (fun c_4 => ?_)
        · refine lv_aload_n hx hb dX6_sortBegun_43 rfl (lv_at hl 0 rfl) ?_
          refine va_get (D := (dC, dI)) (ci := 6) (v := .int xx6_6) (C := RX6) (T := TX6) (N := 14) hx hb hts inlX6 hown hK hP 0 rfl rfl 6 (by decide) (hts (.fieldLink RX6 28 "ShapeReader$Tokens" "keyword" "I") mw_16_4) (fun _ h9 => h9) rfl dX6_sortBegun_44 ?_
          refine lv_bipush (v := 7) hx hb dX6_sortBegun_47 (by decide) ?_
          refine lv_icmp_lt (tgt := 71) hx hb dX6_sortBegun_49 (by decide) (fun c_5 => ?_) (fun c_5 => ?_)
          · refine lv_iconst (v := (-1)) hx hb dX6_sortBegun_71 (by decide) ?_
            have hP9 := hP.sub (ws' := [(h0, .inr (6, [.ref ax6_0, .ref ax6_1, .int xx6_2, .int xx6_3, .int xx6_4, .int xx6_5, .int xx6_6, .long xx6_7, .long xx6_8, .int xx6_9, .int xx6_10, .int xx6_11, .int xx6_12, .int xx6_13]))]) [0] rfl
            have hD9 := hD.sub (ws' := [(h0, .inr (6, [.ref ax6_0, .ref ax6_1, .int xx6_2, .int xx6_3, .int xx6_4, .int xx6_5, .int xx6_6, .long xx6_7, .long xx6_8, .int xx6_9, .int xx6_10, .int xx6_11, .int xx6_12, .int xx6_13]))]) [0] (by decide) rfl
            have hK9 := hK.sub (tys' := []) [] rfl
            refine W.widen (k := 0) (n := 0) (Nat.le_of_ble_eq_true rfl) (Nat.le_of_ble_eq_true rfl) ?_
            exact W.iret (v := (-1)) hx hb hr (fun t ht hW => ⟨⟨(-1), (), rfl, Or.inr (Or.inl (rfl)), by rw [ht]; exact hP9, va_K.moved hW.alike hK9, hD9⟩, hS.F ht⟩) hS.2.2 dX6_sortBegun_72
          · refine lv_aload_n hx hb dX6_sortBegun_52 rfl (lv_at hl 0 rfl) ?_
            refine va_get (D := (dC, dI)) (ci := 6) (v := .int xx6_6) (C := RX6) (T := TX6) (N := 14) hx hb hts inlX6 hown hK hP 0 rfl rfl 6 (by decide) (hts (.fieldLink RX6 28 "ShapeReader$Tokens" "keyword" "I") mw_16_4) (fun _ h9 => h9) rfl dX6_sortBegun_53 ?_
            refine lv_bipush (v := 12) hx hb dX6_sortBegun_56 (by decide) ?_
            refine lv_icmp_gt (tgt := 71) hx hb dX6_sortBegun_58 (by decide) (fun c_6 => ?_) (fun c_6 => ?_)
            · refine lv_iconst (v := (-1)) hx hb dX6_sortBegun_71 (by decide) ?_
              have hP9 := hP.sub (ws' := [(h0, .inr (6, [.ref ax6_0, .ref ax6_1, .int xx6_2, .int xx6_3, .int xx6_4, .int xx6_5, .int xx6_6, .long xx6_7, .long xx6_8, .int xx6_9, .int xx6_10, .int xx6_11, .int xx6_12, .int xx6_13]))]) [0] rfl
              have hD9 := hD.sub (ws' := [(h0, .inr (6, [.ref ax6_0, .ref ax6_1, .int xx6_2, .int xx6_3, .int xx6_4, .int xx6_5, .int xx6_6, .long xx6_7, .long xx6_8, .int xx6_9, .int xx6_10, .int xx6_11, .int xx6_12, .int xx6_13]))]) [0] (by decide) rfl
              have hK9 := hK.sub (tys' := []) [] rfl
              refine W.widen (k := 0) (n := 0) (Nat.le_of_ble_eq_true rfl) (Nat.le_of_ble_eq_true rfl) ?_
              exact W.iret (v := (-1)) hx hb hr (fun t ht hW => ⟨⟨(-1), (), rfl, Or.inr (Or.inl (rfl)), by rw [ht]; exact hP9, va_K.moved hW.alike hK9, hD9⟩, hS.F ht⟩) hS.2.2 dX6_sortBegun_72
            · refine lv_aload_n hx hb dX6_sortBegun_61 rfl (lv_at hl 0 rfl) ?_
              refine va_get (D := (dC, dI)) (ci := 6) (v := .int xx6_6) (C := RX6) (T := TX6) (N := 14) hx hb hts inlX6 hown hK hP 0 rfl rfl 6 (by decide) (hts (.fieldLink RX6 28 "ShapeReader$Tokens" "keyword" "I") mw_16_4) (fun _ h9 => h9) rfl dX6_sortBegun_62 ?_
              refine lv_bipush (v := 7) hx hb dX6_sortBegun_65 (by decide) ?_
              refine lv_isub hx hb dX6_sortBegun_67 ?_
              refine lv_topi (fun x_7 ex_7 => ?_)
              have bx_7 : (0 : Int) ≤ x_7.toInt ∧ x_7.toInt ≤ (5 : Int) := by have r0 := il_rng xx6_6; have a0 := il_nlt c_5; have a1 := il_nlt c_6; have e0 : (7 : Int32).toInt = 7 := (by decide); have e1 : (12 : Int32).toInt = 12 := (by decide); rw [ex_7, il_subE (by omega) (by omega)]; omega
              refine lv_goto (tgt := 72) hx hb dX6_sortBegun_68 (by decide) ?_
              have hP9 := hP.sub (ws' := [(h0, .inr (6, [.ref ax6_0, .ref ax6_1, .int xx6_2, .int xx6_3, .int xx6_4, .int xx6_5, .int xx6_6, .long xx6_7, .long xx6_8, .int xx6_9, .int xx6_10, .int xx6_11, .int xx6_12, .int xx6_13]))]) [0] rfl
              have hD9 := hD.sub (ws' := [(h0, .inr (6, [.ref ax6_0, .ref ax6_1, .int xx6_2, .int xx6_3, .int xx6_4, .int xx6_5, .int xx6_6, .long xx6_7, .long xx6_8, .int xx6_9, .int xx6_10, .int xx6_11, .int xx6_12, .int xx6_13]))]) [0] (by decide) rfl
              have hK9 := hK.sub (tys' := []) [] rfl
              refine W.widen (k := 0) (n := 0) (Nat.le_of_ble_eq_true rfl) (Nat.le_of_ble_eq_true rfl) ?_
              exact W.iret (v := x_7) hx hb hr (fun t ht hW => ⟨⟨x_7, (), rfl, Or.inl (⟨(by rw [ex_7]), c_1, c_2, c_3, c_4, c_5, c_6⟩), by rw [ht]; exact hP9, va_K.moved hW.alike hK9, hD9⟩, hS.F ht⟩) hS.2.2 dX6_sortBegun_72
        · refine lv_bipush (v := 8) hx hb dX6_sortBegun_40 (by decide) ?_
          have hP9 := hP.sub (ws' := [(h0, .inr (6, [.ref ax6_0, .ref ax6_1, .int xx6_2, .int xx6_3, .int xx6_4, .int xx6_5, .int xx6_6, .long xx6_7, .long xx6_8, .int xx6_9, .int xx6_10, .int xx6_11, .int xx6_12, .int xx6_13]))]) [0] rfl
          have hD9 := hD.sub (ws' := [(h0, .inr (6, [.ref ax6_0, .ref ax6_1, .int xx6_2, .int xx6_3, .int xx6_4, .int xx6_5, .int xx6_6, .long xx6_7, .long xx6_8, .int xx6_9, .int xx6_10, .int xx6_11, .int xx6_12, .int xx6_13]))]) [0] (by decide) rfl
          have hK9 := hK.sub (tys' := []) [] rfl
          refine W.widen (k := 0) (n := 0) (Nat.le_of_ble_eq_true rfl) (Nat.le_of_ble_eq_true rfl) ?_
          exact W.iret (v := 8) hx hb hr (fun t ht hW => ⟨⟨8, (), rfl, Or.inr (Or.inr (Or.inr (Or.inr (⟨rfl, c_1, c_2, c_3, c_4⟩)))), by rw [ht]; exact hP9, va_K.moved hW.alike hK9, hD9⟩, hS.F ht⟩) hS.2.2 dX6_sortBegun_42
      · refine lv_bipush (v := 6) hx hb dX6_sortBegun_29 (by decide) ?_
        have hP9 := hP.sub (ws' := [(h0, .inr (6, [.ref ax6_0, .ref ax6_1, .int xx6_2, .int xx6_3, .int xx6_4, .int xx6_5, .int xx6_6, .long xx6_7, .long xx6_8, .int xx6_9, .int xx6_10, .int xx6_11, .int xx6_12, .int xx6_13]))]) [0] rfl
        have hD9 := hD.sub (ws' := [(h0, .inr (6, [.ref ax6_0, .ref ax6_1, .int xx6_2, .int xx6_3, .int xx6_4, .int xx6_5, .int xx6_6, .long xx6_7, .long xx6_8, .int xx6_9, .int xx6_10, .int xx6_11, .int xx6_12, .int xx6_13]))]) [0] (by decide) rfl
        have hK9 := hK.sub (tys' := []) [] rfl
        refine W.widen (k := 0) (n := 0) (Nat.le_of_ble_eq_true rfl) (Nat.le_of_ble_eq_true rfl) ?_
        exact W.iret (v := 6) hx hb hr (fun t ht hW => ⟨⟨6, (), rfl, Or.inr (Or.inr (Or.inl (⟨rfl, c_1, c_2, c_3⟩))), by rw [ht]; exact hP9, va_K.moved hW.alike hK9, hD9⟩, hS.F ht⟩) hS.2.2 dX6_sortBegun_31
    · refine lv_iconst (v := (-1)) hx hb dX6_sortBegun_19 (by decide) ?_
      have hP9 := hP.sub (ws' := [(h0, .inr (6, [.ref ax6_0, .ref ax6_1, .int xx6_2, .int xx6_3, .int xx6_4, .int xx6_5, .int xx6_6, .long xx6_7, .long xx6_8, .int xx6_9, .int xx6_10, .int xx6_11, .int xx6_12, .int xx6_13]))]) [0] rfl
      have hD9 := hD.sub (ws' := [(h0, .inr (6, [.ref ax6_0, .ref ax6_1, .int xx6_2, .int xx6_3, .int xx6_4, .int xx6_5, .int xx6_6, .long xx6_7, .long xx6_8, .int xx6_9, .int xx6_10, .int xx6_11, .int xx6_12, .int xx6_13]))]) [0] (by decide) rfl
      have hK9 := hK.sub (tys' := []) [] rfl
      refine W.widen (k := 0) (n := 0) (Nat.le_of_ble_eq_true rfl) (Nat.le_of_ble_eq_true rfl) ?_
      exact W.iret (v := (-1)) hx hb hr (fun t ht hW => ⟨⟨(-1), (), rfl, Or.inr (Or.inl (rfl)), by rw [ht]; exact hP9, va_K.moved hW.alike hK9, hD9⟩, hS.F ht⟩) hS.2.2 dX6_sortBegun_20
  · refine lv_bipush (v := 7) hx hb dX6_sortBegun_8 (by decide) ?_
    have hP9 := hP.sub (ws' := [(h0, .inr (6, [.ref ax6_0, .ref ax6_1, .int xx6_2, .int xx6_3, .int xx6_4, .int xx6_5, .int xx6_6, .long xx6_7, .long xx6_8, .int xx6_9, .int xx6_10, .int xx6_11, .int xx6_12, .int xx6_13]))]) [0] rfl
    have hD9 := hD.sub (ws' := [(h0, .inr (6, [.ref ax6_0, .ref ax6_1, .int xx6_2, .int xx6_3, .int xx6_4, .int xx6_5, .int xx6_6, .long xx6_7, .long xx6_8, .int xx6_9, .int xx6_10, .int xx6_11, .int xx6_12, .int xx6_13]))]) [0] (by decide) rfl
    have hK9 := hK.sub (tys' := []) [] rfl
    refine W.widen (k := 0) (n := 0) (Nat.le_of_ble_eq_true rfl) (Nat.le_of_ble_eq_true rfl) ?_
    exact W.iret (v := 7) hx hb hr (fun t ht hW => ⟨⟨7, (), rfl, Or.inr (Or.inr (Or.inr (Or.inl (⟨rfl, c_1⟩)))), by rw [ht]; exact hP9, va_K.moved hW.alike hK9, hD9⟩, hS.F ht⟩) hS.2.2 dX6_sortBegun_10

set_option maxRecDepth 100000 in
set_option maxHeartbeats 4000000 in
theorem s_X6_whole (l : Launch) (dC : Nat → ClassId) (dI : Nat → Nat → Nat) (h0 : Nat) (ax6_0 : Nat) (ax6_1 : Nat) (xx6_2 : Int32) (xx6_3 : Int32) (xx6_4 : Int32) (xx6_5 : Int32) (xx6_6 : Int32) (xx6_7 : Int64) (xx6_8 : Int64) (xx6_9 : Int32) (xx6_10 : Int32) (xx6_11 : Int32) (xx6_12 : Int32) (xx6_13 : Int32) (sz : Nat) : Met l yX6_whole (.code yX6_whole cX6_whole 1 (some .long) :: pw) ({ frames := 0, cells := 0, slots := 0, locals := 0 }) (va_Pc [.ref h0] (vPre dC dI [(h0, .inr (6, [.ref ax6_0, .ref ax6_1, .int xx6_2, .int xx6_3, .int xx6_4, .int xx6_5, .int xx6_6, .long xx6_7, .long xx6_8, .int xx6_9, .int xx6_10, .int xx6_11, .int xx6_12, .int xx6_13]))] [] sz)) (va_Ql (fun (r : Int64) (_ : Unit) => True) (fun (_ : Unit) t => vPst dC dI (va_A [(h0, .inr (6, [.ref ax6_0, .ref ax6_1, .int xx6_2, .int xx6_3, .int xx6_4, .int xx6_5, .int xx6_6, .long xx6_7, .long xx6_8, .int xx6_9, .int xx6_10, .int xx6_11, .int xx6_12, .int xx6_13]))] sz) [(h0, .inr (6, [.ref ax6_0, .ref ax6_1, .int xx6_2, .int xx6_3, .int xx6_4, .int xx6_5, .int xx6_6, .long xx6_7, .long xx6_8, .int xx6_9, .int xx6_10, .int xx6_11, .int xx6_12, .int xx6_13]))] [] t) (va_A [(h0, .inr (6, [.ref ax6_0, .ref ax6_1, .int xx6_2, .int xx6_3, .int xx6_4, .int xx6_5, .int xx6_6, .long xx6_7, .long xx6_8, .int xx6_9, .int xx6_10, .int xx6_11, .int xx6_12, .int xx6_13]))] sz)) 0 0 (va_A [(h0, .inr (6, [.ref ax6_0, .ref ax6_1, .int xx6_2, .int xx6_3, .int xx6_4, .int xx6_5, .int xx6_6, .long xx6_7, .long xx6_8, .int xx6_9, .int xx6_10, .int xx6_11, .int xx6_12, .int xx6_13]))] sz) := by
  refine Met.ofW (cc := cX6_whole) (maxL := 1) (ret := (some .long)) (by decide) rfl ?_
  intro p e s m args below meth c s₁ B hml hv
  obtain ⟨rfl, hsz, hP, hK, hD0, hN⟩ := hv
  have hx := B.exec
  have hb := B.bytes
  have hr := B.returns
  have hts := atoms_spec (ws := .code yX6_whole cX6_whole 1 (some .long) :: pw) B.pre
  have hts : ∀ w ∈ pw, w.before _ s = true := fun w h => hts w (List.mem_cons_of_mem _ h)
  have hown : s.vm.findClass RX6 = some m.cls := findClass_of_methodNamed B.named
  have hlocks := B.notSynchronized
  subst hsz
  have hD := hD0.self (sz := s.heap.size)
  generalize hAe : va_A [(h0, .inr (6, [.ref ax6_0, .ref ax6_1, .int xx6_2, .int xx6_3, .int xx6_4, .int xx6_5, .int xx6_6, .long xx6_7, .long xx6_8, .int xx6_9, .int xx6_10, .int xx6_11, .int xx6_12, .int xx6_13]))] s.heap.size = A at hD ⊢
  have hA : ∀ q : Nat, s.heap.size ≤ q → A q := fun q h => by rw [← hAe]; exact Or.inr h
  have hS : va_S A s.heap s.heap [] := va_S.rf
  have hP : va_P (dC, dI) vwCl [(h0, .inr (6, [.ref ax6_0, .ref ax6_1, .int xx6_2, .int xx6_3, .int xx6_4, .int xx6_5, .int xx6_6, .long xx6_7, .long xx6_8, .int xx6_9, .int xx6_10, .int xx6_11, .int xx6_12, .int xx6_13]))] s.heap := hP
  have hl := lv_entry ([.ref h0]) (n := 1) (Nat.le_of_ble_eq_true rfl)
  rw [lg_entry_eq]
  generalize (lg_sl ([.ref h0]) ++ List.replicate (1 - (lg_sl ([.ref h0])).length) Slot.unset).toArray = ls at hl ⊢
  have hl : lv_has ls 1 [(0, .ref h0)] := hl
  refine lv_aload_n hx hb dX6_whole_0 rfl (lv_at hl 0 rfl) ?_
  refine va_get (D := (dC, dI)) (ci := 6) (v := .int xx6_9) (C := RX6) (T := TX6) (N := 14) hx hb hts inlX6 hown hK hP 0 rfl rfl 9 (by decide) (hts (.fieldLink RX6 38 "ShapeReader$Tokens" "minus" "Z") mw_16_7) (fun _ h9 => h9) rfl dX6_whole_1 ?_
  refine lv_if_eq (tgt := 15) hx hb dX6_whole_4 (by decide) (fun c_1 => ?_) (fun c_1 => ?_)
  · refine lv_aload_n hx hb dX6_whole_15 rfl (lv_at hl 0 rfl) ?_
    refine va_get (D := (dC, dI)) (ci := 6) (v := .long xx6_8) (C := RX6) (T := TX6) (N := 14) hx hb hts inlX6 hown hK hP 0 rfl rfl 8 (by decide) (hts (.fieldLink RX6 35 "ShapeReader$Tokens" "digits" "J") mw_16_6) (fun _ h9 => h9) rfl dX6_whole_16 ?_
    have hP9 := hP.sub (ws' := [(h0, .inr (6, [.ref ax6_0, .ref ax6_1, .int xx6_2, .int xx6_3, .int xx6_4, .int xx6_5, .int xx6_6, .long xx6_7, .long xx6_8, .int xx6_9, .int xx6_10, .int xx6_11, .int xx6_12, .int xx6_13]))]) [0] rfl
    have hD9 := hD.sub (ws' := [(h0, .inr (6, [.ref ax6_0, .ref ax6_1, .int xx6_2, .int xx6_3, .int xx6_4, .int xx6_5, .int xx6_6, .long xx6_7, .long xx6_8, .int xx6_9, .int xx6_10, .int xx6_11, .int xx6_12, .int xx6_13]))]) [0] (by decide) rfl
    have hK9 := hK.sub (tys' := []) [] rfl
    refine W.widen (k := 0) (n := 0) (Nat.le_of_ble_eq_true rfl) (Nat.le_of_ble_eq_true rfl) ?_
    exact W.lret (v := xx6_8) hx hb hr (fun t ht hW => ⟨⟨xx6_8, (), rfl, trivial, by rw [ht]; exact hP9, va_K.moved hW.alike hK9, hD9⟩, hS.F ht⟩) hS.2.2 dX6_whole_19
  · refine lv_aload_n hx hb dX6_whole_7 rfl (lv_at hl 0 rfl) ?_
    refine va_get (D := (dC, dI)) (ci := 6) (v := .long xx6_8) (C := RX6) (T := TX6) (N := 14) hx hb hts inlX6 hown hK hP 0 rfl rfl 8 (by decide) (hts (.fieldLink RX6 35 "ShapeReader$Tokens" "digits" "J") mw_16_6) (fun _ h9 => h9) rfl dX6_whole_8 ?_
    refine lv_lneg hx hb dX6_whole_11 ?_
    refine lv_topl (fun x_2 ex_2 => ?_)
    refine lv_goto (tgt := 19) hx hb dX6_whole_12 (by decide) ?_
    have hP9 := hP.sub (ws' := [(h0, .inr (6, [.ref ax6_0, .ref ax6_1, .int xx6_2, .int xx6_3, .int xx6_4, .int xx6_5, .int xx6_6, .long xx6_7, .long xx6_8, .int xx6_9, .int xx6_10, .int xx6_11, .int xx6_12, .int xx6_13]))]) [0] rfl
    have hD9 := hD.sub (ws' := [(h0, .inr (6, [.ref ax6_0, .ref ax6_1, .int xx6_2, .int xx6_3, .int xx6_4, .int xx6_5, .int xx6_6, .long xx6_7, .long xx6_8, .int xx6_9, .int xx6_10, .int xx6_11, .int xx6_12, .int xx6_13]))]) [0] (by decide) rfl
    have hK9 := hK.sub (tys' := []) [] rfl
    refine W.widen (k := 0) (n := 0) (Nat.le_of_ble_eq_true rfl) (Nat.le_of_ble_eq_true rfl) ?_
    exact W.lret (v := x_2) hx hb hr (fun t ht hW => ⟨⟨x_2, (), rfl, trivial, by rw [ht]; exact hP9, va_K.moved hW.alike hK9, hD9⟩, hS.F ht⟩) hS.2.2 dX6_whole_19

set_option maxRecDepth 100000 in
set_option maxHeartbeats 4000000 in
theorem s_X7_clear (l : Launch) (dC : Nat → ClassId) (dI : Nat → Nat → Nat) (h0 : Nat) (nx7 : Nat) (xx7_1 : Int32) (ax7_2 : Nat) (ax7_3 : Nat) (ax7_4 : Nat) (ax7_5 : Nat) (ax7_6 : Nat) (ax7_7 : Nat) (ax7_8 : Nat) (ax7_9 : Nat) (ax7_10 : Nat) (ax7_11 : Nat) (ax7_12 : Nat) (hn_nx7 : nx7 < 2 ^ 31) (sz : Nat) : Met l yX7_clear (.code yX7_clear cX7_clear 1 none :: pw) ({ frames := 0, cells := 0, slots := 0, locals := 0 }) (va_Pc [.ref h0] (vPre dC dI [(h0, .inr (7, [.int (nI nx7), .int xx7_1, .ref ax7_2, .ref ax7_3, .ref ax7_4, .ref ax7_5, .ref ax7_6, .ref ax7_7, .ref ax7_8, .ref ax7_9, .ref ax7_10, .ref ax7_11, .ref ax7_12]))] [] sz)) (va_Qv (fun (_ : Unit) => True) (fun (_ : Unit) t => vPst dC dI (va_A [(h0, .inr (7, [.int (nI nx7), .int xx7_1, .ref ax7_2, .ref ax7_3, .ref ax7_4, .ref ax7_5, .ref ax7_6, .ref ax7_7, .ref ax7_8, .ref ax7_9, .ref ax7_10, .ref ax7_11, .ref ax7_12]))] sz) [(h0, .inr (7, [.int (nI nx7), .int 0, .ref ax7_2, .ref ax7_3, .ref ax7_4, .ref ax7_5, .ref ax7_6, .ref ax7_7, .ref ax7_8, .ref ax7_9, .ref ax7_10, .ref ax7_11, .ref ax7_12]))] [] t) (va_A [(h0, .inr (7, [.int (nI nx7), .int xx7_1, .ref ax7_2, .ref ax7_3, .ref ax7_4, .ref ax7_5, .ref ax7_6, .ref ax7_7, .ref ax7_8, .ref ax7_9, .ref ax7_10, .ref ax7_11, .ref ax7_12]))] sz)) 0 0 (va_A [(h0, .inr (7, [.int (nI nx7), .int xx7_1, .ref ax7_2, .ref ax7_3, .ref ax7_4, .ref ax7_5, .ref ax7_6, .ref ax7_7, .ref ax7_8, .ref ax7_9, .ref ax7_10, .ref ax7_11, .ref ax7_12]))] sz) := by
  refine Met.ofW (cc := cX7_clear) (maxL := 1) (ret := none) (by decide) rfl ?_
  intro p e s m args below meth c s₁ B hml hv
  obtain ⟨rfl, hsz, hP, hK, hD0, hN⟩ := hv
  have hx := B.exec
  have hb := B.bytes
  have hr := B.returns
  have hts := atoms_spec (ws := .code yX7_clear cX7_clear 1 none :: pw) B.pre
  have hts : ∀ w ∈ pw, w.before _ s = true := fun w h => hts w (List.mem_cons_of_mem _ h)
  have hown : s.vm.findClass RX7 = some m.cls := findClass_of_methodNamed B.named
  have hlocks := B.notSynchronized
  subst hsz
  have hD := hD0.self (sz := s.heap.size)
  generalize hAe : va_A [(h0, .inr (7, [.int (nI nx7), .int xx7_1, .ref ax7_2, .ref ax7_3, .ref ax7_4, .ref ax7_5, .ref ax7_6, .ref ax7_7, .ref ax7_8, .ref ax7_9, .ref ax7_10, .ref ax7_11, .ref ax7_12]))] s.heap.size = A at hD ⊢
  have hA : ∀ q : Nat, s.heap.size ≤ q → A q := fun q h => by rw [← hAe]; exact Or.inr h
  have hS : va_S A s.heap s.heap [] := va_S.rf
  have hP : va_P (dC, dI) vwCl [(h0, .inr (7, [.int (nI nx7), .int xx7_1, .ref ax7_2, .ref ax7_3, .ref ax7_4, .ref ax7_5, .ref ax7_6, .ref ax7_7, .ref ax7_8, .ref ax7_9, .ref ax7_10, .ref ax7_11, .ref ax7_12]))] s.heap := hP
  have hl := lv_entry ([.ref h0]) (n := 1) (Nat.le_of_ble_eq_true rfl)
  rw [lg_entry_eq]
  generalize (lg_sl ([.ref h0]) ++ List.replicate (1 - (lg_sl ([.ref h0])).length) Slot.unset).toArray = ls at hl ⊢
  have hl : lv_has ls 1 [(0, .ref h0)] := hl
  refine lv_aload_n hx hb dX7_clear_0 rfl (lv_at hl 0 rfl) ?_
  refine lv_iconst (v := 0) hx hb dX7_clear_1 (by decide) ?_
  refine va_put (D := (dC, dI)) (ci := 7) (v := .int 0) (ty := .int) (C := RX7) (T := TX7) (N := 13) hx hb hts inlX7 tyX7 tyX7_ok nmX7 hown hK hP hD hS 0 rfl rfl 1 (by decide) (hts (.fieldLink RX7 9 "ShapeReader$Tree" "size" "I") mw_17_22) (fun _ h9 => h9) rfl (by decide +kernel) rfl rfl (Nat.le_of_ble_eq_true rfl) dX7_clear_2 (fun H locs hP hD hS => ?_)
  have hP : va_P (dC, dI) vwCl [(h0, .inr (7, [.int (nI nx7), .int 0, .ref ax7_2, .ref ax7_3, .ref ax7_4, .ref ax7_5, .ref ax7_6, .ref ax7_7, .ref ax7_8, .ref ax7_9, .ref ax7_10, .ref ax7_11, .ref ax7_12]))] H := hP
  have hD : va_D A [(h0, .inr (7, [.int (nI nx7), .int 0, .ref ax7_2, .ref ax7_3, .ref ax7_4, .ref ax7_5, .ref ax7_6, .ref ax7_7, .ref ax7_8, .ref ax7_9, .ref ax7_10, .ref ax7_11, .ref ax7_12]))] := hD
  have hP9 := hP.sub (ws' := [(h0, .inr (7, [.int (nI nx7), .int 0, .ref ax7_2, .ref ax7_3, .ref ax7_4, .ref ax7_5, .ref ax7_6, .ref ax7_7, .ref ax7_8, .ref ax7_9, .ref ax7_10, .ref ax7_11, .ref ax7_12]))]) [0] rfl
  have hD9 := hD.sub (ws' := [(h0, .inr (7, [.int (nI nx7), .int 0, .ref ax7_2, .ref ax7_3, .ref ax7_4, .ref ax7_5, .ref ax7_6, .ref ax7_7, .ref ax7_8, .ref ax7_9, .ref ax7_10, .ref ax7_11, .ref ax7_12]))]) [0] (by decide) rfl
  have hK9 := hK.sub (tys' := []) [] rfl
  refine W.widen (k := 0) (n := 0) (Nat.le_of_ble_eq_true rfl) (Nat.le_of_ble_eq_true rfl) ?_
  exact W.vret hx hb hr (fun t ht hW => ⟨⟨(), rfl, trivial, by rw [ht]; exact hP9, va_K.moved hW.alike hK9, hD9⟩, hS.F ht⟩) hS.2.2 dX7_clear_5

set_option maxRecDepth 100000 in
set_option maxHeartbeats 4000000 in
theorem s_X7_isRow (l : Launch) (dC : Nat → ClassId) (dI : Nat → Nat → Nat) (h0 : Nat) (nx7 : Nat) (xx7_1 : Int32) (ax7_2 : Nat) (ax7_3 : Nat) (ax7_4 : Nat) (ax7_5 : Nat) (ax7_6 : Nat) (ax7_7 : Nat) (ax7_8 : Nat) (ax7_9 : Nat) (ax7_10 : Nat) (ax7_11 : Nat) (ax7_12 : Nat) (p0 : Int32) (hn_nx7 : nx7 < 2 ^ 31) (sz : Nat) : Met l yX7_isRow (.code yX7_isRow cX7_isRow 2 (some .boolean) :: pw) ({ frames := 0, cells := 0, slots := 0, locals := 0 }) (va_Pc [.ref h0, .int p0] (vPre dC dI [(h0, .inr (7, [.int (nI nx7), .int xx7_1, .ref ax7_2, .ref ax7_3, .ref ax7_4, .ref ax7_5, .ref ax7_6, .ref ax7_7, .ref ax7_8, .ref ax7_9, .ref ax7_10, .ref ax7_11, .ref ax7_12]))] [] sz)) (va_Qi (fun (r : Int32) (_ : Unit) => (r = 0) ∨ (r = 1 ∧ ¬ p0 < 0 ∧ ¬ xx7_1 ≤ p0 ∧ ¬ (nI nx7) ≤ p0)) (fun (_ : Unit) t => vPst dC dI (va_A [(h0, .inr (7, [.int (nI nx7), .int xx7_1, .ref ax7_2, .ref ax7_3, .ref ax7_4, .ref ax7_5, .ref ax7_6, .ref ax7_7, .ref ax7_8, .ref ax7_9, .ref ax7_10, .ref ax7_11, .ref ax7_12]))] sz) [(h0, .inr (7, [.int (nI nx7), .int xx7_1, .ref ax7_2, .ref ax7_3, .ref ax7_4, .ref ax7_5, .ref ax7_6, .ref ax7_7, .ref ax7_8, .ref ax7_9, .ref ax7_10, .ref ax7_11, .ref ax7_12]))] [] t) (va_A [(h0, .inr (7, [.int (nI nx7), .int xx7_1, .ref ax7_2, .ref ax7_3, .ref ax7_4, .ref ax7_5, .ref ax7_6, .ref ax7_7, .ref ax7_8, .ref ax7_9, .ref ax7_10, .ref ax7_11, .ref ax7_12]))] sz)) 0 0 (va_A [(h0, .inr (7, [.int (nI nx7), .int xx7_1, .ref ax7_2, .ref ax7_3, .ref ax7_4, .ref ax7_5, .ref ax7_6, .ref ax7_7, .ref ax7_8, .ref ax7_9, .ref ax7_10, .ref ax7_11, .ref ax7_12]))] sz) := by
  refine Met.ofW (cc := cX7_isRow) (maxL := 2) (ret := (some .boolean)) (by decide) rfl ?_
  intro p e s m args below meth c s₁ B hml hv
  obtain ⟨rfl, hsz, hP, hK, hD0, hN⟩ := hv
  have hx := B.exec
  have hb := B.bytes
  have hr := B.returns
  have hts := atoms_spec (ws := .code yX7_isRow cX7_isRow 2 (some .boolean) :: pw) B.pre
  have hts : ∀ w ∈ pw, w.before _ s = true := fun w h => hts w (List.mem_cons_of_mem _ h)
  have hown : s.vm.findClass RX7 = some m.cls := findClass_of_methodNamed B.named
  have hlocks := B.notSynchronized
  subst hsz
  have hD := hD0.self (sz := s.heap.size)
  generalize hAe : va_A [(h0, .inr (7, [.int (nI nx7), .int xx7_1, .ref ax7_2, .ref ax7_3, .ref ax7_4, .ref ax7_5, .ref ax7_6, .ref ax7_7, .ref ax7_8, .ref ax7_9, .ref ax7_10, .ref ax7_11, .ref ax7_12]))] s.heap.size = A at hD ⊢
  have hA : ∀ q : Nat, s.heap.size ≤ q → A q := fun q h => by rw [← hAe]; exact Or.inr h
  have hS : va_S A s.heap s.heap [] := va_S.rf
  have hP : va_P (dC, dI) vwCl [(h0, .inr (7, [.int (nI nx7), .int xx7_1, .ref ax7_2, .ref ax7_3, .ref ax7_4, .ref ax7_5, .ref ax7_6, .ref ax7_7, .ref ax7_8, .ref ax7_9, .ref ax7_10, .ref ax7_11, .ref ax7_12]))] s.heap := hP
  have hl := lv_entry ([.ref h0, .int p0]) (n := 2) (Nat.le_of_ble_eq_true rfl)
  rw [lg_entry_eq]
  generalize (lg_sl ([.ref h0, .int p0]) ++ List.replicate (2 - (lg_sl ([.ref h0, .int p0])).length) Slot.unset).toArray = ls at hl ⊢
  have hl : lv_has ls 2 [(0, .ref h0), (1, .int p0)] := hl
  refine lv_iload_n hx hb dX7_isRow_0 rfl (lv_at hl 1 rfl) ?_
  refine lv_if_lt (tgt := 24) hx hb dX7_isRow_1 (by decide) (fun c_1 => ?_) (fun c_1 => ?_)
  · refine lv_iconst (v := 0) hx hb dX7_isRow_24 (by decide) ?_
    have hP9 := hP.sub (ws' := [(h0, .inr (7, [.int (nI nx7), .int xx7_1, .ref ax7_2, .ref ax7_3, .ref ax7_4, .ref ax7_5, .ref ax7_6, .ref ax7_7, .ref ax7_8, .ref ax7_9, .ref ax7_10, .ref ax7_11, .ref ax7_12]))]) [0] rfl
    have hD9 := hD.sub (ws' := [(h0, .inr (7, [.int (nI nx7), .int xx7_1, .ref ax7_2, .ref ax7_3, .ref ax7_4, .ref ax7_5, .ref ax7_6, .ref ax7_7, .ref ax7_8, .ref ax7_9, .ref ax7_10, .ref ax7_11, .ref ax7_12]))]) [0] (by decide) rfl
    have hK9 := hK.sub (tys' := []) [] rfl
    refine W.widen (k := 0) (n := 0) (Nat.le_of_ble_eq_true rfl) (Nat.le_of_ble_eq_true rfl) ?_
    exact W.zret (v := 0) hx hb hr rfl (fun t ht hW => ⟨⟨0, (), rfl, Or.inl (rfl), by rw [ht]; exact hP9, va_K.moved hW.alike hK9, hD9⟩, hS.F ht⟩) hS.2.2 dX7_isRow_25
  · refine lv_iload_n hx hb dX7_isRow_4 rfl (lv_at hl 1 rfl) ?_
    refine lv_aload_n hx hb dX7_isRow_5 rfl (lv_at hl 0 rfl) ?_
    refine va_get (D := (dC, dI)) (ci := 7) (v := .int xx7_1) (C := RX7) (T := TX7) (N := 13) hx hb hts inlX7 hown hK hP 0 rfl rfl 1 (by decide) (hts (.fieldLink RX7 9 "ShapeReader$Tree" "size" "I") mw_17_22) (fun _ h9 => h9) rfl dX7_isRow_6 ?_
    refine lv_icmp_ge (tgt := 24) hx hb dX7_isRow_9 (by decide) (fun c_2 => ?_) (fun c_2 => ?_)
    · refine lv_iconst (v := 0) hx hb dX7_isRow_24 (by decide) ?_
      have hP9 := hP.sub (ws' := [(h0, .inr (7, [.int (nI nx7), .int xx7_1, .ref ax7_2, .ref ax7_3, .ref ax7_4, .ref ax7_5, .ref ax7_6, .ref ax7_7, .ref ax7_8, .ref ax7_9, .ref ax7_10, .ref ax7_11, .ref ax7_12]))]) [0] rfl
      have hD9 := hD.sub (ws' := [(h0, .inr (7, [.int (nI nx7), .int xx7_1, .ref ax7_2, .ref ax7_3, .ref ax7_4, .ref ax7_5, .ref ax7_6, .ref ax7_7, .ref ax7_8, .ref ax7_9, .ref ax7_10, .ref ax7_11, .ref ax7_12]))]) [0] (by decide) rfl
      have hK9 := hK.sub (tys' := []) [] rfl
      refine W.widen (k := 0) (n := 0) (Nat.le_of_ble_eq_true rfl) (Nat.le_of_ble_eq_true rfl) ?_
      exact W.zret (v := 0) hx hb hr rfl (fun t ht hW => ⟨⟨0, (), rfl, Or.inl (rfl), by rw [ht]; exact hP9, va_K.moved hW.alike hK9, hD9⟩, hS.F ht⟩) hS.2.2 dX7_isRow_25
    · refine lv_iload_n hx hb dX7_isRow_12 rfl (lv_at hl 1 rfl) ?_
      refine lv_aload_n hx hb dX7_isRow_13 rfl (lv_at hl 0 rfl) ?_
      refine va_get (D := (dC, dI)) (ci := 7) (v := .int (nI nx7)) (C := RX7) (T := TX7) (N := 13) hx hb hts inlX7 hown hK hP 0 rfl rfl 0 (by decide) (hts (.fieldLink RX7 15 "ShapeReader$Tree" "rows" "I") mw_17_23) (fun _ h9 => h9) rfl dX7_isRow_14 ?_
      refine lv_icmp_ge (tgt := 24) hx hb dX7_isRow_17 (by decide) (fun c_3 => ?_) (fun c_3 => ?_)
      · refine lv_iconst (v := 0) hx hb dX7_isRow_24 (by decide) ?_
        have hP9 := hP.sub (ws' := [(h0, .inr (7, [.int (nI nx7), .int xx7_1, .ref ax7_2, .ref ax7_3, .ref ax7_4, .ref ax7_5, .ref ax7_6, .ref ax7_7, .ref ax7_8, .ref ax7_9, .ref ax7_10, .ref ax7_11, .ref ax7_12]))]) [0] rfl
        have hD9 := hD.sub (ws' := [(h0, .inr (7, [.int (nI nx7), .int xx7_1, .ref ax7_2, .ref ax7_3, .ref ax7_4, .ref ax7_5, .ref ax7_6, .ref ax7_7, .ref ax7_8, .ref ax7_9, .ref ax7_10, .ref ax7_11, .ref ax7_12]))]) [0] (by decide) rfl
        have hK9 := hK.sub (tys' := []) [] rfl
        refine W.widen (k := 0) (n := 0) (Nat.le_of_ble_eq_true rfl) (Nat.le_of_ble_eq_true rfl) ?_
        exact W.zret (v := 0) hx hb hr rfl (fun t ht hW => ⟨⟨0, (), rfl, Or.inl (rfl), by rw [ht]; exact hP9, va_K.moved hW.alike hK9, hD9⟩, hS.F ht⟩) hS.2.2 dX7_isRow_25
      · refine lv_iconst (v := 1) hx hb dX7_isRow_20 (by decide) ?_
        refine lv_goto (tgt := 25) hx hb dX7_isRow_21 (by decide) ?_
        have hP9 := hP.sub (ws' := [(h0, .inr (7, [.int (nI nx7), .int xx7_1, .ref ax7_2, .ref ax7_3, .ref ax7_4, .ref ax7_5, .ref ax7_6, .ref ax7_7, .ref ax7_8, .ref ax7_9, .ref ax7_10, .ref ax7_11, .ref ax7_12]))]) [0] rfl
        have hD9 := hD.sub (ws' := [(h0, .inr (7, [.int (nI nx7), .int xx7_1, .ref ax7_2, .ref ax7_3, .ref ax7_4, .ref ax7_5, .ref ax7_6, .ref ax7_7, .ref ax7_8, .ref ax7_9, .ref ax7_10, .ref ax7_11, .ref ax7_12]))]) [0] (by decide) rfl
        have hK9 := hK.sub (tys' := []) [] rfl
        refine W.widen (k := 0) (n := 0) (Nat.le_of_ble_eq_true rfl) (Nat.le_of_ble_eq_true rfl) ?_
        exact W.zret (v := 1) hx hb hr rfl (fun t ht hW => ⟨⟨1, (), rfl, Or.inr (⟨rfl, c_1, c_2, c_3⟩), by rw [ht]; exact hP9, va_K.moved hW.alike hK9, hD9⟩, hS.F ht⟩) hS.2.2 dX7_isRow_25

set_option maxRecDepth 100000 in
set_option maxHeartbeats 4000000 in
theorem s_X7_setWorth (l : Launch) (dC : Nat → ClassId) (dI : Nat → Nat → Nat) (h0 : Nat) (nx7 : Nat) (xx7_1 : Int32) (ax7_2 : Nat) (ax7_3 : Nat) (ax7_4 : Nat) (ax7_5 : Nat) (cx7_5 : ClassId) (fx7_5 : Nat → Int32) (ax7_6 : Nat) (ax7_7 : Nat) (cx7_7 : ClassId) (fx7_7 : Nat → Int64) (ax7_8 : Nat) (ax7_9 : Nat) (ax7_10 : Nat) (ax7_11 : Nat) (ax7_12 : Nat) (p0 : Int32) (p1 : Int32) (p2 : Int64) (hn_nx7 : nx7 < 2 ^ 31) (sz : Nat) : Met l yX7_setWorth (.code yX7_setWorth cX7_setWorth 5 none :: pw) ({ frames := 1, cells := 0, slots := 0, locals := 21 }) (va_Pc [.ref h0, .int p0, .int p1, .long p2] (vPre dC dI [(h0, .inr (7, [.int (nI nx7), .int xx7_1, .ref ax7_2, .ref ax7_3, .ref ax7_4, .ref ax7_5, .ref ax7_6, .ref ax7_7, .ref ax7_8, .ref ax7_9, .ref ax7_10, .ref ax7_11, .ref ax7_12])), (ax7_5, .inl (cx7_5, nx7, .inl fx7_5)), (ax7_7, .inl (cx7_7, nx7, .inr (.inl fx7_7)))] [(cx7_5, .int), (cx7_7, .long)] sz)) (va_Qv (fun (_ : Unit) => True) (fun (_ : Unit) t => ∃ (z1 : Nat → Int32), ∃ (z2 : Nat → Int64), vPst dC dI (va_A [(h0, .inr (7, [.int (nI nx7), .int xx7_1, .ref ax7_2, .ref ax7_3, .ref ax7_4, .ref ax7_5, .ref ax7_6, .ref ax7_7, .ref ax7_8, .ref ax7_9, .ref ax7_10, .ref ax7_11, .ref ax7_12])), (ax7_5, .inl (cx7_5, nx7, .inl fx7_5)), (ax7_7, .inl (cx7_7, nx7, .inr (.inl fx7_7)))] sz) [(h0, .inr (7, [.int (nI nx7), .int xx7_1, .ref ax7_2, .ref ax7_3, .ref ax7_4, .ref ax7_5, .ref ax7_6, .ref ax7_7, .ref ax7_8, .ref ax7_9, .ref ax7_10, .ref ax7_11, .ref ax7_12])), (ax7_5, .inl (cx7_5, nx7, .inl z1)), (ax7_7, .inl (cx7_7, nx7, .inr (.inl z2)))] [(cx7_5, .int), (cx7_7, .long)] t) (va_A [(h0, .inr (7, [.int (nI nx7), .int xx7_1, .ref ax7_2, .ref ax7_3, .ref ax7_4, .ref ax7_5, .ref ax7_6, .ref ax7_7, .ref ax7_8, .ref ax7_9, .ref ax7_10, .ref ax7_11, .ref ax7_12])), (ax7_5, .inl (cx7_5, nx7, .inl fx7_5)), (ax7_7, .inl (cx7_7, nx7, .inr (.inl fx7_7)))] sz)) 0 0 (va_A [(h0, .inr (7, [.int (nI nx7), .int xx7_1, .ref ax7_2, .ref ax7_3, .ref ax7_4, .ref ax7_5, .ref ax7_6, .ref ax7_7, .ref ax7_8, .ref ax7_9, .ref ax7_10, .ref ax7_11, .ref ax7_12])), (ax7_5, .inl (cx7_5, nx7, .inl fx7_5)), (ax7_7, .inl (cx7_7, nx7, .inr (.inl fx7_7)))] sz) := by
  refine Met.ofW (cc := cX7_setWorth) (maxL := 5) (ret := none) (by decide) rfl ?_
  intro p e s m args below meth c s₁ B hml hv
  obtain ⟨rfl, hsz, hP, hK, hD0, hN⟩ := hv
  have hx := B.exec
  have hb := B.bytes
  have hr := B.returns
  have hts := atoms_spec (ws := .code yX7_setWorth cX7_setWorth 5 none :: pw) B.pre
  have hts : ∀ w ∈ pw, w.before _ s = true := fun w h => hts w (List.mem_cons_of_mem _ h)
  have hown : s.vm.findClass RX7 = some m.cls := findClass_of_methodNamed B.named
  have hlocks := B.notSynchronized
  subst hsz
  have hD := hD0.self (sz := s.heap.size)
  generalize hAe : va_A [(h0, .inr (7, [.int (nI nx7), .int xx7_1, .ref ax7_2, .ref ax7_3, .ref ax7_4, .ref ax7_5, .ref ax7_6, .ref ax7_7, .ref ax7_8, .ref ax7_9, .ref ax7_10, .ref ax7_11, .ref ax7_12])), (ax7_5, .inl (cx7_5, nx7, .inl fx7_5)), (ax7_7, .inl (cx7_7, nx7, .inr (.inl fx7_7)))] s.heap.size = A at hD ⊢
  have hA : ∀ q : Nat, s.heap.size ≤ q → A q := fun q h => by rw [← hAe]; exact Or.inr h
  have hS : va_S A s.heap s.heap [] := va_S.rf
  have hP : va_P (dC, dI) vwCl [(h0, .inr (7, [.int (nI nx7), .int xx7_1, .ref ax7_2, .ref ax7_3, .ref ax7_4, .ref ax7_5, .ref ax7_6, .ref ax7_7, .ref ax7_8, .ref ax7_9, .ref ax7_10, .ref ax7_11, .ref ax7_12])), (ax7_5, .inl (cx7_5, nx7, .inl fx7_5)), (ax7_7, .inl (cx7_7, nx7, .inr (.inl fx7_7)))] s.heap := hP
  have hl := lv_entry ([.ref h0, .int p0, .int p1, .long p2]) (n := 5) (Nat.le_of_ble_eq_true rfl)
  rw [lg_entry_eq]
  generalize (lg_sl ([.ref h0, .int p0, .int p1, .long p2]) ++ List.replicate (5 - (lg_sl ([.ref h0, .int p0, .int p1, .long p2])).length) Slot.unset).toArray = ls at hl ⊢
  have hl : lv_has ls 5 [(0, .ref h0), (1, .int p0), (2, .int p1), (3, .long p2)] := hl
  refine lv_aload_n hx hb dX7_setWorth_0 rfl (lv_at hl 0 rfl) ?_
  refine lv_iload_n hx hb dX7_setWorth_1 rfl (lv_at hl 1 rfl) ?_
  have hPc := hP.sub (ws' := [(h0, .inr (7, [.int (nI nx7), .int xx7_1, .ref ax7_2, .ref ax7_3, .ref ax7_4, .ref ax7_5, .ref ax7_6, .ref ax7_7, .ref ax7_8, .ref ax7_9, .ref ax7_10, .ref ax7_11, .ref ax7_12]))]) [0] rfl
  have hDc := hD.sub (ws' := [(h0, .inr (7, [.int (nI nx7), .int xx7_1, .ref ax7_2, .ref ax7_3, .ref ax7_4, .ref ax7_5, .ref ax7_6, .ref ax7_7, .ref ax7_8, .ref ax7_9, .ref ax7_10, .ref ax7_11, .ref ax7_12]))]) [0] (by decide) rfl
  have hKc := hK.sub (tys' := []) [] rfl
  have hFc := va_free (wc := [(h0, .inr (7, [.int (nI nx7), .int xx7_1, .ref ax7_2, .ref ax7_3, .ref ax7_4, .ref ax7_5, .ref ax7_6, .ref ax7_7, .ref ax7_8, .ref ax7_9, .ref ax7_10, .ref ax7_11, .ref ax7_12]))]) hD hS hA [0] rfl
  refine va_calli (va_runV (As := [.int p0]) (rest := []) ⟨hx, hb, hml, hown, hts⟩ (s_X7_isRow l dC dI h0 nx7 xx7_1 ax7_2 ax7_3 ax7_4 ax7_5 ax7_6 ax7_7 ax7_8 ax7_9 ax7_10 ax7_11 ax7_12 p0 hn_nx7 s.heap.size) (cwV 1 hts (gV mw_18_5 mw_18_6 mw_18_7 mw_0_11 mw_50_23) rfl rfl rfl (by decide +kernel) ⟨(Nat.le_of_ble_eq_true rfl), (Nat.le_of_ble_eq_true rfl)⟩) (vV (ci := 7) (q0 := 0) hKc hPc hDc hN rfl rfl) rfl rfl hl.1 rfl (lv_room (Nat.le_of_ble_eq_true rfl)) dX7_setWorth_2 ⟨(Nat.le_of_ble_eq_true rfl), (Nat.le_of_ble_eq_true rfl)⟩) hS (fun q _ h => hFc q h) hFc (fun r_1 u t H1 locs ht hvm hw hB hz1 hk1 hS => ?_)
  obtain ⟨hP1, hK1, hD1⟩ := hB
  rw [ht] at hP1
  have hK1 := va_K.moved hvm.symm hK1
  obtain ⟨hP, hD⟩ := va_join (wr := [(ax7_5, .inl (cx7_5, nx7, .inl fx7_5)), (ax7_7, .inl (cx7_7, nx7, .inr (.inl fx7_7)))]) (w1 := [(h0, .inr (7, [.int (nI nx7), .int xx7_1, .ref ax7_2, .ref ax7_3, .ref ax7_4, .ref ax7_5, .ref ax7_6, .ref ax7_7, .ref ax7_8, .ref ax7_9, .ref ax7_10, .ref ax7_11, .ref ax7_12]))]) hP hD [0] [1, 2] rfl rfl (by decide) (by decide) hk1 hFc hP1 hD1
  clear hPc hDc hKc hP1 hK1 hD1 hFc hk1 hz1
  generalize H1 = H at hP hS ⊢
  have hP : va_P (dC, dI) vwCl [(ax7_5, .inl (cx7_5, nx7, .inl fx7_5)), (ax7_7, .inl (cx7_7, nx7, .inr (.inl fx7_7))), (h0, .inr (7, [.int (nI nx7), .int xx7_1, .ref ax7_2, .ref ax7_3, .ref ax7_4, .ref ax7_5, .ref ax7_6, .ref ax7_7, .ref ax7_8, .ref ax7_9, .ref ax7_10, .ref ax7_11, .ref ax7_12]))] H := hP
  have hD : va_D A [(ax7_5, .inl (cx7_5, nx7, .inl fx7_5)), (ax7_7, .inl (cx7_7, nx7, .inr (.inl fx7_7))), (h0, .inr (7, [.int (nI nx7), .int xx7_1, .ref ax7_2, .ref ax7_3, .ref ax7_4, .ref ax7_5, .ref ax7_6, .ref ax7_7, .ref ax7_8, .ref ax7_9, .ref ax7_10, .ref ax7_11, .ref ax7_12]))] := hD
  rcases hw with rfl | ⟨rfl, g_2, g_3, g_4⟩
  · refine lv_if_eq (tgt := 22) hx hb dX7_setWorth_5 (by decide) (fun _ => ?_) (fun h => absurd (by decide) h)
    have hP9 := hP.sub (ws' := [(h0, .inr (7, [.int (nI nx7), .int xx7_1, .ref ax7_2, .ref ax7_3, .ref ax7_4, .ref ax7_5, .ref ax7_6, .ref ax7_7, .ref ax7_8, .ref ax7_9, .ref ax7_10, .ref ax7_11, .ref ax7_12])), (ax7_5, .inl (cx7_5, nx7, .inl fx7_5)), (ax7_7, .inl (cx7_7, nx7, .inr (.inl fx7_7)))]) [2, 0, 1] rfl
    have hD9 := hD.sub (ws' := [(h0, .inr (7, [.int (nI nx7), .int xx7_1, .ref ax7_2, .ref ax7_3, .ref ax7_4, .ref ax7_5, .ref ax7_6, .ref ax7_7, .ref ax7_8, .ref ax7_9, .ref ax7_10, .ref ax7_11, .ref ax7_12])), (ax7_5, .inl (cx7_5, nx7, .inl fx7_5)), (ax7_7, .inl (cx7_7, nx7, .inr (.inl fx7_7)))]) [2, 0, 1] (by decide) rfl
    have hK9 := hK.sub (tys' := [(cx7_5, .int), (cx7_7, .long)]) [0, 1] rfl
    refine W.widen (k := 0) (n := 0) (Nat.le_of_ble_eq_true rfl) (Nat.le_of_ble_eq_true rfl) ?_
    exact W.vret hx hb hr (fun t ht hW => ⟨⟨(), rfl, trivial, fx7_5, fx7_7, by rw [ht]; exact hP9, va_K.moved hW.alike hK9, hD9⟩, hS.F ht⟩) hS.2.2 dX7_setWorth_22
  · refine lv_if_eq (tgt := 22) hx hb dX7_setWorth_5 (by decide) (fun h => absurd h (by decide)) (fun _ => ?_)
    refine lv_aload_n hx hb dX7_setWorth_8 rfl (lv_at hl 0 rfl) ?_
    refine va_get (D := (dC, dI)) (ci := 7) (v := .ref ax7_5) (C := RX7) (T := TX7) (N := 13) hx hb hts inlX7 hown hK hP 2 rfl rfl 5 (by decide) (hts (.fieldLink RX7 28 "ShapeReader$Tree" "sizes" "[I") mw_17_27) (fun _ h9 => h9) rfl dX7_setWorth_9 ?_
    refine lv_iload_n hx hb dX7_setWorth_12 rfl (lv_at hl 1 rfl) ?_
    refine lv_iload_n hx hb dX7_setWorth_13 rfl (lv_at hl 2 rfl) ?_
    refine va_iast hx hb hK hP hD hS 0 0 rfl rfl (vp_in_ltn (by have a0 := il_nlt g_2; have e0 : (0 : Int32).toInt = 0 := (by decide); omega) g_4 hn_nx7) dX7_setWorth_14 (fun H locs hP hD hS => ?_)
    obtain ⟨f_7, hP, hD⟩ : ∃ f_7 : Nat → Int32, va_P (dC, dI) vwCl [(ax7_5, .inl (cx7_5, nx7, .inl f_7)), (ax7_7, .inl (cx7_7, nx7, .inr (.inl fx7_7))), (h0, .inr (7, [.int (nI nx7), .int xx7_1, .ref ax7_2, .ref ax7_3, .ref ax7_4, .ref ax7_5, .ref ax7_6, .ref ax7_7, .ref ax7_8, .ref ax7_9, .ref ax7_10, .ref ax7_11, .ref ax7_12]))] H ∧ va_D A [(ax7_5, .inl (cx7_5, nx7, .inl f_7)), (ax7_7, .inl (cx7_7, nx7, .inr (.inl fx7_7))), (h0, .inr (7, [.int (nI nx7), .int xx7_1, .ref ax7_2, .ref ax7_3, .ref ax7_4, .ref ax7_5, .ref ax7_6, .ref ax7_7, .ref ax7_8, .ref ax7_9, .ref ax7_10, .ref ax7_11, .ref ax7_12]))] := ⟨_, hP, hD⟩
    refine lv_aload_n hx hb dX7_setWorth_15 rfl (lv_at hl 0 rfl) ?_
    refine va_get (D := (dC, dI)) (ci := 7) (v := .ref ax7_7) (C := RX7) (T := TX7) (N := 13) hx hb hts inlX7 hown hK hP 2 rfl rfl 7 (by decide) (hts (.fieldLink RX7 35 "ShapeReader$Tree" "worths" "[J") mw_17_29) (fun _ h9 => h9) rfl dX7_setWorth_16 ?_
    refine lv_iload_n hx hb dX7_setWorth_19 rfl (lv_at hl 1 rfl) ?_
    refine lv_lload_n hx hb dX7_setWorth_20 rfl (lv_at hl 3 rfl) ?_
    refine va_last hx hb hK hP hD hS 1 1 rfl rfl (vp_in_ltn (by have a0 := il_nlt g_2; have e0 : (0 : Int32).toInt = 0 := (by decide); omega) g_4 hn_nx7) dX7_setWorth_21 (fun H locs hP hD hS => ?_)
    obtain ⟨f_8, hP, hD⟩ : ∃ f_8 : Nat → Int64, va_P (dC, dI) vwCl [(ax7_5, .inl (cx7_5, nx7, .inl f_7)), (ax7_7, .inl (cx7_7, nx7, .inr (.inl f_8))), (h0, .inr (7, [.int (nI nx7), .int xx7_1, .ref ax7_2, .ref ax7_3, .ref ax7_4, .ref ax7_5, .ref ax7_6, .ref ax7_7, .ref ax7_8, .ref ax7_9, .ref ax7_10, .ref ax7_11, .ref ax7_12]))] H ∧ va_D A [(ax7_5, .inl (cx7_5, nx7, .inl f_7)), (ax7_7, .inl (cx7_7, nx7, .inr (.inl f_8))), (h0, .inr (7, [.int (nI nx7), .int xx7_1, .ref ax7_2, .ref ax7_3, .ref ax7_4, .ref ax7_5, .ref ax7_6, .ref ax7_7, .ref ax7_8, .ref ax7_9, .ref ax7_10, .ref ax7_11, .ref ax7_12]))] := ⟨_, hP, hD⟩
    have hP9 := hP.sub (ws' := [(h0, .inr (7, [.int (nI nx7), .int xx7_1, .ref ax7_2, .ref ax7_3, .ref ax7_4, .ref ax7_5, .ref ax7_6, .ref ax7_7, .ref ax7_8, .ref ax7_9, .ref ax7_10, .ref ax7_11, .ref ax7_12])), (ax7_5, .inl (cx7_5, nx7, .inl f_7)), (ax7_7, .inl (cx7_7, nx7, .inr (.inl f_8)))]) [2, 0, 1] rfl
    have hD9 := hD.sub (ws' := [(h0, .inr (7, [.int (nI nx7), .int xx7_1, .ref ax7_2, .ref ax7_3, .ref ax7_4, .ref ax7_5, .ref ax7_6, .ref ax7_7, .ref ax7_8, .ref ax7_9, .ref ax7_10, .ref ax7_11, .ref ax7_12])), (ax7_5, .inl (cx7_5, nx7, .inl f_7)), (ax7_7, .inl (cx7_7, nx7, .inr (.inl f_8)))]) [2, 0, 1] (by decide) rfl
    have hK9 := hK.sub (tys' := [(cx7_5, .int), (cx7_7, .long)]) [0, 1] rfl
    refine W.widen (k := 0) (n := 0) (Nat.le_of_ble_eq_true rfl) (Nat.le_of_ble_eq_true rfl) ?_
    exact W.vret hx hb hr (fun t ht hW => ⟨⟨(), rfl, trivial, f_7, f_8, by rw [ht]; exact hP9, va_K.moved hW.alike hK9, hD9⟩, hS.F ht⟩) hS.2.2 dX7_setWorth_22

set_option maxRecDepth 100000 in
set_option maxHeartbeats 4000000 in
theorem s_X7_setFilled (l : Launch) (dC : Nat → ClassId) (dI : Nat → Nat → Nat) (h0 : Nat) (nx7 : Nat) (xx7_1 : Int32) (ax7_2 : Nat) (ax7_3 : Nat) (ax7_4 : Nat) (ax7_5 : Nat) (ax7_6 : Nat) (cx7_6 : ClassId) (fx7_6 : Nat → Int32) (ax7_7 : Nat) (ax7_8 : Nat) (ax7_9 : Nat) (ax7_10 : Nat) (ax7_11 : Nat) (ax7_12 : Nat) (p0 : Int32) (hn_nx7 : nx7 < 2 ^ 31) (sz : Nat) : Met l yX7_setFilled (.code yX7_setFilled cX7_setFilled 2 none :: pw) ({ frames := 1, cells := 0, slots := 0, locals := 21 }) (va_Pc [.ref h0, .int p0] (vPre dC dI [(h0, .inr (7, [.int (nI nx7), .int xx7_1, .ref ax7_2, .ref ax7_3, .ref ax7_4, .ref ax7_5, .ref ax7_6, .ref ax7_7, .ref ax7_8, .ref ax7_9, .ref ax7_10, .ref ax7_11, .ref ax7_12])), (ax7_6, .inl (cx7_6, nx7, .inl fx7_6))] [(cx7_6, .boolean)] sz)) (va_Qv (fun (_ : Unit) => True) (fun (_ : Unit) t => ∃ (z1 : Nat → Int32), vPst dC dI (va_A [(h0, .inr (7, [.int (nI nx7), .int xx7_1, .ref ax7_2, .ref ax7_3, .ref ax7_4, .ref ax7_5, .ref ax7_6, .ref ax7_7, .ref ax7_8, .ref ax7_9, .ref ax7_10, .ref ax7_11, .ref ax7_12])), (ax7_6, .inl (cx7_6, nx7, .inl fx7_6))] sz) [(h0, .inr (7, [.int (nI nx7), .int xx7_1, .ref ax7_2, .ref ax7_3, .ref ax7_4, .ref ax7_5, .ref ax7_6, .ref ax7_7, .ref ax7_8, .ref ax7_9, .ref ax7_10, .ref ax7_11, .ref ax7_12])), (ax7_6, .inl (cx7_6, nx7, .inl z1))] [(cx7_6, .boolean)] t) (va_A [(h0, .inr (7, [.int (nI nx7), .int xx7_1, .ref ax7_2, .ref ax7_3, .ref ax7_4, .ref ax7_5, .ref ax7_6, .ref ax7_7, .ref ax7_8, .ref ax7_9, .ref ax7_10, .ref ax7_11, .ref ax7_12])), (ax7_6, .inl (cx7_6, nx7, .inl fx7_6))] sz)) 0 0 (va_A [(h0, .inr (7, [.int (nI nx7), .int xx7_1, .ref ax7_2, .ref ax7_3, .ref ax7_4, .ref ax7_5, .ref ax7_6, .ref ax7_7, .ref ax7_8, .ref ax7_9, .ref ax7_10, .ref ax7_11, .ref ax7_12])), (ax7_6, .inl (cx7_6, nx7, .inl fx7_6))] sz) := by
  refine Met.ofW (cc := cX7_setFilled) (maxL := 2) (ret := none) (by decide) rfl ?_
  intro p e s m args below meth c s₁ B hml hv
  obtain ⟨rfl, hsz, hP, hK, hD0, hN⟩ := hv
  have hx := B.exec
  have hb := B.bytes
  have hr := B.returns
  have hts := atoms_spec (ws := .code yX7_setFilled cX7_setFilled 2 none :: pw) B.pre
  have hts : ∀ w ∈ pw, w.before _ s = true := fun w h => hts w (List.mem_cons_of_mem _ h)
  have hown : s.vm.findClass RX7 = some m.cls := findClass_of_methodNamed B.named
  have hlocks := B.notSynchronized
  subst hsz
  have hD := hD0.self (sz := s.heap.size)
  generalize hAe : va_A [(h0, .inr (7, [.int (nI nx7), .int xx7_1, .ref ax7_2, .ref ax7_3, .ref ax7_4, .ref ax7_5, .ref ax7_6, .ref ax7_7, .ref ax7_8, .ref ax7_9, .ref ax7_10, .ref ax7_11, .ref ax7_12])), (ax7_6, .inl (cx7_6, nx7, .inl fx7_6))] s.heap.size = A at hD ⊢
  have hA : ∀ q : Nat, s.heap.size ≤ q → A q := fun q h => by rw [← hAe]; exact Or.inr h
  have hS : va_S A s.heap s.heap [] := va_S.rf
  have hP : va_P (dC, dI) vwCl [(h0, .inr (7, [.int (nI nx7), .int xx7_1, .ref ax7_2, .ref ax7_3, .ref ax7_4, .ref ax7_5, .ref ax7_6, .ref ax7_7, .ref ax7_8, .ref ax7_9, .ref ax7_10, .ref ax7_11, .ref ax7_12])), (ax7_6, .inl (cx7_6, nx7, .inl fx7_6))] s.heap := hP
  have hl := lv_entry ([.ref h0, .int p0]) (n := 2) (Nat.le_of_ble_eq_true rfl)
  rw [lg_entry_eq]
  generalize (lg_sl ([.ref h0, .int p0]) ++ List.replicate (2 - (lg_sl ([.ref h0, .int p0])).length) Slot.unset).toArray = ls at hl ⊢
  have hl : lv_has ls 2 [(0, .ref h0), (1, .int p0)] := hl
  refine lv_aload_n hx hb dX7_setFilled_0 rfl (lv_at hl 0 rfl) ?_
  refine lv_iload_n hx hb dX7_setFilled_1 rfl (lv_at hl 1 rfl) ?_
  have hPc := hP.sub (ws' := [(h0, .inr (7, [.int (nI nx7), .int xx7_1, .ref ax7_2, .ref ax7_3, .ref ax7_4, .ref ax7_5, .ref ax7_6, .ref ax7_7, .ref ax7_8, .ref ax7_9, .ref ax7_10, .ref ax7_11, .ref ax7_12]))]) [0] rfl
  have hDc := hD.sub (ws' := [(h0, .inr (7, [.int (nI nx7), .int xx7_1, .ref ax7_2, .ref ax7_3, .ref ax7_4, .ref ax7_5, .ref ax7_6, .ref ax7_7, .ref ax7_8, .ref ax7_9, .ref ax7_10, .ref ax7_11, .ref ax7_12]))]) [0] (by decide) rfl
  have hKc := hK.sub (tys' := []) [] rfl
  have hFc := va_free (wc := [(h0, .inr (7, [.int (nI nx7), .int xx7_1, .ref ax7_2, .ref ax7_3, .ref ax7_4, .ref ax7_5, .ref ax7_6, .ref ax7_7, .ref ax7_8, .ref ax7_9, .ref ax7_10, .ref ax7_11, .ref ax7_12]))]) hD hS hA [0] rfl
  refine va_calli (va_runV (As := [.int p0]) (rest := []) ⟨hx, hb, hml, hown, hts⟩ (s_X7_isRow l dC dI h0 nx7 xx7_1 ax7_2 ax7_3 ax7_4 ax7_5 ax7_6 ax7_7 ax7_8 ax7_9 ax7_10 ax7_11 ax7_12 p0 hn_nx7 s.heap.size) (cwV 1 hts (gV mw_18_5 mw_18_6 mw_18_7 mw_0_11 mw_50_23) rfl rfl rfl (by decide +kernel) ⟨(Nat.le_of_ble_eq_true rfl), (Nat.le_of_ble_eq_true rfl)⟩) (vV (ci := 7) (q0 := 0) hKc hPc hDc hN rfl rfl) rfl rfl hl.1 rfl (lv_room (Nat.le_of_ble_eq_true rfl)) dX7_setFilled_2 ⟨(Nat.le_of_ble_eq_true rfl), (Nat.le_of_ble_eq_true rfl)⟩) hS (fun q _ h => hFc q h) hFc (fun r_1 u t H1 locs ht hvm hw hB hz1 hk1 hS => ?_)
  obtain ⟨hP1, hK1, hD1⟩ := hB
  rw [ht] at hP1
  have hK1 := va_K.moved hvm.symm hK1
  obtain ⟨hP, hD⟩ := va_join (wr := [(ax7_6, .inl (cx7_6, nx7, .inl fx7_6))]) (w1 := [(h0, .inr (7, [.int (nI nx7), .int xx7_1, .ref ax7_2, .ref ax7_3, .ref ax7_4, .ref ax7_5, .ref ax7_6, .ref ax7_7, .ref ax7_8, .ref ax7_9, .ref ax7_10, .ref ax7_11, .ref ax7_12]))]) hP hD [0] [1] rfl rfl (by decide) (by decide) hk1 hFc hP1 hD1
  clear hPc hDc hKc hP1 hK1 hD1 hFc hk1 hz1
  generalize H1 = H at hP hS ⊢
  have hP : va_P (dC, dI) vwCl [(ax7_6, .inl (cx7_6, nx7, .inl fx7_6)), (h0, .inr (7, [.int (nI nx7), .int xx7_1, .ref ax7_2, .ref ax7_3, .ref ax7_4, .ref ax7_5, .ref ax7_6, .ref ax7_7, .ref ax7_8, .ref ax7_9, .ref ax7_10, .ref ax7_11, .ref ax7_12]))] H := hP
  have hD : va_D A [(ax7_6, .inl (cx7_6, nx7, .inl fx7_6)), (h0, .inr (7, [.int (nI nx7), .int xx7_1, .ref ax7_2, .ref ax7_3, .ref ax7_4, .ref ax7_5, .ref ax7_6, .ref ax7_7, .ref ax7_8, .ref ax7_9, .ref ax7_10, .ref ax7_11, .ref ax7_12]))] := hD
  rcases hw with rfl | ⟨rfl, g_2, g_3, g_4⟩
  · refine lv_if_eq (tgt := 15) hx hb dX7_setFilled_5 (by decide) (fun _ => ?_) (fun h => absurd (by decide) h)
    have hP9 := hP.sub (ws' := [(h0, .inr (7, [.int (nI nx7), .int xx7_1, .ref ax7_2, .ref ax7_3, .ref ax7_4, .ref ax7_5, .ref ax7_6, .ref ax7_7, .ref ax7_8, .ref ax7_9, .ref ax7_10, .ref ax7_11, .ref ax7_12])), (ax7_6, .inl (cx7_6, nx7, .inl fx7_6))]) [1, 0] rfl
    have hD9 := hD.sub (ws' := [(h0, .inr (7, [.int (nI nx7), .int xx7_1, .ref ax7_2, .ref ax7_3, .ref ax7_4, .ref ax7_5, .ref ax7_6, .ref ax7_7, .ref ax7_8, .ref ax7_9, .ref ax7_10, .ref ax7_11, .ref ax7_12])), (ax7_6, .inl (cx7_6, nx7, .inl fx7_6))]) [1, 0] (by decide) rfl
    have hK9 := hK.sub (tys' := [(cx7_6, .boolean)]) [0] rfl
    refine W.widen (k := 0) (n := 0) (Nat.le_of_ble_eq_true rfl) (Nat.le_of_ble_eq_true rfl) ?_
    exact W.vret hx hb hr (fun t ht hW => ⟨⟨(), rfl, trivial, fx7_6, by rw [ht]; exact hP9, va_K.moved hW.alike hK9, hD9⟩, hS.F ht⟩) hS.2.2 dX7_setFilled_15
  · refine lv_if_eq (tgt := 15) hx hb dX7_setFilled_5 (by decide) (fun h => absurd h (by decide)) (fun _ => ?_)
    refine lv_aload_n hx hb dX7_setFilled_8 rfl (lv_at hl 0 rfl) ?_
    refine va_get (D := (dC, dI)) (ci := 7) (v := .ref ax7_6) (C := RX7) (T := TX7) (N := 13) hx hb hts inlX7 hown hK hP 1 rfl rfl 6 (by decide) (hts (.fieldLink RX7 31 "ShapeReader$Tree" "filled" "[Z") mw_17_28) (fun _ h9 => h9) rfl dX7_setFilled_9 ?_
    refine lv_iload_n hx hb dX7_setFilled_12 rfl (lv_at hl 1 rfl) ?_
    refine lv_iconst (v := 1) hx hb dX7_setFilled_13 (by decide) ?_
    refine va_zast hx hb hK hP hD hS 0 0 rfl rfl (vp_in_ltn (by have a0 := il_nlt g_2; have e0 : (0 : Int32).toInt = 0 := (by decide); omega) g_4 hn_nx7) dX7_setFilled_14 (fun H locs hP hD hS => ?_)
    obtain ⟨f_7, hP, hD⟩ : ∃ f_7 : Nat → Int32, va_P (dC, dI) vwCl [(ax7_6, .inl (cx7_6, nx7, .inl f_7)), (h0, .inr (7, [.int (nI nx7), .int xx7_1, .ref ax7_2, .ref ax7_3, .ref ax7_4, .ref ax7_5, .ref ax7_6, .ref ax7_7, .ref ax7_8, .ref ax7_9, .ref ax7_10, .ref ax7_11, .ref ax7_12]))] H ∧ va_D A [(ax7_6, .inl (cx7_6, nx7, .inl f_7)), (h0, .inr (7, [.int (nI nx7), .int xx7_1, .ref ax7_2, .ref ax7_3, .ref ax7_4, .ref ax7_5, .ref ax7_6, .ref ax7_7, .ref ax7_8, .ref ax7_9, .ref ax7_10, .ref ax7_11, .ref ax7_12]))] := ⟨_, hP, hD⟩
    have hP9 := hP.sub (ws' := [(h0, .inr (7, [.int (nI nx7), .int xx7_1, .ref ax7_2, .ref ax7_3, .ref ax7_4, .ref ax7_5, .ref ax7_6, .ref ax7_7, .ref ax7_8, .ref ax7_9, .ref ax7_10, .ref ax7_11, .ref ax7_12])), (ax7_6, .inl (cx7_6, nx7, .inl f_7))]) [1, 0] rfl
    have hD9 := hD.sub (ws' := [(h0, .inr (7, [.int (nI nx7), .int xx7_1, .ref ax7_2, .ref ax7_3, .ref ax7_4, .ref ax7_5, .ref ax7_6, .ref ax7_7, .ref ax7_8, .ref ax7_9, .ref ax7_10, .ref ax7_11, .ref ax7_12])), (ax7_6, .inl (cx7_6, nx7, .inl f_7))]) [1, 0] (by decide) rfl
    have hK9 := hK.sub (tys' := [(cx7_6, .boolean)]) [0] rfl
    refine W.widen (k := 0) (n := 0) (Nat.le_of_ble_eq_true rfl) (Nat.le_of_ble_eq_true rfl) ?_
    exact W.vret hx hb hr (fun t ht hW => ⟨⟨(), rfl, trivial, f_7, by rw [ht]; exact hP9, va_K.moved hW.alike hK9, hD9⟩, hS.F ht⟩) hS.2.2 dX7_setFilled_15

set_option maxRecDepth 100000 in
set_option maxHeartbeats 4000000 in
theorem s_X7_sortAt (l : Launch) (dC : Nat → ClassId) (dI : Nat → Nat → Nat) (h0 : Nat) (nx7 : Nat) (xx7_1 : Int32) (ax7_2 : Nat) (cx7_2 : ClassId) (fx7_2 : Nat → Int32) (ax7_3 : Nat) (ax7_4 : Nat) (ax7_5 : Nat) (ax7_6 : Nat) (ax7_7 : Nat) (ax7_8 : Nat) (ax7_9 : Nat) (ax7_10 : Nat) (ax7_11 : Nat) (ax7_12 : Nat) (p0 : Int32) (hn_nx7 : nx7 < 2 ^ 31) (sz : Nat) : Met l yX7_sortAt (.code yX7_sortAt cX7_sortAt 2 (some .int) :: pw) ({ frames := 1, cells := 0, slots := 0, locals := 21 }) (va_Pc [.ref h0, .int p0] (vPre dC dI [(h0, .inr (7, [.int (nI nx7), .int xx7_1, .ref ax7_2, .ref ax7_3, .ref ax7_4, .ref ax7_5, .ref ax7_6, .ref ax7_7, .ref ax7_8, .ref ax7_9, .ref ax7_10, .ref ax7_11, .ref ax7_12])), (ax7_2, .inl (cx7_2, nx7, .inl fx7_2))] [(cx7_2, .int)] sz)) (va_Qi (fun (r : Int32) (_ : Unit) => (r = (fx7_2 p0.toNatClampNeg)) ∨ (r = (-1))) (fun (_ : Unit) t => vPst dC dI (va_A [(h0, .inr (7, [.int (nI nx7), .int xx7_1, .ref ax7_2, .ref ax7_3, .ref ax7_4, .ref ax7_5, .ref ax7_6, .ref ax7_7, .ref ax7_8, .ref ax7_9, .ref ax7_10, .ref ax7_11, .ref ax7_12])), (ax7_2, .inl (cx7_2, nx7, .inl fx7_2))] sz) [(h0, .inr (7, [.int (nI nx7), .int xx7_1, .ref ax7_2, .ref ax7_3, .ref ax7_4, .ref ax7_5, .ref ax7_6, .ref ax7_7, .ref ax7_8, .ref ax7_9, .ref ax7_10, .ref ax7_11, .ref ax7_12])), (ax7_2, .inl (cx7_2, nx7, .inl fx7_2))] [(cx7_2, .int)] t) (va_A [(h0, .inr (7, [.int (nI nx7), .int xx7_1, .ref ax7_2, .ref ax7_3, .ref ax7_4, .ref ax7_5, .ref ax7_6, .ref ax7_7, .ref ax7_8, .ref ax7_9, .ref ax7_10, .ref ax7_11, .ref ax7_12])), (ax7_2, .inl (cx7_2, nx7, .inl fx7_2))] sz)) 0 0 (va_A [(h0, .inr (7, [.int (nI nx7), .int xx7_1, .ref ax7_2, .ref ax7_3, .ref ax7_4, .ref ax7_5, .ref ax7_6, .ref ax7_7, .ref ax7_8, .ref ax7_9, .ref ax7_10, .ref ax7_11, .ref ax7_12])), (ax7_2, .inl (cx7_2, nx7, .inl fx7_2))] sz) := by
  refine Met.ofW (cc := cX7_sortAt) (maxL := 2) (ret := (some .int)) (by decide) rfl ?_
  intro p e s m args below meth c s₁ B hml hv
  obtain ⟨rfl, hsz, hP, hK, hD0, hN⟩ := hv
  have hx := B.exec
  have hb := B.bytes
  have hr := B.returns
  have hts := atoms_spec (ws := .code yX7_sortAt cX7_sortAt 2 (some .int) :: pw) B.pre
  have hts : ∀ w ∈ pw, w.before _ s = true := fun w h => hts w (List.mem_cons_of_mem _ h)
  have hown : s.vm.findClass RX7 = some m.cls := findClass_of_methodNamed B.named
  have hlocks := B.notSynchronized
  subst hsz
  have hD := hD0.self (sz := s.heap.size)
  generalize hAe : va_A [(h0, .inr (7, [.int (nI nx7), .int xx7_1, .ref ax7_2, .ref ax7_3, .ref ax7_4, .ref ax7_5, .ref ax7_6, .ref ax7_7, .ref ax7_8, .ref ax7_9, .ref ax7_10, .ref ax7_11, .ref ax7_12])), (ax7_2, .inl (cx7_2, nx7, .inl fx7_2))] s.heap.size = A at hD ⊢
  have hA : ∀ q : Nat, s.heap.size ≤ q → A q := fun q h => by rw [← hAe]; exact Or.inr h
  have hS : va_S A s.heap s.heap [] := va_S.rf
  have hP : va_P (dC, dI) vwCl [(h0, .inr (7, [.int (nI nx7), .int xx7_1, .ref ax7_2, .ref ax7_3, .ref ax7_4, .ref ax7_5, .ref ax7_6, .ref ax7_7, .ref ax7_8, .ref ax7_9, .ref ax7_10, .ref ax7_11, .ref ax7_12])), (ax7_2, .inl (cx7_2, nx7, .inl fx7_2))] s.heap := hP
  have hl := lv_entry ([.ref h0, .int p0]) (n := 2) (Nat.le_of_ble_eq_true rfl)
  rw [lg_entry_eq]
  generalize (lg_sl ([.ref h0, .int p0]) ++ List.replicate (2 - (lg_sl ([.ref h0, .int p0])).length) Slot.unset).toArray = ls at hl ⊢
  have hl : lv_has ls 2 [(0, .ref h0), (1, .int p0)] := hl
  refine lv_aload_n hx hb dX7_sortAt_0 rfl (lv_at hl 0 rfl) ?_
  refine lv_iload_n hx hb dX7_sortAt_1 rfl (lv_at hl 1 rfl) ?_
  have hPc := hP.sub (ws' := [(h0, .inr (7, [.int (nI nx7), .int xx7_1, .ref ax7_2, .ref ax7_3, .ref ax7_4, .ref ax7_5, .ref ax7_6, .ref ax7_7, .ref ax7_8, .ref ax7_9, .ref ax7_10, .ref ax7_11, .ref ax7_12]))]) [0] rfl
  have hDc := hD.sub (ws' := [(h0, .inr (7, [.int (nI nx7), .int xx7_1, .ref ax7_2, .ref ax7_3, .ref ax7_4, .ref ax7_5, .ref ax7_6, .ref ax7_7, .ref ax7_8, .ref ax7_9, .ref ax7_10, .ref ax7_11, .ref ax7_12]))]) [0] (by decide) rfl
  have hKc := hK.sub (tys' := []) [] rfl
  have hFc := va_free (wc := [(h0, .inr (7, [.int (nI nx7), .int xx7_1, .ref ax7_2, .ref ax7_3, .ref ax7_4, .ref ax7_5, .ref ax7_6, .ref ax7_7, .ref ax7_8, .ref ax7_9, .ref ax7_10, .ref ax7_11, .ref ax7_12]))]) hD hS hA [0] rfl
  refine va_calli (va_runV (As := [.int p0]) (rest := []) ⟨hx, hb, hml, hown, hts⟩ (s_X7_isRow l dC dI h0 nx7 xx7_1 ax7_2 ax7_3 ax7_4 ax7_5 ax7_6 ax7_7 ax7_8 ax7_9 ax7_10 ax7_11 ax7_12 p0 hn_nx7 s.heap.size) (cwV 1 hts (gV mw_18_5 mw_18_6 mw_18_7 mw_0_11 mw_50_23) rfl rfl rfl (by decide +kernel) ⟨(Nat.le_of_ble_eq_true rfl), (Nat.le_of_ble_eq_true rfl)⟩) (vV (ci := 7) (q0 := 0) hKc hPc hDc hN rfl rfl) rfl rfl hl.1 rfl (lv_room (Nat.le_of_ble_eq_true rfl)) dX7_sortAt_2 ⟨(Nat.le_of_ble_eq_true rfl), (Nat.le_of_ble_eq_true rfl)⟩) hS (fun q _ h => hFc q h) hFc (fun r_1 u t H1 locs ht hvm hw hB hz1 hk1 hS => ?_)
  obtain ⟨hP1, hK1, hD1⟩ := hB
  rw [ht] at hP1
  have hK1 := va_K.moved hvm.symm hK1
  obtain ⟨hP, hD⟩ := va_join (wr := [(ax7_2, .inl (cx7_2, nx7, .inl fx7_2))]) (w1 := [(h0, .inr (7, [.int (nI nx7), .int xx7_1, .ref ax7_2, .ref ax7_3, .ref ax7_4, .ref ax7_5, .ref ax7_6, .ref ax7_7, .ref ax7_8, .ref ax7_9, .ref ax7_10, .ref ax7_11, .ref ax7_12]))]) hP hD [0] [1] rfl rfl (by decide) (by decide) hk1 hFc hP1 hD1
  clear hPc hDc hKc hP1 hK1 hD1 hFc hk1 hz1
  generalize H1 = H at hP hS ⊢
  have hP : va_P (dC, dI) vwCl [(ax7_2, .inl (cx7_2, nx7, .inl fx7_2)), (h0, .inr (7, [.int (nI nx7), .int xx7_1, .ref ax7_2, .ref ax7_3, .ref ax7_4, .ref ax7_5, .ref ax7_6, .ref ax7_7, .ref ax7_8, .ref ax7_9, .ref ax7_10, .ref ax7_11, .ref ax7_12]))] H := hP
  have hD : va_D A [(ax7_2, .inl (cx7_2, nx7, .inl fx7_2)), (h0, .inr (7, [.int (nI nx7), .int xx7_1, .ref ax7_2, .ref ax7_3, .ref ax7_4, .ref ax7_5, .ref ax7_6, .ref ax7_7, .ref ax7_8, .ref ax7_9, .ref ax7_10, .ref ax7_11, .ref ax7_12]))] := hD
  rcases hw with rfl | ⟨rfl, g_2, g_3, g_4⟩
  · refine lv_if_eq (tgt := 17) hx hb dX7_sortAt_5 (by decide) (fun _ => ?_) (fun h => absurd (by decide) h)
    refine lv_iconst (v := (-1)) hx hb dX7_sortAt_17 (by decide) ?_
    have hP9 := hP.sub (ws' := [(h0, .inr (7, [.int (nI nx7), .int xx7_1, .ref ax7_2, .ref ax7_3, .ref ax7_4, .ref ax7_5, .ref ax7_6, .ref ax7_7, .ref ax7_8, .ref ax7_9, .ref ax7_10, .ref ax7_11, .ref ax7_12])), (ax7_2, .inl (cx7_2, nx7, .inl fx7_2))]) [1, 0] rfl
    have hD9 := hD.sub (ws' := [(h0, .inr (7, [.int (nI nx7), .int xx7_1, .ref ax7_2, .ref ax7_3, .ref ax7_4, .ref ax7_5, .ref ax7_6, .ref ax7_7, .ref ax7_8, .ref ax7_9, .ref ax7_10, .ref ax7_11, .ref ax7_12])), (ax7_2, .inl (cx7_2, nx7, .inl fx7_2))]) [1, 0] (by decide) rfl
    have hK9 := hK.sub (tys' := [(cx7_2, .int)]) [0] rfl
    refine W.widen (k := 0) (n := 0) (Nat.le_of_ble_eq_true rfl) (Nat.le_of_ble_eq_true rfl) ?_
    exact W.iret (v := (-1)) hx hb hr (fun t ht hW => ⟨⟨(-1), (), rfl, Or.inr (rfl), by rw [ht]; exact hP9, va_K.moved hW.alike hK9, hD9⟩, hS.F ht⟩) hS.2.2 dX7_sortAt_18
  · refine lv_if_eq (tgt := 17) hx hb dX7_sortAt_5 (by decide) (fun h => absurd h (by decide)) (fun _ => ?_)
    refine lv_aload_n hx hb dX7_sortAt_8 rfl (lv_at hl 0 rfl) ?_
    refine va_get (D := (dC, dI)) (ci := 7) (v := .ref ax7_2) (C := RX7) (T := TX7) (N := 13) hx hb hts inlX7 hown hK hP 1 rfl rfl 2 (by decide) (hts (.fieldLink RX7 18 "ShapeReader$Tree" "sorts" "[I") mw_17_24) (fun _ h9 => h9) rfl dX7_sortAt_9 ?_
    refine lv_iload_n hx hb dX7_sortAt_12 rfl (lv_at hl 1 rfl) ?_
    refine va_iald hx hb hK hP 0 0 rfl rfl (vp_in_ltn (by have a0 := il_nlt g_2; have e0 : (0 : Int32).toInt = 0 := (by decide); omega) g_4 hn_nx7) dX7_sortAt_13 ?_
    refine lv_topi (fun x_7 ex_7 => ?_)
    refine lv_goto (tgt := 18) hx hb dX7_sortAt_14 (by decide) ?_
    have hP9 := hP.sub (ws' := [(h0, .inr (7, [.int (nI nx7), .int xx7_1, .ref ax7_2, .ref ax7_3, .ref ax7_4, .ref ax7_5, .ref ax7_6, .ref ax7_7, .ref ax7_8, .ref ax7_9, .ref ax7_10, .ref ax7_11, .ref ax7_12])), (ax7_2, .inl (cx7_2, nx7, .inl fx7_2))]) [1, 0] rfl
    have hD9 := hD.sub (ws' := [(h0, .inr (7, [.int (nI nx7), .int xx7_1, .ref ax7_2, .ref ax7_3, .ref ax7_4, .ref ax7_5, .ref ax7_6, .ref ax7_7, .ref ax7_8, .ref ax7_9, .ref ax7_10, .ref ax7_11, .ref ax7_12])), (ax7_2, .inl (cx7_2, nx7, .inl fx7_2))]) [1, 0] (by decide) rfl
    have hK9 := hK.sub (tys' := [(cx7_2, .int)]) [0] rfl
    refine W.widen (k := 0) (n := 0) (Nat.le_of_ble_eq_true rfl) (Nat.le_of_ble_eq_true rfl) ?_
    exact W.iret (v := x_7) hx hb hr (fun t ht hW => ⟨⟨x_7, (), rfl, Or.inl ((by rw [ex_7])), by rw [ht]; exact hP9, va_K.moved hW.alike hK9, hD9⟩, hS.F ht⟩) hS.2.2 dX7_sortAt_18
