theorem dX4_takeReal_0 : decode cX4_takeReal 0 = .ok (.lconst 0, 1) := by decide +kernel
theorem dX4_takeReal_1 : decode cX4_takeReal 1 = .ok (.lstore_n 1, 1) := by decide +kernel
theorem dX4_takeReal_2 : decode cX4_takeReal 2 = .ok (.iconst 0, 1) := by decide +kernel
theorem dX4_takeReal_3 : decode cX4_takeReal 3 = .ok (.istore_n 3, 1) := by decide +kernel
theorem dX4_takeReal_4 : decode cX4_takeReal 4 = .ok (.iload_n 3, 1) := by decide +kernel
theorem dX4_takeReal_5 : decode cX4_takeReal 5 = .ok (.bipush 8, 2) := by decide +kernel
theorem dX4_takeReal_7 : decode cX4_takeReal 7 = .ok (.if_icmp .ge 20, 3) := by decide +kernel
theorem dX4_takeReal_10 : decode cX4_takeReal 10 = .ok (.lload_n 1, 1) := by decide +kernel
theorem dX4_takeReal_11 : decode cX4_takeReal 11 = .ok (.bipush 8, 2) := by decide +kernel
theorem dX4_takeReal_13 : decode cX4_takeReal 13 = .ok (.lshl, 1) := by decide +kernel
theorem dX4_takeReal_14 : decode cX4_takeReal 14 = .ok (.aload_n 0, 1) := by decide +kernel
theorem dX4_takeReal_15 : decode cX4_takeReal 15 = .ok (.invokevirtual 192, 3) := by decide +kernel
theorem dX4_takeReal_18 : decode cX4_takeReal 18 = .ok (.i2l, 1) := by decide +kernel
theorem dX4_takeReal_19 : decode cX4_takeReal 19 = .ok (.lor, 1) := by decide +kernel
theorem dX4_takeReal_20 : decode cX4_takeReal 20 = .ok (.lstore_n 1, 1) := by decide +kernel
theorem dX4_takeReal_21 : decode cX4_takeReal 21 = .ok (.iinc 3 1, 3) := by decide +kernel
theorem dX4_takeReal_24 : decode cX4_takeReal 24 = .ok (.goto (-20), 3) := by decide +kernel
theorem dX4_takeReal_27 : decode cX4_takeReal 27 = .ok (.lload_n 1, 1) := by decide +kernel
theorem dX4_takeReal_28 : decode cX4_takeReal 28 = .ok (.ldc2_w 220, 3) := by decide +kernel
theorem dX4_takeReal_31 : decode cX4_takeReal 31 = .ok (.land, 1) := by decide +kernel
theorem dX4_takeReal_32 : decode cX4_takeReal 32 = .ok (.ldc2_w 222, 3) := by decide +kernel
theorem dX4_takeReal_35 : decode cX4_takeReal 35 = .ok (.lcmp, 1) := by decide +kernel
theorem dX4_takeReal_36 : decode cX4_takeReal 36 = .ok (.ifCond .le 7, 3) := by decide +kernel
theorem dX4_takeReal_39 : decode cX4_takeReal 39 = .ok (.iconst 1, 1) := by decide +kernel
theorem dX4_takeReal_40 : decode cX4_takeReal 40 = .ok (.goto 4, 3) := by decide +kernel
theorem dX4_takeReal_43 : decode cX4_takeReal 43 = .ok (.iconst 0, 1) := by decide +kernel
theorem dX4_takeReal_44 : decode cX4_takeReal 44 = .ok (.istore_n 3, 1) := by decide +kernel
theorem dX4_takeReal_45 : decode cX4_takeReal 45 = .ok (.iload_n 3, 1) := by decide +kernel
theorem dX4_takeReal_46 : decode cX4_takeReal 46 = .ok (.ifCond .eq 9, 3) := by decide +kernel
theorem dX4_takeReal_49 : decode cX4_takeReal 49 = .ok (.ldc2_w 224, 3) := by decide +kernel
theorem dX4_takeReal_52 : decode cX4_takeReal 52 = .ok (.goto 4, 3) := by decide +kernel
theorem dX4_takeReal_55 : decode cX4_takeReal 55 = .ok (.lload_n 1, 1) := by decide +kernel
theorem dX4_takeReal_56 : decode cX4_takeReal 56 = .ok (.lreturn, 1) := by decide +kernel
theorem dX5_addRecord_0 : decode cX5_addRecord 0 = .ok (.iload_n 1, 1) := by decide +kernel
theorem dX5_addRecord_1 : decode cX5_addRecord 1 = .ok (.bipush 6, 2) := by decide +kernel
theorem dX5_addRecord_3 : decode cX5_addRecord 3 = .ok (.imul, 1) := by decide +kernel
theorem dX5_addRecord_4 : decode cX5_addRecord 4 = .ok (.aload_n 0, 1) := by decide +kernel
theorem dX5_addRecord_5 : decode cX5_addRecord 5 = .ok (.iload_n 1, 1) := by decide +kernel
theorem dX5_addRecord_6 : decode cX5_addRecord 6 = .ok (.invokevirtual 98, 3) := by decide +kernel
theorem dX5_addRecord_9 : decode cX5_addRecord 9 = .ok (.iadd, 1) := by decide +kernel
theorem dX5_addRecord_10 : decode cX5_addRecord 10 = .ok (.istore 4, 2) := by decide +kernel
theorem dX5_addRecord_12 : decode cX5_addRecord 12 = .ok (.iload_n 1, 1) := by decide +kernel
theorem dX5_addRecord_13 : decode cX5_addRecord 13 = .ok (.ifCond .lt 51, 3) := by decide +kernel
theorem dX5_addRecord_16 : decode cX5_addRecord 16 = .ok (.iload_n 1, 1) := by decide +kernel
theorem dX5_addRecord_17 : decode cX5_addRecord 17 = .ok (.bipush 6, 2) := by decide +kernel
theorem dX5_addRecord_19 : decode cX5_addRecord 19 = .ok (.if_icmp .ge 45, 3) := by decide +kernel
theorem dX5_addRecord_22 : decode cX5_addRecord 22 = .ok (.iload 4, 2) := by decide +kernel
theorem dX5_addRecord_24 : decode cX5_addRecord 24 = .ok (.invokestatic 71, 3) := by decide +kernel
theorem dX5_addRecord_27 : decode cX5_addRecord 27 = .ok (.ifCond .eq 37, 3) := by decide +kernel
theorem dX5_addRecord_30 : decode cX5_addRecord 30 = .ok (.aload_n 0, 1) := by decide +kernel
theorem dX5_addRecord_31 : decode cX5_addRecord 31 = .ok (.getfield 28, 3) := by decide +kernel
theorem dX5_addRecord_34 : decode cX5_addRecord 34 = .ok (.iload 4, 2) := by decide +kernel
theorem dX5_addRecord_36 : decode cX5_addRecord 36 = .ok (.lload_n 2, 1) := by decide +kernel
theorem dX5_addRecord_37 : decode cX5_addRecord 37 = .ok (.lastore, 1) := by decide +kernel
theorem dX5_addRecord_38 : decode cX5_addRecord 38 = .ok (.aload_n 0, 1) := by decide +kernel
theorem dX5_addRecord_39 : decode cX5_addRecord 39 = .ok (.getfield 25, 3) := by decide +kernel
theorem dX5_addRecord_42 : decode cX5_addRecord 42 = .ok (.iload 4, 2) := by decide +kernel
theorem dX5_addRecord_44 : decode cX5_addRecord 44 = .ok (.iconst 0, 1) := by decide +kernel
theorem dX5_addRecord_45 : decode cX5_addRecord 45 = .ok (.iastore, 1) := by decide +kernel
theorem dX5_addRecord_46 : decode cX5_addRecord 46 = .ok (.aload_n 0, 1) := by decide +kernel
theorem dX5_addRecord_47 : decode cX5_addRecord 47 = .ok (.getfield 32, 3) := by decide +kernel
theorem dX5_addRecord_50 : decode cX5_addRecord 50 = .ok (.iload 4, 2) := by decide +kernel
theorem dX5_addRecord_52 : decode cX5_addRecord 52 = .ok (.iconst 0, 1) := by decide +kernel
theorem dX5_addRecord_53 : decode cX5_addRecord 53 = .ok (.iastore, 1) := by decide +kernel
theorem dX5_addRecord_54 : decode cX5_addRecord 54 = .ok (.aload_n 0, 1) := by decide +kernel
theorem dX5_addRecord_55 : decode cX5_addRecord 55 = .ok (.getfield 18, 3) := by decide +kernel
theorem dX5_addRecord_58 : decode cX5_addRecord 58 = .ok (.iload_n 1, 1) := by decide +kernel
theorem dX5_addRecord_59 : decode cX5_addRecord 59 = .ok (.dup2, 1) := by decide +kernel
theorem dX5_addRecord_60 : decode cX5_addRecord 60 = .ok (.iaload, 1) := by decide +kernel
theorem dX5_addRecord_61 : decode cX5_addRecord 61 = .ok (.iconst 1, 1) := by decide +kernel
theorem dX5_addRecord_62 : decode cX5_addRecord 62 = .ok (.iadd, 1) := by decide +kernel
theorem dX5_addRecord_63 : decode cX5_addRecord 63 = .ok (.iastore, 1) := by decide +kernel
theorem dX5_addRecord_64 : decode cX5_addRecord 64 = .ok (.return_, 1) := by decide +kernel
theorem dX5_addType_0 : decode cX5_addType 0 = .ok (.aload_n 0, 1) := by decide +kernel
theorem dX5_addType_1 : decode cX5_addType 1 = .ok (.getfield 15, 3) := by decide +kernel
theorem dX5_addType_4 : decode cX5_addType 4 = .ok (.sipush 262, 3) := by decide +kernel
theorem dX5_addType_7 : decode cX5_addType 7 = .ok (.if_icmp .lt 5, 3) := by decide +kernel
theorem dX5_addType_10 : decode cX5_addType 10 = .ok (.iconst (-1), 1) := by decide +kernel
theorem dX5_addType_11 : decode cX5_addType 11 = .ok (.ireturn, 1) := by decide +kernel
theorem dX5_addType_12 : decode cX5_addType 12 = .ok (.aload_n 0, 1) := by decide +kernel
theorem dX5_addType_13 : decode cX5_addType 13 = .ok (.getfield 15, 3) := by decide +kernel
theorem dX5_addType_16 : decode cX5_addType 16 = .ok (.istore_n 2, 1) := by decide +kernel
theorem dX5_addType_17 : decode cX5_addType 17 = .ok (.aload_n 0, 1) := by decide +kernel
theorem dX5_addType_18 : decode cX5_addType 18 = .ok (.getfield 50, 3) := by decide +kernel
theorem dX5_addType_21 : decode cX5_addType 21 = .ok (.iload_n 2, 1) := by decide +kernel
theorem dX5_addType_22 : decode cX5_addType 22 = .ok (.iload_n 1, 1) := by decide +kernel
theorem dX5_addType_23 : decode cX5_addType 23 = .ok (.iastore, 1) := by decide +kernel
theorem dX5_addType_24 : decode cX5_addType 24 = .ok (.aload_n 0, 1) := by decide +kernel
theorem dX5_addType_25 : decode cX5_addType 25 = .ok (.getfield 53, 3) := by decide +kernel
theorem dX5_addType_28 : decode cX5_addType 28 = .ok (.iload_n 2, 1) := by decide +kernel
theorem dX5_addType_29 : decode cX5_addType 29 = .ok (.iconst (-1), 1) := by decide +kernel
theorem dX5_addType_30 : decode cX5_addType 30 = .ok (.iastore, 1) := by decide +kernel
theorem dX5_addType_31 : decode cX5_addType 31 = .ok (.aload_n 0, 1) := by decide +kernel
theorem dX5_addType_32 : decode cX5_addType 32 = .ok (.getfield 56, 3) := by decide +kernel
theorem dX5_addType_35 : decode cX5_addType 35 = .ok (.iload_n 2, 1) := by decide +kernel
theorem dX5_addType_36 : decode cX5_addType 36 = .ok (.iconst (-1), 1) := by decide +kernel
theorem dX5_addType_37 : decode cX5_addType 37 = .ok (.iastore, 1) := by decide +kernel
theorem dX5_addType_38 : decode cX5_addType 38 = .ok (.aload_n 0, 1) := by decide +kernel
theorem dX5_addType_39 : decode cX5_addType 39 = .ok (.getfield 59, 3) := by decide +kernel
theorem dX5_addType_42 : decode cX5_addType 42 = .ok (.iload_n 2, 1) := by decide +kernel
theorem dX5_addType_43 : decode cX5_addType 43 = .ok (.lconst 0, 1) := by decide +kernel
theorem dX5_addType_44 : decode cX5_addType 44 = .ok (.lastore, 1) := by decide +kernel
theorem dX5_addType_45 : decode cX5_addType 45 = .ok (.aload_n 0, 1) := by decide +kernel
theorem dX5_addType_46 : decode cX5_addType 46 = .ok (.getfield 62, 3) := by decide +kernel
theorem dX5_addType_49 : decode cX5_addType 49 = .ok (.iload_n 2, 1) := by decide +kernel
theorem dX5_addType_50 : decode cX5_addType 50 = .ok (.iconst 0, 1) := by decide +kernel
theorem dX5_addType_51 : decode cX5_addType 51 = .ok (.iastore, 1) := by decide +kernel
theorem dX5_addType_52 : decode cX5_addType 52 = .ok (.aload_n 0, 1) := by decide +kernel
theorem dX5_addType_53 : decode cX5_addType 53 = .ok (.dup, 1) := by decide +kernel
theorem dX5_addType_54 : decode cX5_addType 54 = .ok (.getfield 15, 3) := by decide +kernel
theorem dX5_addType_57 : decode cX5_addType 57 = .ok (.iconst 1, 1) := by decide +kernel
theorem dX5_addType_58 : decode cX5_addType 58 = .ok (.iadd, 1) := by decide +kernel
theorem dX5_addType_59 : decode cX5_addType 59 = .ok (.putfield 15, 3) := by decide +kernel
theorem dX5_addType_62 : decode cX5_addType 62 = .ok (.iload_n 2, 1) := by decide +kernel
theorem dX5_addType_63 : decode cX5_addType 63 = .ok (.ireturn, 1) := by decide +kernel
theorem dX5_branchAfter_0 : decode cX5_branchAfter 0 = .ok (.aload_n 0, 1) := by decide +kernel
theorem dX5_branchAfter_1 : decode cX5_branchAfter 1 = .ok (.iload_n 1, 1) := by decide +kernel
theorem dX5_branchAfter_2 : decode cX5_branchAfter 2 = .ok (.invokevirtual 79, 3) := by decide +kernel
theorem dX5_branchAfter_5 : decode cX5_branchAfter 5 = .ok (.ifCond .eq 12, 3) := by decide +kernel
theorem dX5_branchAfter_8 : decode cX5_branchAfter 8 = .ok (.aload_n 0, 1) := by decide +kernel
theorem dX5_branchAfter_9 : decode cX5_branchAfter 9 = .ok (.getfield 56, 3) := by decide +kernel
theorem dX5_branchAfter_12 : decode cX5_branchAfter 12 = .ok (.iload_n 1, 1) := by decide +kernel
theorem dX5_branchAfter_13 : decode cX5_branchAfter 13 = .ok (.iaload, 1) := by decide +kernel
theorem dX5_branchAfter_14 : decode cX5_branchAfter 14 = .ok (.goto 4, 3) := by decide +kernel
theorem dX5_branchAfter_17 : decode cX5_branchAfter 17 = .ok (.iconst (-1), 1) := by decide +kernel
theorem dX5_branchAfter_18 : decode cX5_branchAfter 18 = .ok (.ireturn, 1) := by decide +kernel
theorem dX5_branchOf_0 : decode cX5_branchOf 0 = .ok (.aload_n 0, 1) := by decide +kernel
theorem dX5_branchOf_1 : decode cX5_branchOf 1 = .ok (.iload_n 1, 1) := by decide +kernel
theorem dX5_branchOf_2 : decode cX5_branchOf 2 = .ok (.invokevirtual 82, 3) := by decide +kernel
theorem dX5_branchOf_5 : decode cX5_branchOf 5 = .ok (.bipush 8, 2) := by decide +kernel
theorem dX5_branchOf_7 : decode cX5_branchOf 7 = .ok (.if_icmp .ne 11, 3) := by decide +kernel
theorem dX5_branchOf_10 : decode cX5_branchOf 10 = .ok (.aload_n 0, 1) := by decide +kernel
theorem dX5_branchOf_11 : decode cX5_branchOf 11 = .ok (.iload_n 1, 1) := by decide +kernel
theorem dX5_branchOf_12 : decode cX5_branchOf 12 = .ok (.invokevirtual 86, 3) := by decide +kernel
theorem dX5_branchOf_15 : decode cX5_branchOf 15 = .ok (.goto 4, 3) := by decide +kernel
theorem dX5_branchOf_18 : decode cX5_branchOf 18 = .ok (.iconst (-1), 1) := by decide +kernel
theorem dX5_branchOf_19 : decode cX5_branchOf 19 = .ok (.istore_n 3, 1) := by decide +kernel
theorem dX5_branchOf_20 : decode cX5_branchOf 20 = .ok (.iconst 0, 1) := by decide +kernel
theorem dX5_branchOf_21 : decode cX5_branchOf 21 = .ok (.istore 4, 2) := by decide +kernel
theorem dX5_branchOf_23 : decode cX5_branchOf 23 = .ok (.iload 4, 2) := by decide +kernel
theorem dX5_branchOf_25 : decode cX5_branchOf 25 = .ok (.iload_n 2, 1) := by decide +kernel
theorem dX5_branchOf_26 : decode cX5_branchOf 26 = .ok (.if_icmp .ge 21, 3) := by decide +kernel
theorem dX5_branchOf_29 : decode cX5_branchOf 29 = .ok (.iload 4, 2) := by decide +kernel
theorem dX5_branchOf_31 : decode cX5_branchOf 31 = .ok (.iconst 4, 1) := by decide +kernel
theorem dX5_branchOf_32 : decode cX5_branchOf 32 = .ok (.if_icmp .ge 15, 3) := by decide +kernel
theorem dX5_branchOf_35 : decode cX5_branchOf 35 = .ok (.aload_n 0, 1) := by decide +kernel
theorem dX5_branchOf_36 : decode cX5_branchOf 36 = .ok (.iload_n 3, 1) := by decide +kernel
theorem dX5_branchOf_37 : decode cX5_branchOf 37 = .ok (.invokevirtual 89, 3) := by decide +kernel
theorem dX5_branchOf_40 : decode cX5_branchOf 40 = .ok (.istore_n 3, 1) := by decide +kernel
theorem dX5_branchOf_41 : decode cX5_branchOf 41 = .ok (.iinc 4 1, 3) := by decide +kernel
theorem dX5_branchOf_44 : decode cX5_branchOf 44 = .ok (.goto (-21), 3) := by decide +kernel
theorem dX5_branchOf_47 : decode cX5_branchOf 47 = .ok (.iload_n 3, 1) := by decide +kernel
theorem dX5_branchOf_48 : decode cX5_branchOf 48 = .ok (.ireturn, 1) := by decide +kernel
theorem dX5_branchesOf_0 : decode cX5_branchesOf 0 = .ok (.aload_n 0, 1) := by decide +kernel
theorem dX5_branchesOf_1 : decode cX5_branchesOf 1 = .ok (.iload_n 1, 1) := by decide +kernel
theorem dX5_branchesOf_2 : decode cX5_branchesOf 2 = .ok (.invokevirtual 82, 3) := by decide +kernel
theorem dX5_branchesOf_5 : decode cX5_branchesOf 5 = .ok (.bipush 8, 2) := by decide +kernel
theorem dX5_branchesOf_7 : decode cX5_branchesOf 7 = .ok (.if_icmp .eq 5, 3) := by decide +kernel
theorem dX5_branchesOf_10 : decode cX5_branchesOf 10 = .ok (.iconst 0, 1) := by decide +kernel
theorem dX5_branchesOf_11 : decode cX5_branchesOf 11 = .ok (.ireturn, 1) := by decide +kernel
theorem dX5_branchesOf_12 : decode cX5_branchesOf 12 = .ok (.iconst 0, 1) := by decide +kernel
theorem dX5_branchesOf_13 : decode cX5_branchesOf 13 = .ok (.istore_n 2, 1) := by decide +kernel
theorem dX5_branchesOf_14 : decode cX5_branchesOf 14 = .ok (.aload_n 0, 1) := by decide +kernel
theorem dX5_branchesOf_15 : decode cX5_branchesOf 15 = .ok (.iload_n 1, 1) := by decide +kernel
theorem dX5_branchesOf_16 : decode cX5_branchesOf 16 = .ok (.invokevirtual 86, 3) := by decide +kernel
theorem dX5_branchesOf_19 : decode cX5_branchesOf 19 = .ok (.istore_n 3, 1) := by decide +kernel
theorem dX5_branchesOf_20 : decode cX5_branchesOf 20 = .ok (.iload_n 3, 1) := by decide +kernel
theorem dX5_branchesOf_21 : decode cX5_branchesOf 21 = .ok (.iconst (-1), 1) := by decide +kernel
theorem dX5_branchesOf_22 : decode cX5_branchesOf 22 = .ok (.if_icmp .eq 20, 3) := by decide +kernel
theorem dX5_branchesOf_25 : decode cX5_branchesOf 25 = .ok (.iload_n 2, 1) := by decide +kernel
theorem dX5_branchesOf_26 : decode cX5_branchesOf 26 = .ok (.iconst 4, 1) := by decide +kernel
theorem dX5_branchesOf_27 : decode cX5_branchesOf 27 = .ok (.if_icmp .ge 15, 3) := by decide +kernel
theorem dX5_branchesOf_30 : decode cX5_branchesOf 30 = .ok (.iinc 2 1, 3) := by decide +kernel
theorem dX5_branchesOf_33 : decode cX5_branchesOf 33 = .ok (.aload_n 0, 1) := by decide +kernel
theorem dX5_branchesOf_34 : decode cX5_branchesOf 34 = .ok (.iload_n 3, 1) := by decide +kernel
theorem dX5_branchesOf_35 : decode cX5_branchesOf 35 = .ok (.invokevirtual 89, 3) := by decide +kernel
theorem dX5_branchesOf_38 : decode cX5_branchesOf 38 = .ok (.istore_n 3, 1) := by decide +kernel
theorem dX5_branchesOf_39 : decode cX5_branchesOf 39 = .ok (.goto (-19), 3) := by decide +kernel
theorem dX5_branchesOf_42 : decode cX5_branchesOf 42 = .ok (.iload_n 2, 1) := by decide +kernel
theorem dX5_branchesOf_43 : decode cX5_branchesOf 43 = .ok (.ireturn, 1) := by decide +kernel
theorem dX5_clear_0 : decode cX5_clear 0 = .ok (.aload_n 0, 1) := by decide +kernel
theorem dX5_clear_1 : decode cX5_clear 1 = .ok (.iconst 0, 1) := by decide +kernel
theorem dX5_clear_2 : decode cX5_clear 2 = .ok (.putfield 9, 3) := by decide +kernel
theorem dX5_clear_5 : decode cX5_clear 5 = .ok (.aload_n 0, 1) := by decide +kernel
theorem dX5_clear_6 : decode cX5_clear 6 = .ok (.iconst 0, 1) := by decide +kernel
theorem dX5_clear_7 : decode cX5_clear 7 = .ok (.putfield 15, 3) := by decide +kernel
theorem dX5_clear_10 : decode cX5_clear 10 = .ok (.return_, 1) := by decide +kernel
theorem dX5_elseWorth_0 : decode cX5_elseWorth 0 = .ok (.iload_n 1, 1) := by decide +kernel
theorem dX5_elseWorth_1 : decode cX5_elseWorth 1 = .ok (.iload_n 2, 1) := by decide +kernel
theorem dX5_elseWorth_2 : decode cX5_elseWorth 2 = .ok (.invokestatic 75, 3) := by decide +kernel
theorem dX5_elseWorth_5 : decode cX5_elseWorth 5 = .ok (.ifCond .eq 17, 3) := by decide +kernel
theorem dX5_elseWorth_8 : decode cX5_elseWorth 8 = .ok (.aload_n 0, 1) := by decide +kernel
theorem dX5_elseWorth_9 : decode cX5_elseWorth 9 = .ok (.getfield 47, 3) := by decide +kernel
theorem dX5_elseWorth_12 : decode cX5_elseWorth 12 = .ok (.iload_n 1, 1) := by decide +kernel
theorem dX5_elseWorth_13 : decode cX5_elseWorth 13 = .ok (.bipush 8, 2) := by decide +kernel
theorem dX5_elseWorth_15 : decode cX5_elseWorth 15 = .ok (.imul, 1) := by decide +kernel
theorem dX5_elseWorth_16 : decode cX5_elseWorth 16 = .ok (.iload_n 2, 1) := by decide +kernel
theorem dX5_elseWorth_17 : decode cX5_elseWorth 17 = .ok (.iadd, 1) := by decide +kernel
theorem dX5_elseWorth_18 : decode cX5_elseWorth 18 = .ok (.laload, 1) := by decide +kernel
theorem dX5_elseWorth_19 : decode cX5_elseWorth 19 = .ok (.goto 4, 3) := by decide +kernel
theorem dX5_elseWorth_22 : decode cX5_elseWorth 22 = .ok (.lconst 0, 1) := by decide +kernel
theorem dX5_elseWorth_23 : decode cX5_elseWorth 23 = .ok (.lreturn, 1) := by decide +kernel
theorem dX5_fieldName_0 : decode cX5_fieldName 0 = .ok (.iload_n 1, 1) := by decide +kernel
theorem dX5_fieldName_1 : decode cX5_fieldName 1 = .ok (.iload_n 2, 1) := by decide +kernel
theorem dX5_fieldName_2 : decode cX5_fieldName 2 = .ok (.invokestatic 75, 3) := by decide +kernel
theorem dX5_fieldName_5 : decode cX5_fieldName 5 = .ok (.ifCond .eq 17, 3) := by decide +kernel
theorem dX5_fieldName_8 : decode cX5_fieldName 8 = .ok (.aload_n 0, 1) := by decide +kernel
theorem dX5_fieldName_9 : decode cX5_fieldName 9 = .ok (.getfield 38, 3) := by decide +kernel
theorem dX5_fieldName_12 : decode cX5_fieldName 12 = .ok (.iload_n 1, 1) := by decide +kernel
theorem dX5_fieldName_13 : decode cX5_fieldName 13 = .ok (.bipush 8, 2) := by decide +kernel
theorem dX5_fieldName_15 : decode cX5_fieldName 15 = .ok (.imul, 1) := by decide +kernel
theorem dX5_fieldName_16 : decode cX5_fieldName 16 = .ok (.iload_n 2, 1) := by decide +kernel
theorem dX5_fieldName_17 : decode cX5_fieldName 17 = .ok (.iadd, 1) := by decide +kernel
theorem dX5_fieldName_18 : decode cX5_fieldName 18 = .ok (.laload, 1) := by decide +kernel
theorem dX5_fieldName_19 : decode cX5_fieldName 19 = .ok (.goto 4, 3) := by decide +kernel
theorem dX5_fieldName_22 : decode cX5_fieldName 22 = .ok (.lconst 0, 1) := by decide +kernel
theorem dX5_fieldName_23 : decode cX5_fieldName 23 = .ok (.lreturn, 1) := by decide +kernel
theorem dX5_fieldsOf_0 : decode cX5_fieldsOf 0 = .ok (.iload_n 1, 1) := by decide +kernel
theorem dX5_fieldsOf_1 : decode cX5_fieldsOf 1 = .ok (.invokestatic 71, 3) := by decide +kernel
theorem dX5_fieldsOf_4 : decode cX5_fieldsOf 4 = .ok (.ifCond .eq 12, 3) := by decide +kernel
theorem dX5_fieldsOf_7 : decode cX5_fieldsOf 7 = .ok (.aload_n 0, 1) := by decide +kernel
theorem dX5_fieldsOf_8 : decode cX5_fieldsOf 8 = .ok (.getfield 25, 3) := by decide +kernel
theorem dX5_fieldsOf_11 : decode cX5_fieldsOf 11 = .ok (.iload_n 1, 1) := by decide +kernel
theorem dX5_fieldsOf_12 : decode cX5_fieldsOf 12 = .ok (.iaload, 1) := by decide +kernel
theorem dX5_fieldsOf_13 : decode cX5_fieldsOf 13 = .ok (.goto 4, 3) := by decide +kernel
theorem dX5_fieldsOf_16 : decode cX5_fieldsOf 16 = .ok (.iconst 0, 1) := by decide +kernel
theorem dX5_fieldsOf_17 : decode cX5_fieldsOf 17 = .ok (.ireturn, 1) := by decide +kernel
theorem dX5_firstChoice_0 : decode cX5_firstChoice 0 = .ok (.aload_n 0, 1) := by decide +kernel
theorem dX5_firstChoice_1 : decode cX5_firstChoice 1 = .ok (.iload_n 1, 1) := by decide +kernel
theorem dX5_firstChoice_2 : decode cX5_firstChoice 2 = .ok (.invokevirtual 82, 3) := by decide +kernel
theorem dX5_firstChoice_5 : decode cX5_firstChoice 5 = .ok (.bipush 8, 2) := by decide +kernel
theorem dX5_firstChoice_7 : decode cX5_firstChoice 7 = .ok (.if_icmp .ne 11, 3) := by decide +kernel
theorem dX5_firstChoice_10 : decode cX5_firstChoice 10 = .ok (.aload_n 0, 1) := by decide +kernel
theorem dX5_firstChoice_11 : decode cX5_firstChoice 11 = .ok (.iload_n 1, 1) := by decide +kernel
theorem dX5_firstChoice_12 : decode cX5_firstChoice 12 = .ok (.invokevirtual 86, 3) := by decide +kernel
theorem dX5_firstChoice_15 : decode cX5_firstChoice 15 = .ok (.goto 4, 3) := by decide +kernel
theorem dX5_firstChoice_18 : decode cX5_firstChoice 18 = .ok (.iload_n 1, 1) := by decide +kernel
theorem dX5_firstChoice_19 : decode cX5_firstChoice 19 = .ok (.ireturn, 1) := by decide +kernel
theorem dX5_formerName_0 : decode cX5_formerName 0 = .ok (.iload_n 1, 1) := by decide +kernel
theorem dX5_formerName_1 : decode cX5_formerName 1 = .ok (.iload_n 2, 1) := by decide +kernel
theorem dX5_formerName_2 : decode cX5_formerName 2 = .ok (.invokestatic 75, 3) := by decide +kernel
theorem dX5_formerName_5 : decode cX5_formerName 5 = .ok (.ifCond .eq 17, 3) := by decide +kernel
theorem dX5_formerName_8 : decode cX5_formerName 8 = .ok (.aload_n 0, 1) := by decide +kernel
theorem dX5_formerName_9 : decode cX5_formerName 9 = .ok (.getfield 41, 3) := by decide +kernel
theorem dX5_formerName_12 : decode cX5_formerName 12 = .ok (.iload_n 1, 1) := by decide +kernel
theorem dX5_formerName_13 : decode cX5_formerName 13 = .ok (.bipush 8, 2) := by decide +kernel
theorem dX5_formerName_15 : decode cX5_formerName 15 = .ok (.imul, 1) := by decide +kernel
theorem dX5_formerName_16 : decode cX5_formerName 16 = .ok (.iload_n 2, 1) := by decide +kernel
theorem dX5_formerName_17 : decode cX5_formerName 17 = .ok (.iadd, 1) := by decide +kernel
theorem dX5_formerName_18 : decode cX5_formerName 18 = .ok (.laload, 1) := by decide +kernel
theorem dX5_formerName_19 : decode cX5_formerName 19 = .ok (.goto 4, 3) := by decide +kernel
theorem dX5_formerName_22 : decode cX5_formerName 22 = .ok (.lconst 0, 1) := by decide +kernel
theorem dX5_formerName_23 : decode cX5_formerName 23 = .ok (.lreturn, 1) := by decide +kernel
theorem dX5_hasElse_0 : decode cX5_hasElse 0 = .ok (.iload_n 1, 1) := by decide +kernel
theorem dX5_hasElse_1 : decode cX5_hasElse 1 = .ok (.iload_n 2, 1) := by decide +kernel
theorem dX5_hasElse_2 : decode cX5_hasElse 2 = .ok (.invokestatic 75, 3) := by decide +kernel
theorem dX5_hasElse_5 : decode cX5_hasElse 5 = .ok (.ifCond .eq 20, 3) := by decide +kernel
theorem dX5_hasElse_8 : decode cX5_hasElse 8 = .ok (.aload_n 0, 1) := by decide +kernel
theorem dX5_hasElse_9 : decode cX5_hasElse 9 = .ok (.getfield 32, 3) := by decide +kernel
theorem dX5_hasElse_12 : decode cX5_hasElse 12 = .ok (.iload_n 1, 1) := by decide +kernel
theorem dX5_hasElse_13 : decode cX5_hasElse 13 = .ok (.iaload, 1) := by decide +kernel
theorem dX5_hasElse_14 : decode cX5_hasElse 14 = .ok (.iload_n 2, 1) := by decide +kernel
theorem dX5_hasElse_15 : decode cX5_hasElse 15 = .ok (.ishr, 1) := by decide +kernel
theorem dX5_hasElse_16 : decode cX5_hasElse 16 = .ok (.iconst 1, 1) := by decide +kernel
theorem dX5_hasElse_17 : decode cX5_hasElse 17 = .ok (.iand, 1) := by decide +kernel
theorem dX5_hasElse_18 : decode cX5_hasElse 18 = .ok (.ifCond .eq 7, 3) := by decide +kernel
theorem dX5_hasElse_21 : decode cX5_hasElse 21 = .ok (.iconst 1, 1) := by decide +kernel
theorem dX5_hasElse_22 : decode cX5_hasElse 22 = .ok (.goto 4, 3) := by decide +kernel
theorem dX5_hasElse_25 : decode cX5_hasElse 25 = .ok (.iconst 0, 1) := by decide +kernel
theorem dX5_hasElse_26 : decode cX5_hasElse 26 = .ok (.ireturn, 1) := by decide +kernel
theorem dX5_innerOf_0 : decode cX5_innerOf 0 = .ok (.aload_n 0, 1) := by decide +kernel
theorem dX5_innerOf_1 : decode cX5_innerOf 1 = .ok (.iload_n 1, 1) := by decide +kernel
theorem dX5_innerOf_2 : decode cX5_innerOf 2 = .ok (.invokevirtual 79, 3) := by decide +kernel
theorem dX5_innerOf_5 : decode cX5_innerOf 5 = .ok (.ifCond .eq 12, 3) := by decide +kernel
theorem dX5_innerOf_8 : decode cX5_innerOf 8 = .ok (.aload_n 0, 1) := by decide +kernel
theorem dX5_innerOf_9 : decode cX5_innerOf 9 = .ok (.getfield 53, 3) := by decide +kernel
theorem dX5_innerOf_12 : decode cX5_innerOf 12 = .ok (.iload_n 1, 1) := by decide +kernel
theorem dX5_innerOf_13 : decode cX5_innerOf 13 = .ok (.iaload, 1) := by decide +kernel
theorem dX5_innerOf_14 : decode cX5_innerOf 14 = .ok (.goto 4, 3) := by decide +kernel
theorem dX5_innerOf_17 : decode cX5_innerOf 17 = .ok (.iconst (-1), 1) := by decide +kernel
theorem dX5_innerOf_18 : decode cX5_innerOf 18 = .ok (.ireturn, 1) := by decide +kernel
theorem dX5_isFieldOf_0 : decode cX5_isFieldOf 0 = .ok (.iload_n 0, 1) := by decide +kernel
theorem dX5_isFieldOf_1 : decode cX5_isFieldOf 1 = .ok (.ifCond .lt 23, 3) := by decide +kernel
theorem dX5_isFieldOf_4 : decode cX5_isFieldOf 4 = .ok (.iload_n 0, 1) := by decide +kernel
theorem dX5_isFieldOf_5 : decode cX5_isFieldOf 5 = .ok (.bipush 36, 2) := by decide +kernel
theorem dX5_isFieldOf_7 : decode cX5_isFieldOf 7 = .ok (.if_icmp .ge 17, 3) := by decide +kernel
theorem dX5_isFieldOf_10 : decode cX5_isFieldOf 10 = .ok (.iload_n 1, 1) := by decide +kernel
theorem dX5_isFieldOf_11 : decode cX5_isFieldOf 11 = .ok (.ifCond .lt 13, 3) := by decide +kernel
theorem dX5_isFieldOf_14 : decode cX5_isFieldOf 14 = .ok (.iload_n 1, 1) := by decide +kernel
theorem dX5_isFieldOf_15 : decode cX5_isFieldOf 15 = .ok (.bipush 8, 2) := by decide +kernel
theorem dX5_isFieldOf_17 : decode cX5_isFieldOf 17 = .ok (.if_icmp .ge 7, 3) := by decide +kernel
theorem dX5_isFieldOf_20 : decode cX5_isFieldOf 20 = .ok (.iconst 1, 1) := by decide +kernel
theorem dX5_isFieldOf_21 : decode cX5_isFieldOf 21 = .ok (.goto 4, 3) := by decide +kernel
theorem dX5_isFieldOf_24 : decode cX5_isFieldOf 24 = .ok (.iconst 0, 1) := by decide +kernel
theorem dX5_isFieldOf_25 : decode cX5_isFieldOf 25 = .ok (.ireturn, 1) := by decide +kernel
theorem dX5_isRecord_0 : decode cX5_isRecord 0 = .ok (.iload_n 0, 1) := by decide +kernel
theorem dX5_isRecord_1 : decode cX5_isRecord 1 = .ok (.ifCond .lt 13, 3) := by decide +kernel
theorem dX5_isRecord_4 : decode cX5_isRecord 4 = .ok (.iload_n 0, 1) := by decide +kernel
theorem dX5_isRecord_5 : decode cX5_isRecord 5 = .ok (.bipush 36, 2) := by decide +kernel
theorem dX5_isRecord_7 : decode cX5_isRecord 7 = .ok (.if_icmp .ge 7, 3) := by decide +kernel
theorem dX5_isRecord_10 : decode cX5_isRecord 10 = .ok (.iconst 1, 1) := by decide +kernel
theorem dX5_isRecord_11 : decode cX5_isRecord 11 = .ok (.goto 4, 3) := by decide +kernel
theorem dX5_isRecord_14 : decode cX5_isRecord 14 = .ok (.iconst 0, 1) := by decide +kernel
theorem dX5_isRecord_15 : decode cX5_isRecord 15 = .ok (.ireturn, 1) := by decide +kernel
theorem dX5_isType_0 : decode cX5_isType 0 = .ok (.iload_n 1, 1) := by decide +kernel
theorem dX5_isType_1 : decode cX5_isType 1 = .ok (.ifCond .lt 22, 3) := by decide +kernel
theorem dX5_isType_4 : decode cX5_isType 4 = .ok (.iload_n 1, 1) := by decide +kernel
theorem dX5_isType_5 : decode cX5_isType 5 = .ok (.aload_n 0, 1) := by decide +kernel
theorem dX5_isType_6 : decode cX5_isType 6 = .ok (.getfield 15, 3) := by decide +kernel
theorem dX5_isType_9 : decode cX5_isType 9 = .ok (.if_icmp .ge 14, 3) := by decide +kernel
theorem dX5_isType_12 : decode cX5_isType 12 = .ok (.iload_n 1, 1) := by decide +kernel
theorem dX5_isType_13 : decode cX5_isType 13 = .ok (.sipush 262, 3) := by decide +kernel
theorem dX5_isType_16 : decode cX5_isType 16 = .ok (.if_icmp .ge 7, 3) := by decide +kernel
theorem dX5_isType_19 : decode cX5_isType 19 = .ok (.iconst 1, 1) := by decide +kernel
theorem dX5_isType_20 : decode cX5_isType 20 = .ok (.goto 4, 3) := by decide +kernel
theorem dX5_isType_23 : decode cX5_isType 23 = .ok (.iconst 0, 1) := by decide +kernel
theorem dX5_isType_24 : decode cX5_isType 24 = .ok (.ireturn, 1) := by decide +kernel
theorem dX5_recordName_0 : decode cX5_recordName 0 = .ok (.iload_n 1, 1) := by decide +kernel
theorem dX5_recordName_1 : decode cX5_recordName 1 = .ok (.invokestatic 71, 3) := by decide +kernel
theorem dX5_recordName_4 : decode cX5_recordName 4 = .ok (.ifCond .eq 12, 3) := by decide +kernel
theorem dX5_recordName_7 : decode cX5_recordName 7 = .ok (.aload_n 0, 1) := by decide +kernel
theorem dX5_recordName_8 : decode cX5_recordName 8 = .ok (.getfield 28, 3) := by decide +kernel
theorem dX5_recordName_11 : decode cX5_recordName 11 = .ok (.iload_n 1, 1) := by decide +kernel
theorem dX5_recordName_12 : decode cX5_recordName 12 = .ok (.laload, 1) := by decide +kernel
theorem dX5_recordName_13 : decode cX5_recordName 13 = .ok (.goto 4, 3) := by decide +kernel
theorem dX5_recordName_16 : decode cX5_recordName 16 = .ok (.lconst 0, 1) := by decide +kernel
theorem dX5_recordName_17 : decode cX5_recordName 17 = .ok (.lreturn, 1) := by decide +kernel
theorem dX5_recordsOf_0 : decode cX5_recordsOf 0 = .ok (.iload_n 1, 1) := by decide +kernel
theorem dX5_recordsOf_1 : decode cX5_recordsOf 1 = .ok (.ifCond .lt 18, 3) := by decide +kernel
theorem dX5_recordsOf_4 : decode cX5_recordsOf 4 = .ok (.iload_n 1, 1) := by decide +kernel
theorem dX5_recordsOf_5 : decode cX5_recordsOf 5 = .ok (.bipush 6, 2) := by decide +kernel
theorem dX5_recordsOf_7 : decode cX5_recordsOf 7 = .ok (.if_icmp .ge 12, 3) := by decide +kernel
theorem dX5_recordsOf_10 : decode cX5_recordsOf 10 = .ok (.aload_n 0, 1) := by decide +kernel
theorem dX5_recordsOf_11 : decode cX5_recordsOf 11 = .ok (.getfield 18, 3) := by decide +kernel
theorem dX5_recordsOf_14 : decode cX5_recordsOf 14 = .ok (.iload_n 1, 1) := by decide +kernel
theorem dX5_recordsOf_15 : decode cX5_recordsOf 15 = .ok (.iaload, 1) := by decide +kernel
theorem dX5_recordsOf_16 : decode cX5_recordsOf 16 = .ok (.goto 4, 3) := by decide +kernel
theorem dX5_recordsOf_19 : decode cX5_recordsOf 19 = .ok (.iconst 0, 1) := by decide +kernel
theorem dX5_recordsOf_20 : decode cX5_recordsOf 20 = .ok (.ireturn, 1) := by decide +kernel
theorem dX5_rootType_0 : decode cX5_rootType 0 = .ok (.iload_n 1, 1) := by decide +kernel
theorem dX5_rootType_1 : decode cX5_rootType 1 = .ok (.ifCond .lt 18, 3) := by decide +kernel
theorem dX5_rootType_4 : decode cX5_rootType 4 = .ok (.iload_n 1, 1) := by decide +kernel
theorem dX5_rootType_5 : decode cX5_rootType 5 = .ok (.bipush 6, 2) := by decide +kernel
theorem dX5_rootType_7 : decode cX5_rootType 7 = .ok (.if_icmp .ge 12, 3) := by decide +kernel
theorem dX5_rootType_10 : decode cX5_rootType 10 = .ok (.aload_n 0, 1) := by decide +kernel
theorem dX5_rootType_11 : decode cX5_rootType 11 = .ok (.getfield 22, 3) := by decide +kernel
theorem dX5_rootType_14 : decode cX5_rootType 14 = .ok (.iload_n 1, 1) := by decide +kernel
theorem dX5_rootType_15 : decode cX5_rootType 15 = .ok (.iaload, 1) := by decide +kernel
theorem dX5_rootType_16 : decode cX5_rootType 16 = .ok (.goto 4, 3) := by decide +kernel
theorem dX5_rootType_19 : decode cX5_rootType 19 = .ok (.iconst (-1), 1) := by decide +kernel
theorem dX5_rootType_20 : decode cX5_rootType 20 = .ok (.ireturn, 1) := by decide +kernel
theorem dX5_sortOf_0 : decode cX5_sortOf 0 = .ok (.aload_n 0, 1) := by decide +kernel
theorem dX5_sortOf_1 : decode cX5_sortOf 1 = .ok (.iload_n 1, 1) := by decide +kernel
theorem dX5_sortOf_2 : decode cX5_sortOf 2 = .ok (.invokevirtual 79, 3) := by decide +kernel
theorem dX5_sortOf_5 : decode cX5_sortOf 5 = .ok (.ifCond .eq 12, 3) := by decide +kernel
theorem dX5_sortOf_8 : decode cX5_sortOf 8 = .ok (.aload_n 0, 1) := by decide +kernel
theorem dX5_sortOf_9 : decode cX5_sortOf 9 = .ok (.getfield 50, 3) := by decide +kernel
theorem dX5_sortOf_12 : decode cX5_sortOf 12 = .ok (.iload_n 1, 1) := by decide +kernel
theorem dX5_sortOf_13 : decode cX5_sortOf 13 = .ok (.iaload, 1) := by decide +kernel
theorem dX5_sortOf_14 : decode cX5_sortOf 14 = .ok (.goto 4, 3) := by decide +kernel
theorem dX5_sortOf_17 : decode cX5_sortOf 17 = .ok (.iconst (-1), 1) := by decide +kernel
theorem dX5_sortOf_18 : decode cX5_sortOf 18 = .ok (.ireturn, 1) := by decide +kernel
theorem dX5_typeOf_0 : decode cX5_typeOf 0 = .ok (.iload_n 1, 1) := by decide +kernel
theorem dX5_typeOf_1 : decode cX5_typeOf 1 = .ok (.iload_n 2, 1) := by decide +kernel
theorem dX5_typeOf_2 : decode cX5_typeOf 2 = .ok (.invokestatic 75, 3) := by decide +kernel
theorem dX5_typeOf_5 : decode cX5_typeOf 5 = .ok (.ifCond .eq 17, 3) := by decide +kernel
theorem dX5_typeOf_8 : decode cX5_typeOf 8 = .ok (.aload_n 0, 1) := by decide +kernel
theorem dX5_typeOf_9 : decode cX5_typeOf 9 = .ok (.getfield 44, 3) := by decide +kernel
theorem dX5_typeOf_12 : decode cX5_typeOf 12 = .ok (.iload_n 1, 1) := by decide +kernel
theorem dX5_typeOf_13 : decode cX5_typeOf 13 = .ok (.bipush 8, 2) := by decide +kernel
theorem dX5_typeOf_15 : decode cX5_typeOf 15 = .ok (.imul, 1) := by decide +kernel
theorem dX5_typeOf_16 : decode cX5_typeOf 16 = .ok (.iload_n 2, 1) := by decide +kernel
theorem dX5_typeOf_17 : decode cX5_typeOf 17 = .ok (.iadd, 1) := by decide +kernel
theorem dX5_typeOf_18 : decode cX5_typeOf 18 = .ok (.iaload, 1) := by decide +kernel
theorem dX5_typeOf_19 : decode cX5_typeOf 19 = .ok (.goto 4, 3) := by decide +kernel
theorem dX5_typeOf_22 : decode cX5_typeOf 22 = .ok (.iconst (-1), 1) := by decide +kernel
theorem dX5_typeOf_23 : decode cX5_typeOf 23 = .ok (.ireturn, 1) := by decide +kernel
set_option maxRecDepth 100000 in
set_option maxHeartbeats 4000000 in
theorem s_X4_takeReal_L {p : Program} {e : Env} {s : State} {m : MethodId} {below : List Frame} {meth : Method} {c : Code} (l : Launch) (dC : Nat → ClassId) (dI : Nat → Nat → Nat) (h0 : Nat) (ox4_0 : Nat) (ox4_1 : Nat) (ax1_1_0 : Nat) (cx1_1_0 : ClassId) (fx1_1_0 : Nat → Int32) (ax1_1_1 : Nat) (ax1_1_2 : Nat) (ox4_2 : Nat) (ox4_3 : Nat) (xx4_4 : Int32) (xx4_5 : Int32) (xx4_6 : Int32) (xx4_7 : Int32) (xx4_8 : Int32) (ax4_9 : Nat) (xx4_10 : Int32) (ax4_11 : Nat) (A : Nat → Prop) (hx : p.tables.exec = Jvm.exec) (hb : c.code = cX4_takeReal) (hr : meth.sig.returnType = (some .long)) (hml : c.maxLocals = 4) (hown : s.vm.findClass RX4 = some m.cls) (hts : ∀ w ∈ pw, w.before (([.ref h0] : List Value).toArray) s = true) (hlocks : meth.locks = false) (hA : ∀ q : Nat, s.heap.size ≤ q → A q) (hN : nN s) (hK : va_K (dC, dI) vwCl [(cx1_1_0, .byte)] s) : ∀ (n : Nat) (v3 : Int32) (v1 : Int64) (w5_h0 : Int32) (w7_h0 : Int32) (w8_h0 : Int32) (w10_h0 : Int32) (H : Heap) (locs : List Loc) (ls : Array Slot), (8 - v3.toInt).toNat < n → 0 ≤ v3.toInt ∧ v3.toInt ≤ 8 → va_P (dC, dI) vwCl [(h0, .inr (4, [.ref ox4_0, .ref ox4_1, .ref ox4_2, .ref ox4_3, .int xx4_4, .int w5_h0, .int xx4_6, .int w7_h0, .int w8_h0, .ref ax4_9, .int w10_h0, .ref ax4_11])), (ox4_1, .inr (1, [.ref ax1_1_0, .ref ax1_1_1, .ref ax1_1_2])), (ax1_1_0, .inl (cx1_1_0, 1600, .inl fx1_1_0))] H → va_D A [(h0, .inr (4, [.ref ox4_0, .ref ox4_1, .ref ox4_2, .ref ox4_3, .int xx4_4, .int w5_h0, .int xx4_6, .int w7_h0, .int w8_h0, .ref ax4_9, .int w10_h0, .ref ax4_11])), (ox4_1, .inr (1, [.ref ax1_1_0, .ref ax1_1_1, .ref ax1_1_2])), (ax1_1_0, .inl (cx1_1_0, 1600, .inl fx1_1_0))] → va_S A s.heap H locs → lv_has ls 4 [(3, .int v3), (1, .long v1), (0, .ref h0)] → W p l e ({ frames := 2, cells := 0, slots := 0, locals := 44 } : Room) s m (([.ref h0] : List Value).toArray) below meth c H locs 0 0 (MQ below (va_Ql (fun (r : Int64) (_ : Unit) => True) (fun (_ : Unit) t => ∃ (y0_5 : Int32), ∃ (y0_7 : Int32), ∃ (y0_8 : Int32), ∃ (y0_10 : Int32), vPst dC dI A [(h0, .inr (4, [.ref ox4_0, .ref ox4_1, .ref ox4_2, .ref ox4_3, .int xx4_4, .int y0_5, .int xx4_6, .int y0_7, .int y0_8, .ref ax4_9, .int y0_10, .ref ax4_11])), (ox4_1, .inr (1, [.ref ax1_1_0, .ref ax1_1_1, .ref ax1_1_2])), (ax1_1_0, .inl (cx1_1_0, 1600, .inl fx1_1_0))] [(cx1_1_0, .byte)] t) A) (([.ref h0] : List Value).toArray) s 0 0 A) (F0 m 4 ls []) := by
  intro n
  induction n with
  | zero =>
    intro v3 v1 w5_h0 w7_h0 w8_h0 w10_h0 H locs ls hn
    exact absurd hn (Nat.not_lt_zero _)
  | succ n ih =>
    intro v3 v1 w5_h0 w7_h0 w8_h0 w10_h0 H locs ls hn hb_3 hP hD hS hl
    refine lv_iload_n hx hb dX4_takeReal_4 rfl (lv_at hl 0 rfl) ?_
    refine lv_bipush (v := 8) hx hb dX4_takeReal_5 (by decide) ?_
    refine lv_icmp_ge (tgt := 27) hx hb dX4_takeReal_7 (by decide) (fun c_101 => ?_) (fun c_101 => ?_)
    · refine lv_lload_n hx hb dX4_takeReal_27 rfl (lv_at hl 1 rfl) ?_
      refine lv_ldc2 (v := 9223372036854775807) hx hb hown (hts (.constantLong RX4 220 (9223372036854775807)) mw_14_8) dX4_takeReal_28 ?_
      refine lv_land hx hb dX4_takeReal_31 ?_
      refine lv_topl (fun x_102 ex_102 => ?_)
      refine lv_ldc2 (v := 9218868437227405312) hx hb hown (hts (.constantLong RX4 222 (9218868437227405312)) mw_14_9) dX4_takeReal_32 ?_
      refine W.lcmp hx hb dX4_takeReal_35 ?_
      refine lv_topi (fun x_103 ex_103 => ?_)
      refine lv_if_le (tgt := 43) hx hb dX4_takeReal_36 (by decide) (fun c_104 => ?_) (fun c_104 => ?_)
      · refine lv_iconst (v := 0) hx hb dX4_takeReal_43 (by decide) ?_
        refine lv_istore_n (lv' := [(3, .int 0), (1, .long v1), (0, .ref h0)]) hx hb dX4_takeReal_44 rfl hl (by decide) rfl (fun ls hl => ?_)
        refine lv_iload_n hx hb dX4_takeReal_45 rfl (lv_at hl 0 rfl) ?_
        refine lv_if_eq (tgt := 55) hx hb dX4_takeReal_46 (by decide) (fun _ => ?_) (fun h => absurd (by decide) h)
        refine lv_lload_n hx hb dX4_takeReal_55 rfl (lv_at hl 1 rfl) ?_
        have hP9 := hP.sub (ws' := [(h0, .inr (4, [.ref ox4_0, .ref ox4_1, .ref ox4_2, .ref ox4_3, .int xx4_4, .int w5_h0, .int xx4_6, .int w7_h0, .int w8_h0, .ref ax4_9, .int w10_h0, .ref ax4_11])), (ox4_1, .inr (1, [.ref ax1_1_0, .ref ax1_1_1, .ref ax1_1_2])), (ax1_1_0, .inl (cx1_1_0, 1600, .inl fx1_1_0))]) [0, 1, 2] rfl
        have hD9 := hD.sub (ws' := [(h0, .inr (4, [.ref ox4_0, .ref ox4_1, .ref ox4_2, .ref ox4_3, .int xx4_4, .int w5_h0, .int xx4_6, .int w7_h0, .int w8_h0, .ref ax4_9, .int w10_h0, .ref ax4_11])), (ox4_1, .inr (1, [.ref ax1_1_0, .ref ax1_1_1, .ref ax1_1_2])), (ax1_1_0, .inl (cx1_1_0, 1600, .inl fx1_1_0))]) [0, 1, 2] (by decide) rfl
        have hK9 := hK.sub (tys' := [(cx1_1_0, .byte)]) [0] rfl
        refine W.widen (k := 0) (n := 0) (Nat.le_of_ble_eq_true rfl) (Nat.le_of_ble_eq_true rfl) ?_
        exact W.lret (v := v1) hx hb hr (fun t ht hW => ⟨⟨v1, (), rfl, trivial, w5_h0, w7_h0, w8_h0, w10_h0, by rw [ht]; exact hP9, va_K.moved hW.alike hK9, hD9⟩, hS.F ht⟩) hS.2.2 dX4_takeReal_56
      · refine lv_iconst (v := 1) hx hb dX4_takeReal_39 (by decide) ?_
        refine lv_goto (tgt := 44) hx hb dX4_takeReal_40 (by decide) ?_
        refine lv_istore_n (lv' := [(3, .int 1), (1, .long v1), (0, .ref h0)]) hx hb dX4_takeReal_44 rfl hl (by decide) rfl (fun ls hl => ?_)
        refine lv_iload_n hx hb dX4_takeReal_45 rfl (lv_at hl 0 rfl) ?_
        refine lv_if_eq (tgt := 55) hx hb dX4_takeReal_46 (by decide) (fun h => absurd h (by decide)) (fun _ => ?_)
        refine lv_ldc2 (v := 9221120237041090560) hx hb hown (hts (.constantLong RX4 224 (9221120237041090560)) mw_14_10) dX4_takeReal_49 ?_
        refine lv_goto (tgt := 56) hx hb dX4_takeReal_52 (by decide) ?_
        have hP9 := hP.sub (ws' := [(h0, .inr (4, [.ref ox4_0, .ref ox4_1, .ref ox4_2, .ref ox4_3, .int xx4_4, .int w5_h0, .int xx4_6, .int w7_h0, .int w8_h0, .ref ax4_9, .int w10_h0, .ref ax4_11])), (ox4_1, .inr (1, [.ref ax1_1_0, .ref ax1_1_1, .ref ax1_1_2])), (ax1_1_0, .inl (cx1_1_0, 1600, .inl fx1_1_0))]) [0, 1, 2] rfl
        have hD9 := hD.sub (ws' := [(h0, .inr (4, [.ref ox4_0, .ref ox4_1, .ref ox4_2, .ref ox4_3, .int xx4_4, .int w5_h0, .int xx4_6, .int w7_h0, .int w8_h0, .ref ax4_9, .int w10_h0, .ref ax4_11])), (ox4_1, .inr (1, [.ref ax1_1_0, .ref ax1_1_1, .ref ax1_1_2])), (ax1_1_0, .inl (cx1_1_0, 1600, .inl fx1_1_0))]) [0, 1, 2] (by decide) rfl
        have hK9 := hK.sub (tys' := [(cx1_1_0, .byte)]) [0] rfl
        refine W.widen (k := 0) (n := 0) (Nat.le_of_ble_eq_true rfl) (Nat.le_of_ble_eq_true rfl) ?_
        exact W.lret (v := 9221120237041090560) hx hb hr (fun t ht hW => ⟨⟨9221120237041090560, (), rfl, trivial, w5_h0, w7_h0, w8_h0, w10_h0, by rw [ht]; exact hP9, va_K.moved hW.alike hK9, hD9⟩, hS.F ht⟩) hS.2.2 dX4_takeReal_56
    · refine lv_lload_n hx hb dX4_takeReal_10 rfl (lv_at hl 1 rfl) ?_
      refine lv_bipush (v := 8) hx hb dX4_takeReal_11 (by decide) ?_
      refine lv_lshl (v := _) hx hb dX4_takeReal_13 rfl ?_
      refine lv_topl (fun x_107 ex_107 => ?_)
      refine lv_aload_n hx hb dX4_takeReal_14 rfl (lv_at hl 2 rfl) ?_
      have hPc := hP.sub (ws' := [(h0, .inr (4, [.ref ox4_0, .ref ox4_1, .ref ox4_2, .ref ox4_3, .int xx4_4, .int w5_h0, .int xx4_6, .int w7_h0, .int w8_h0, .ref ax4_9, .int w10_h0, .ref ax4_11])), (ox4_1, .inr (1, [.ref ax1_1_0, .ref ax1_1_1, .ref ax1_1_2])), (ax1_1_0, .inl (cx1_1_0, 1600, .inl fx1_1_0))]) [0, 1, 2] rfl
      have hDc := hD.sub (ws' := [(h0, .inr (4, [.ref ox4_0, .ref ox4_1, .ref ox4_2, .ref ox4_3, .int xx4_4, .int w5_h0, .int xx4_6, .int w7_h0, .int w8_h0, .ref ax4_9, .int w10_h0, .ref ax4_11])), (ox4_1, .inr (1, [.ref ax1_1_0, .ref ax1_1_1, .ref ax1_1_2])), (ax1_1_0, .inl (cx1_1_0, 1600, .inl fx1_1_0))]) [0, 1, 2] (by decide) rfl
      have hKc := hK.sub (tys' := [(cx1_1_0, .byte)]) [0] rfl
      have hFc := va_free (wc := [(h0, .inr (4, [.ref ox4_0, .ref ox4_1, .ref ox4_2, .ref ox4_3, .int xx4_4, .int w5_h0, .int xx4_6, .int w7_h0, .int w8_h0, .ref ax4_9, .int w10_h0, .ref ax4_11])), (ox4_1, .inr (1, [.ref ax1_1_0, .ref ax1_1_1, .ref ax1_1_2])), (ax1_1_0, .inl (cx1_1_0, 1600, .inl fx1_1_0))]) hD hS hA [0, 1, 2] rfl
      refine va_calli (va_runV (As := []) (rest := [.long x_107]) ⟨hx, hb, hml, hown, hts⟩ (s_X4_takeByte l dC dI h0 ox4_0 ox4_1 ax1_1_0 cx1_1_0 fx1_1_0 ax1_1_1 ax1_1_2 ox4_2 ox4_3 xx4_4 w5_h0 xx4_6 w7_h0 w8_h0 ax4_9 w10_h0 ax4_11 H.size) (cwV 0 hts (gV mw_13_23 mw_13_24 mw_13_25 mw_0_8 mw_48_16) rfl rfl rfl (by decide +kernel) ⟨(Nat.le_of_ble_eq_true rfl), (Nat.le_of_ble_eq_true rfl)⟩) (vV (ci := 4) (q0 := 0) hKc hPc hDc hN rfl rfl) rfl rfl hl.1 rfl (lv_room (Nat.le_of_ble_eq_true rfl)) dX4_takeReal_15 ⟨(Nat.le_of_ble_eq_true rfl), (Nat.le_of_ble_eq_true rfl)⟩) hS (fun q _ h => hFc q h) hFc (fun r_108 u t H1 locs ht hvm hw hB hz1 hk1 hS => ?_)
      obtain ⟨y0_5_109, y0_7_110, y0_8_111, y0_10_112, hP1, hK1, hD1⟩ := hB
      rw [ht] at hP1
      have hK1 := va_K.moved hvm.symm hK1
      obtain ⟨hP, hD⟩ := va_join (wr := []) (w1 := [(h0, .inr (4, [.ref ox4_0, .ref ox4_1, .ref ox4_2, .ref ox4_3, .int xx4_4, .int y0_5_109, .int xx4_6, .int y0_7_110, .int y0_8_111, .ref ax4_9, .int y0_10_112, .ref ax4_11])), (ox4_1, .inr (1, [.ref ax1_1_0, .ref ax1_1_1, .ref ax1_1_2])), (ax1_1_0, .inl (cx1_1_0, 1600, .inl fx1_1_0))]) hP hD [0, 1, 2] [] rfl rfl (by decide) (by decide) hk1 hFc hP1 hD1
      clear hPc hDc hKc hP1 hK1 hD1 hFc hk1 hz1
      generalize H1 = H at hP hS ⊢
      have hP : va_P (dC, dI) vwCl [(h0, .inr (4, [.ref ox4_0, .ref ox4_1, .ref ox4_2, .ref ox4_3, .int xx4_4, .int y0_5_109, .int xx4_6, .int y0_7_110, .int y0_8_111, .ref ax4_9, .int y0_10_112, .ref ax4_11])), (ox4_1, .inr (1, [.ref ax1_1_0, .ref ax1_1_1, .ref ax1_1_2])), (ax1_1_0, .inl (cx1_1_0, 1600, .inl fx1_1_0))] H := hP
      have hD : va_D A [(h0, .inr (4, [.ref ox4_0, .ref ox4_1, .ref ox4_2, .ref ox4_3, .int xx4_4, .int y0_5_109, .int xx4_6, .int y0_7_110, .int y0_8_111, .ref ax4_9, .int y0_10_112, .ref ax4_11])), (ox4_1, .inr (1, [.ref ax1_1_0, .ref ax1_1_1, .ref ax1_1_2])), (ax1_1_0, .inl (cx1_1_0, 1600, .inl fx1_1_0))] := hD
      rcases hw with ⟨q_115, g_113, g_114⟩ | rfl
      · refine lv_i2l (v := r_108.toInt64) hx hb dX4_takeReal_18 rfl ?_
        refine lv_lor hx hb dX4_takeReal_19 ?_
        refine lv_topl (fun x_116 ex_116 => ?_)
        refine lv_lstore_n (lv' := [(1, .long x_116), (3, .int v3), (0, .ref h0)]) hx hb dX4_takeReal_20 rfl hl (by decide) rfl (fun ls hl => ?_)
        obtain ⟨x_117, ex_117⟩ : ∃ y : Int32, y = v3 + Int32.ofInt 1 := ⟨_, rfl⟩
        have bx_117 : (1 : Int) ≤ x_117.toInt ∧ x_117.toInt ≤ (8 : Int) := by have r0 := il_rng v3; have a0 := hb_3.1; have a1 := hb_3.2; have a2 := il_nle c_101; have e0 : (8 : Int32).toInt = 8 := (by decide); have k9 : (Int32.ofInt 1).toInt = (1 : Int) := (by decide); rw [ex_117, il_addE (by rw [k9]; omega) (by rw [k9]; omega), k9]; omega
        refine lv_iinc (v := x_117) (lv' := [(3, .int x_117), (1, .long x_116), (0, .ref h0)]) hx hb dX4_takeReal_21 hl (k := 1) rfl ex_117.symm (by decide) rfl (fun ls hl => ?_)
        refine lv_goto (tgt := 4) hx hb dX4_takeReal_24 (by decide) ?_
        exact ih x_117 x_116 y0_5_109 y0_7_110 y0_8_111 y0_10_112 _ _ _ (by have a0 := bx_117.1; have a1 := bx_117.2; have a2 := hb_3.1; have a3 := hb_3.2; have a4 := il_nle c_101; have e0 : (8 : Int32).toInt = 8 := (by decide); have r8 := il_rng v3; have m9 : x_117.toInt = v3.toInt + (1) := (by rw [ex_117]; have k9 : (Int32.ofInt (1)).toInt = (1) := (by decide); rw [il_addE (by rw [k9]; omega) (by rw [k9]; omega), k9]); omega) (by have a0 := bx_117.1; have a1 := bx_117.2; omega) (hP.sub [0, 1, 2] rfl) (hD.sub [0, 1, 2] (by decide) rfl) hS (lv_sub hl [0, 1, 2] rfl)
      · refine lv_i2l (v := 0) hx hb dX4_takeReal_18 (by decide) ?_
        refine lv_lor hx hb dX4_takeReal_19 ?_
        refine lv_topl (fun x_118 ex_118 => ?_)
        refine lv_lstore_n (lv' := [(1, .long x_118), (3, .int v3), (0, .ref h0)]) hx hb dX4_takeReal_20 rfl hl (by decide) rfl (fun ls hl => ?_)
        obtain ⟨x_119, ex_119⟩ : ∃ y : Int32, y = v3 + Int32.ofInt 1 := ⟨_, rfl⟩
        have bx_119 : (1 : Int) ≤ x_119.toInt ∧ x_119.toInt ≤ (8 : Int) := by have r0 := il_rng v3; have a0 := hb_3.1; have a1 := hb_3.2; have a2 := il_nle c_101; have e0 : (8 : Int32).toInt = 8 := (by decide); have k9 : (Int32.ofInt 1).toInt = (1 : Int) := (by decide); rw [ex_119, il_addE (by rw [k9]; omega) (by rw [k9]; omega), k9]; omega
        refine lv_iinc (v := x_119) (lv' := [(3, .int x_119), (1, .long x_118), (0, .ref h0)]) hx hb dX4_takeReal_21 hl (k := 1) rfl ex_119.symm (by decide) rfl (fun ls hl => ?_)
        refine lv_goto (tgt := 4) hx hb dX4_takeReal_24 (by decide) ?_
        exact ih x_119 x_118 y0_5_109 y0_7_110 y0_8_111 y0_10_112 _ _ _ (by have a0 := bx_119.1; have a1 := bx_119.2; have a2 := hb_3.1; have a3 := hb_3.2; have a4 := il_nle c_101; have e0 : (8 : Int32).toInt = 8 := (by decide); have r8 := il_rng v3; have m9 : x_119.toInt = v3.toInt + (1) := (by rw [ex_119]; have k9 : (Int32.ofInt (1)).toInt = (1) := (by decide); rw [il_addE (by rw [k9]; omega) (by rw [k9]; omega), k9]); omega) (by have a0 := bx_119.1; have a1 := bx_119.2; omega) (hP.sub [0, 1, 2] rfl) (hD.sub [0, 1, 2] (by decide) rfl) hS (lv_sub hl [0, 1, 2] rfl)
set_option maxRecDepth 100000 in
set_option maxHeartbeats 4000000 in
theorem s_X4_takeReal (l : Launch) (dC : Nat → ClassId) (dI : Nat → Nat → Nat) (h0 : Nat) (ox4_0 : Nat) (ox4_1 : Nat) (ax1_1_0 : Nat) (cx1_1_0 : ClassId) (fx1_1_0 : Nat → Int32) (ax1_1_1 : Nat) (ax1_1_2 : Nat) (ox4_2 : Nat) (ox4_3 : Nat) (xx4_4 : Int32) (xx4_5 : Int32) (xx4_6 : Int32) (xx4_7 : Int32) (xx4_8 : Int32) (ax4_9 : Nat) (xx4_10 : Int32) (ax4_11 : Nat) (sz : Nat) : Met l yX4_takeReal (.code yX4_takeReal cX4_takeReal 4 (some .long) :: pw) ({ frames := 2, cells := 0, slots := 0, locals := 44 }) (va_Pc [.ref h0] (vPre dC dI [(h0, .inr (4, [.ref ox4_0, .ref ox4_1, .ref ox4_2, .ref ox4_3, .int xx4_4, .int xx4_5, .int xx4_6, .int xx4_7, .int xx4_8, .ref ax4_9, .int xx4_10, .ref ax4_11])), (ox4_1, .inr (1, [.ref ax1_1_0, .ref ax1_1_1, .ref ax1_1_2])), (ax1_1_0, .inl (cx1_1_0, 1600, .inl fx1_1_0))] [(cx1_1_0, .byte)] sz)) (va_Ql (fun (r : Int64) (_ : Unit) => True) (fun (_ : Unit) t => ∃ (y0_5 : Int32), ∃ (y0_7 : Int32), ∃ (y0_8 : Int32), ∃ (y0_10 : Int32), vPst dC dI (va_A [(h0, .inr (4, [.ref ox4_0, .ref ox4_1, .ref ox4_2, .ref ox4_3, .int xx4_4, .int xx4_5, .int xx4_6, .int xx4_7, .int xx4_8, .ref ax4_9, .int xx4_10, .ref ax4_11])), (ox4_1, .inr (1, [.ref ax1_1_0, .ref ax1_1_1, .ref ax1_1_2])), (ax1_1_0, .inl (cx1_1_0, 1600, .inl fx1_1_0))] sz) [(h0, .inr (4, [.ref ox4_0, .ref ox4_1, .ref ox4_2, .ref ox4_3, .int xx4_4, .int y0_5, .int xx4_6, .int y0_7, .int y0_8, .ref ax4_9, .int y0_10, .ref ax4_11])), (ox4_1, .inr (1, [.ref ax1_1_0, .ref ax1_1_1, .ref ax1_1_2])), (ax1_1_0, .inl (cx1_1_0, 1600, .inl fx1_1_0))] [(cx1_1_0, .byte)] t) (va_A [(h0, .inr (4, [.ref ox4_0, .ref ox4_1, .ref ox4_2, .ref ox4_3, .int xx4_4, .int xx4_5, .int xx4_6, .int xx4_7, .int xx4_8, .ref ax4_9, .int xx4_10, .ref ax4_11])), (ox4_1, .inr (1, [.ref ax1_1_0, .ref ax1_1_1, .ref ax1_1_2])), (ax1_1_0, .inl (cx1_1_0, 1600, .inl fx1_1_0))] sz)) 0 0 (va_A [(h0, .inr (4, [.ref ox4_0, .ref ox4_1, .ref ox4_2, .ref ox4_3, .int xx4_4, .int xx4_5, .int xx4_6, .int xx4_7, .int xx4_8, .ref ax4_9, .int xx4_10, .ref ax4_11])), (ox4_1, .inr (1, [.ref ax1_1_0, .ref ax1_1_1, .ref ax1_1_2])), (ax1_1_0, .inl (cx1_1_0, 1600, .inl fx1_1_0))] sz) := by
  refine Met.ofW (cc := cX4_takeReal) (maxL := 4) (ret := (some .long)) (by decide) rfl ?_
  intro p e s m args below meth c s₁ B hml hv
  obtain ⟨rfl, hsz, hP, hK, hD0, hN⟩ := hv
  have hx := B.exec
  have hb := B.bytes
  have hr := B.returns
  have hts := atoms_spec (ws := .code yX4_takeReal cX4_takeReal 4 (some .long) :: pw) B.pre
  have hts : ∀ w ∈ pw, w.before _ s = true := fun w h => hts w (List.mem_cons_of_mem _ h)
  have hown : s.vm.findClass RX4 = some m.cls := findClass_of_methodNamed B.named
  have hlocks := B.notSynchronized
  subst hsz
  have hD := hD0.self (sz := s.heap.size)
  generalize hAe : va_A [(h0, .inr (4, [.ref ox4_0, .ref ox4_1, .ref ox4_2, .ref ox4_3, .int xx4_4, .int xx4_5, .int xx4_6, .int xx4_7, .int xx4_8, .ref ax4_9, .int xx4_10, .ref ax4_11])), (ox4_1, .inr (1, [.ref ax1_1_0, .ref ax1_1_1, .ref ax1_1_2])), (ax1_1_0, .inl (cx1_1_0, 1600, .inl fx1_1_0))] s.heap.size = A at hD ⊢
  have hA : ∀ q : Nat, s.heap.size ≤ q → A q := fun q h => by rw [← hAe]; exact Or.inr h
  have hS : va_S A s.heap s.heap [] := va_S.rf
  have hP : va_P (dC, dI) vwCl [(h0, .inr (4, [.ref ox4_0, .ref ox4_1, .ref ox4_2, .ref ox4_3, .int xx4_4, .int xx4_5, .int xx4_6, .int xx4_7, .int xx4_8, .ref ax4_9, .int xx4_10, .ref ax4_11])), (ox4_1, .inr (1, [.ref ax1_1_0, .ref ax1_1_1, .ref ax1_1_2])), (ax1_1_0, .inl (cx1_1_0, 1600, .inl fx1_1_0))] s.heap := hP
  have hl := lv_entry ([.ref h0]) (n := 4) (Nat.le_of_ble_eq_true rfl)
  rw [lg_entry_eq]
  generalize (lg_sl ([.ref h0]) ++ List.replicate (4 - (lg_sl ([.ref h0])).length) Slot.unset).toArray = ls at hl ⊢
  have hl : lv_has ls 4 [(0, .ref h0)] := hl
  refine lv_lconst (v := 0) hx hb dX4_takeReal_0 (by decide) ?_
  refine lv_lstore_n (lv' := [(1, .long 0), (0, .ref h0)]) hx hb dX4_takeReal_1 rfl hl (by decide) rfl (fun ls hl => ?_)
  refine lv_iconst (v := 0) hx hb dX4_takeReal_2 (by decide) ?_
  refine lv_istore_n (lv' := [(3, .int 0), (1, .long 0), (0, .ref h0)]) hx hb dX4_takeReal_3 rfl hl (by decide) rfl (fun ls hl => ?_)
  exact s_X4_takeReal_L l dC dI h0 ox4_0 ox4_1 ax1_1_0 cx1_1_0 fx1_1_0 ax1_1_1 ax1_1_2 ox4_2 ox4_3 xx4_4 xx4_5 xx4_6 xx4_7 xx4_8 ax4_9 xx4_10 ax4_11 A hx hb hr hml hown hts hlocks hA hN (hK.sub [0] rfl) _ (0 : Int32) (0 : Int64) xx4_5 xx4_7 xx4_8 xx4_10 _ _ _ (Nat.lt_succ_self _) ⟨by decide, by decide⟩ (hP.sub [0, 1, 2] rfl) (hD.sub [0, 1, 2] (by decide) rfl) hS (lv_sub hl [0, 1, 2] rfl)

set_option maxRecDepth 100000 in
set_option maxHeartbeats 4000000 in
theorem s_X5_clear (l : Launch) (dC : Nat → ClassId) (dI : Nat → Nat → Nat) (h0 : Nat) (xx5_0 : Int32) (xx5_1 : Int32) (ax5_2 : Nat) (ax5_3 : Nat) (ax5_4 : Nat) (ax5_5 : Nat) (ax5_6 : Nat) (ax5_7 : Nat) (ax5_8 : Nat) (ax5_9 : Nat) (ax5_10 : Nat) (ax5_11 : Nat) (ax5_12 : Nat) (ax5_13 : Nat) (ax5_14 : Nat) (ax5_15 : Nat) (ax5_16 : Nat) (hi_xx5_0 : (0 : Int) ≤ xx5_0.toInt ∧ xx5_0.toInt ≤ (6 : Int)) (hi_xx5_1 : (0 : Int) ≤ xx5_1.toInt ∧ xx5_1.toInt ≤ (262 : Int)) (sz : Nat) : Met l yX5_clear (.code yX5_clear cX5_clear 1 none :: pw) ({ frames := 0, cells := 0, slots := 0, locals := 0 }) (va_Pc [.ref h0] (vPre dC dI [(h0, .inr (5, [.int xx5_0, .int xx5_1, .ref ax5_2, .ref ax5_3, .ref ax5_4, .ref ax5_5, .ref ax5_6, .ref ax5_7, .ref ax5_8, .ref ax5_9, .ref ax5_10, .ref ax5_11, .ref ax5_12, .ref ax5_13, .ref ax5_14, .ref ax5_15, .ref ax5_16]))] [] sz)) (va_Qv (fun (_ : Unit) => True) (fun (_ : Unit) t => vPst dC dI (va_A [(h0, .inr (5, [.int xx5_0, .int xx5_1, .ref ax5_2, .ref ax5_3, .ref ax5_4, .ref ax5_5, .ref ax5_6, .ref ax5_7, .ref ax5_8, .ref ax5_9, .ref ax5_10, .ref ax5_11, .ref ax5_12, .ref ax5_13, .ref ax5_14, .ref ax5_15, .ref ax5_16]))] sz) [(h0, .inr (5, [.int 0, .int 0, .ref ax5_2, .ref ax5_3, .ref ax5_4, .ref ax5_5, .ref ax5_6, .ref ax5_7, .ref ax5_8, .ref ax5_9, .ref ax5_10, .ref ax5_11, .ref ax5_12, .ref ax5_13, .ref ax5_14, .ref ax5_15, .ref ax5_16]))] [] t) (va_A [(h0, .inr (5, [.int xx5_0, .int xx5_1, .ref ax5_2, .ref ax5_3, .ref ax5_4, .ref ax5_5, .ref ax5_6, .ref ax5_7, .ref ax5_8, .ref ax5_9, .ref ax5_10, .ref ax5_11, .ref ax5_12, .ref ax5_13, .ref ax5_14, .ref ax5_15, .ref ax5_16]))] sz)) 0 0 (va_A [(h0, .inr (5, [.int xx5_0, .int xx5_1, .ref ax5_2, .ref ax5_3, .ref ax5_4, .ref ax5_5, .ref ax5_6, .ref ax5_7, .ref ax5_8, .ref ax5_9, .ref ax5_10, .ref ax5_11, .ref ax5_12, .ref ax5_13, .ref ax5_14, .ref ax5_15, .ref ax5_16]))] sz) := by
  refine Met.ofW (cc := cX5_clear) (maxL := 1) (ret := none) (by decide) rfl ?_
  intro p e s m args below meth c s₁ B hml hv
  obtain ⟨rfl, hsz, hP, hK, hD0, hN⟩ := hv
  have hx := B.exec
  have hb := B.bytes
  have hr := B.returns
  have hts := atoms_spec (ws := .code yX5_clear cX5_clear 1 none :: pw) B.pre
  have hts : ∀ w ∈ pw, w.before _ s = true := fun w h => hts w (List.mem_cons_of_mem _ h)
  have hown : s.vm.findClass RX5 = some m.cls := findClass_of_methodNamed B.named
  have hlocks := B.notSynchronized
  subst hsz
  have hD := hD0.self (sz := s.heap.size)
  generalize hAe : va_A [(h0, .inr (5, [.int xx5_0, .int xx5_1, .ref ax5_2, .ref ax5_3, .ref ax5_4, .ref ax5_5, .ref ax5_6, .ref ax5_7, .ref ax5_8, .ref ax5_9, .ref ax5_10, .ref ax5_11, .ref ax5_12, .ref ax5_13, .ref ax5_14, .ref ax5_15, .ref ax5_16]))] s.heap.size = A at hD ⊢
  have hA : ∀ q : Nat, s.heap.size ≤ q → A q := fun q h => by rw [← hAe]; exact Or.inr h
  have hS : va_S A s.heap s.heap [] := va_S.rf
  have hP : va_P (dC, dI) vwCl [(h0, .inr (5, [.int xx5_0, .int xx5_1, .ref ax5_2, .ref ax5_3, .ref ax5_4, .ref ax5_5, .ref ax5_6, .ref ax5_7, .ref ax5_8, .ref ax5_9, .ref ax5_10, .ref ax5_11, .ref ax5_12, .ref ax5_13, .ref ax5_14, .ref ax5_15, .ref ax5_16]))] s.heap := hP
  have hl := lv_entry ([.ref h0]) (n := 1) (Nat.le_of_ble_eq_true rfl)
  rw [lg_entry_eq]
  generalize (lg_sl ([.ref h0]) ++ List.replicate (1 - (lg_sl ([.ref h0])).length) Slot.unset).toArray = ls at hl ⊢
  have hl : lv_has ls 1 [(0, .ref h0)] := hl
  refine lv_aload_n hx hb dX5_clear_0 rfl (lv_at hl 0 rfl) ?_
  refine lv_iconst (v := 0) hx hb dX5_clear_1 (by decide) ?_
  refine va_put (D := (dC, dI)) (ci := 5) (v := .int 0) (ty := .int) (C := RX5) (T := TX5) (N := 17) hx hb hts inlX5 tyX5 tyX5_ok nmX5 hown hK hP hD hS 0 rfl rfl 0 (by decide) (hts (.fieldLink RX5 9 "ShapeReader$Shapes" "planCount" "I") mw_14_12) (fun _ h9 => h9) rfl (by decide +kernel) rfl rfl (Nat.le_of_ble_eq_true rfl) dX5_clear_2 (fun H locs hP hD hS => ?_)
  have hP : va_P (dC, dI) vwCl [(h0, .inr (5, [.int 0, .int xx5_1, .ref ax5_2, .ref ax5_3, .ref ax5_4, .ref ax5_5, .ref ax5_6, .ref ax5_7, .ref ax5_8, .ref ax5_9, .ref ax5_10, .ref ax5_11, .ref ax5_12, .ref ax5_13, .ref ax5_14, .ref ax5_15, .ref ax5_16]))] H := hP
  have hD : va_D A [(h0, .inr (5, [.int 0, .int xx5_1, .ref ax5_2, .ref ax5_3, .ref ax5_4, .ref ax5_5, .ref ax5_6, .ref ax5_7, .ref ax5_8, .ref ax5_9, .ref ax5_10, .ref ax5_11, .ref ax5_12, .ref ax5_13, .ref ax5_14, .ref ax5_15, .ref ax5_16]))] := hD
  refine lv_aload_n hx hb dX5_clear_5 rfl (lv_at hl 0 rfl) ?_
  refine lv_iconst (v := 0) hx hb dX5_clear_6 (by decide) ?_
  refine va_put (D := (dC, dI)) (ci := 5) (v := .int 0) (ty := .int) (C := RX5) (T := TX5) (N := 17) hx hb hts inlX5 tyX5 tyX5_ok nmX5 hown hK hP hD hS 0 rfl rfl 1 (by decide) (hts (.fieldLink RX5 15 "ShapeReader$Shapes" "typeCount" "I") mw_14_13) (fun _ h9 => h9) rfl (by decide +kernel) rfl rfl (Nat.le_of_ble_eq_true rfl) dX5_clear_7 (fun H locs hP hD hS => ?_)
  have hP : va_P (dC, dI) vwCl [(h0, .inr (5, [.int 0, .int 0, .ref ax5_2, .ref ax5_3, .ref ax5_4, .ref ax5_5, .ref ax5_6, .ref ax5_7, .ref ax5_8, .ref ax5_9, .ref ax5_10, .ref ax5_11, .ref ax5_12, .ref ax5_13, .ref ax5_14, .ref ax5_15, .ref ax5_16]))] H := hP
  have hD : va_D A [(h0, .inr (5, [.int 0, .int 0, .ref ax5_2, .ref ax5_3, .ref ax5_4, .ref ax5_5, .ref ax5_6, .ref ax5_7, .ref ax5_8, .ref ax5_9, .ref ax5_10, .ref ax5_11, .ref ax5_12, .ref ax5_13, .ref ax5_14, .ref ax5_15, .ref ax5_16]))] := hD
  have hP9 := hP.sub (ws' := [(h0, .inr (5, [.int 0, .int 0, .ref ax5_2, .ref ax5_3, .ref ax5_4, .ref ax5_5, .ref ax5_6, .ref ax5_7, .ref ax5_8, .ref ax5_9, .ref ax5_10, .ref ax5_11, .ref ax5_12, .ref ax5_13, .ref ax5_14, .ref ax5_15, .ref ax5_16]))]) [0] rfl
  have hD9 := hD.sub (ws' := [(h0, .inr (5, [.int 0, .int 0, .ref ax5_2, .ref ax5_3, .ref ax5_4, .ref ax5_5, .ref ax5_6, .ref ax5_7, .ref ax5_8, .ref ax5_9, .ref ax5_10, .ref ax5_11, .ref ax5_12, .ref ax5_13, .ref ax5_14, .ref ax5_15, .ref ax5_16]))]) [0] (by decide) rfl
  have hK9 := hK.sub (tys' := []) [] rfl
  refine W.widen (k := 0) (n := 0) (Nat.le_of_ble_eq_true rfl) (Nat.le_of_ble_eq_true rfl) ?_
  exact W.vret hx hb hr (fun t ht hW => ⟨⟨(), rfl, trivial, by rw [ht]; exact hP9, va_K.moved hW.alike hK9, hD9⟩, hS.F ht⟩) hS.2.2 dX5_clear_10

set_option maxRecDepth 100000 in
set_option maxHeartbeats 4000000 in
theorem s_X5_isRecord (l : Launch) (dC : Nat → ClassId) (dI : Nat → Nat → Nat) (p0 : Int32) (sz : Nat) : Met l yX5_isRecord (.code yX5_isRecord cX5_isRecord 1 (some .boolean) :: pw) ({ frames := 0, cells := 0, slots := 0, locals := 0 }) (va_Pc [.int p0] (vPre dC dI [] [] sz)) (va_Qi (fun (r : Int32) (_ : Unit) => (r = 0) ∨ (r = 1 ∧ ¬ p0 < 0 ∧ ¬ 36 ≤ p0)) (fun (_ : Unit) t => vPst dC dI (va_A [] sz) [] [] t) (va_A [] sz)) 0 0 (va_A [] sz) := by
  refine Met.ofW (cc := cX5_isRecord) (maxL := 1) (ret := (some .boolean)) (by decide) rfl ?_
  intro p e s m args below meth c s₁ B hml hv
  obtain ⟨rfl, hsz, hP, hK, hD0, hN⟩ := hv
  have hx := B.exec
  have hb := B.bytes
  have hr := B.returns
  have hts := atoms_spec (ws := .code yX5_isRecord cX5_isRecord 1 (some .boolean) :: pw) B.pre
  have hts : ∀ w ∈ pw, w.before _ s = true := fun w h => hts w (List.mem_cons_of_mem _ h)
  have hown : s.vm.findClass RX5 = some m.cls := findClass_of_methodNamed B.named
  have hlocks := B.notSynchronized
  subst hsz
  have hD := hD0.self (sz := s.heap.size)
  generalize hAe : va_A [] s.heap.size = A at hD ⊢
  have hA : ∀ q : Nat, s.heap.size ≤ q → A q := fun q h => by rw [← hAe]; exact Or.inr h
  have hS : va_S A s.heap s.heap [] := va_S.rf
  have hP : va_P (dC, dI) vwCl [] s.heap := hP
  have hl := lv_entry ([.int p0]) (n := 1) (Nat.le_of_ble_eq_true rfl)
  rw [lg_entry_eq]
  generalize (lg_sl ([.int p0]) ++ List.replicate (1 - (lg_sl ([.int p0])).length) Slot.unset).toArray = ls at hl ⊢
  have hl : lv_has ls 1 [(0, .int p0)] := hl
  refine lv_iload_n hx hb dX5_isRecord_0 rfl (lv_at hl 0 rfl) ?_
  refine lv_if_lt (tgt := 14) hx hb dX5_isRecord_1 (by decide) (fun c_1 => ?_) (fun c_1 => ?_)
  · refine lv_iconst (v := 0) hx hb dX5_isRecord_14 (by decide) ?_
    have hP9 := hP.sub (ws' := []) [] rfl
    have hD9 := hD.sub (ws' := []) [] (by decide) rfl
    have hK9 := hK.sub (tys' := []) [] rfl
    refine W.widen (k := 0) (n := 0) (Nat.le_of_ble_eq_true rfl) (Nat.le_of_ble_eq_true rfl) ?_
    exact W.zret (v := 0) hx hb hr rfl (fun t ht hW => ⟨⟨0, (), rfl, Or.inl (rfl), by rw [ht]; exact hP9, va_K.moved hW.alike hK9, hD9⟩, hS.F ht⟩) hS.2.2 dX5_isRecord_15
  · refine lv_iload_n hx hb dX5_isRecord_4 rfl (lv_at hl 0 rfl) ?_
    refine lv_bipush (v := 36) hx hb dX5_isRecord_5 (by decide) ?_
    refine lv_icmp_ge (tgt := 14) hx hb dX5_isRecord_7 (by decide) (fun c_2 => ?_) (fun c_2 => ?_)
    · refine lv_iconst (v := 0) hx hb dX5_isRecord_14 (by decide) ?_
      have hP9 := hP.sub (ws' := []) [] rfl
      have hD9 := hD.sub (ws' := []) [] (by decide) rfl
      have hK9 := hK.sub (tys' := []) [] rfl
      refine W.widen (k := 0) (n := 0) (Nat.le_of_ble_eq_true rfl) (Nat.le_of_ble_eq_true rfl) ?_
      exact W.zret (v := 0) hx hb hr rfl (fun t ht hW => ⟨⟨0, (), rfl, Or.inl (rfl), by rw [ht]; exact hP9, va_K.moved hW.alike hK9, hD9⟩, hS.F ht⟩) hS.2.2 dX5_isRecord_15
    · refine lv_iconst (v := 1) hx hb dX5_isRecord_10 (by decide) ?_
      refine lv_goto (tgt := 15) hx hb dX5_isRecord_11 (by decide) ?_
      have hP9 := hP.sub (ws' := []) [] rfl
      have hD9 := hD.sub (ws' := []) [] (by decide) rfl
      have hK9 := hK.sub (tys' := []) [] rfl
      refine W.widen (k := 0) (n := 0) (Nat.le_of_ble_eq_true rfl) (Nat.le_of_ble_eq_true rfl) ?_
      exact W.zret (v := 1) hx hb hr rfl (fun t ht hW => ⟨⟨1, (), rfl, Or.inr (⟨rfl, c_1, c_2⟩), by rw [ht]; exact hP9, va_K.moved hW.alike hK9, hD9⟩, hS.F ht⟩) hS.2.2 dX5_isRecord_15

set_option maxRecDepth 100000 in
set_option maxHeartbeats 4000000 in
theorem s_X5_isFieldOf (l : Launch) (dC : Nat → ClassId) (dI : Nat → Nat → Nat) (p0 : Int32) (p1 : Int32) (sz : Nat) : Met l yX5_isFieldOf (.code yX5_isFieldOf cX5_isFieldOf 2 (some .boolean) :: pw) ({ frames := 0, cells := 0, slots := 0, locals := 0 }) (va_Pc [.int p0, .int p1] (vPre dC dI [] [] sz)) (va_Qi (fun (r : Int32) (_ : Unit) => (r = 0) ∨ (r = 1 ∧ ¬ p0 < 0 ∧ ¬ 36 ≤ p0 ∧ ¬ p1 < 0 ∧ ¬ 8 ≤ p1)) (fun (_ : Unit) t => vPst dC dI (va_A [] sz) [] [] t) (va_A [] sz)) 0 0 (va_A [] sz) := by
  refine Met.ofW (cc := cX5_isFieldOf) (maxL := 2) (ret := (some .boolean)) (by decide) rfl ?_
  intro p e s m args below meth c s₁ B hml hv
  obtain ⟨rfl, hsz, hP, hK, hD0, hN⟩ := hv
  have hx := B.exec
  have hb := B.bytes
  have hr := B.returns
  have hts := atoms_spec (ws := .code yX5_isFieldOf cX5_isFieldOf 2 (some .boolean) :: pw) B.pre
  have hts : ∀ w ∈ pw, w.before _ s = true := fun w h => hts w (List.mem_cons_of_mem _ h)
  have hown : s.vm.findClass RX5 = some m.cls := findClass_of_methodNamed B.named
  have hlocks := B.notSynchronized
  subst hsz
  have hD := hD0.self (sz := s.heap.size)
  generalize hAe : va_A [] s.heap.size = A at hD ⊢
  have hA : ∀ q : Nat, s.heap.size ≤ q → A q := fun q h => by rw [← hAe]; exact Or.inr h
  have hS : va_S A s.heap s.heap [] := va_S.rf
  have hP : va_P (dC, dI) vwCl [] s.heap := hP
  have hl := lv_entry ([.int p0, .int p1]) (n := 2) (Nat.le_of_ble_eq_true rfl)
  rw [lg_entry_eq]
  generalize (lg_sl ([.int p0, .int p1]) ++ List.replicate (2 - (lg_sl ([.int p0, .int p1])).length) Slot.unset).toArray = ls at hl ⊢
  have hl : lv_has ls 2 [(0, .int p0), (1, .int p1)] := hl
  refine lv_iload_n hx hb dX5_isFieldOf_0 rfl (lv_at hl 0 rfl) ?_
  refine lv_if_lt (tgt := 24) hx hb dX5_isFieldOf_1 (by decide) (fun c_1 => ?_) (fun c_1 => ?_)
  · refine lv_iconst (v := 0) hx hb dX5_isFieldOf_24 (by decide) ?_
    have hP9 := hP.sub (ws' := []) [] rfl
    have hD9 := hD.sub (ws' := []) [] (by decide) rfl
    have hK9 := hK.sub (tys' := []) [] rfl
    refine W.widen (k := 0) (n := 0) (Nat.le_of_ble_eq_true rfl) (Nat.le_of_ble_eq_true rfl) ?_
    exact W.zret (v := 0) hx hb hr rfl (fun t ht hW => ⟨⟨0, (), rfl, Or.inl (rfl), by rw [ht]; exact hP9, va_K.moved hW.alike hK9, hD9⟩, hS.F ht⟩) hS.2.2 dX5_isFieldOf_25
  · refine lv_iload_n hx hb dX5_isFieldOf_4 rfl (lv_at hl 0 rfl) ?_
    refine lv_bipush (v := 36) hx hb dX5_isFieldOf_5 (by decide) ?_
    refine lv_icmp_ge (tgt := 24) hx hb dX5_isFieldOf_7 (by decide) (fun c_2 => ?_) (fun c_2 => ?_)
    · refine lv_iconst (v := 0) hx hb dX5_isFieldOf_24 (by decide) ?_
      have hP9 := hP.sub (ws' := []) [] rfl
      have hD9 := hD.sub (ws' := []) [] (by decide) rfl
      have hK9 := hK.sub (tys' := []) [] rfl
      refine W.widen (k := 0) (n := 0) (Nat.le_of_ble_eq_true rfl) (Nat.le_of_ble_eq_true rfl) ?_
      exact W.zret (v := 0) hx hb hr rfl (fun t ht hW => ⟨⟨0, (), rfl, Or.inl (rfl), by rw [ht]; exact hP9, va_K.moved hW.alike hK9, hD9⟩, hS.F ht⟩) hS.2.2 dX5_isFieldOf_25
    · refine lv_iload_n hx hb dX5_isFieldOf_10 rfl (lv_at hl 1 rfl) ?_
      refine lv_if_lt (tgt := 24) hx hb dX5_isFieldOf_11 (by decide) (fun c_3 => ?_) (fun c_3 => ?_)
      · refine lv_iconst (v := 0) hx hb dX5_isFieldOf_24 (by decide) ?_
        have hP9 := hP.sub (ws' := []) [] rfl
        have hD9 := hD.sub (ws' := []) [] (by decide) rfl
        have hK9 := hK.sub (tys' := []) [] rfl
        refine W.widen (k := 0) (n := 0) (Nat.le_of_ble_eq_true rfl) (Nat.le_of_ble_eq_true rfl) ?_
        exact W.zret (v := 0) hx hb hr rfl (fun t ht hW => ⟨⟨0, (), rfl, Or.inl (rfl), by rw [ht]; exact hP9, va_K.moved hW.alike hK9, hD9⟩, hS.F ht⟩) hS.2.2 dX5_isFieldOf_25
      · refine lv_iload_n hx hb dX5_isFieldOf_14 rfl (lv_at hl 1 rfl) ?_
        refine lv_bipush (v := 8) hx hb dX5_isFieldOf_15 (by decide) ?_
        refine lv_icmp_ge (tgt := 24) hx hb dX5_isFieldOf_17 (by decide) (fun c_4 => ?_) (fun c_4 => ?_)
        · refine lv_iconst (v := 0) hx hb dX5_isFieldOf_24 (by decide) ?_
          have hP9 := hP.sub (ws' := []) [] rfl
          have hD9 := hD.sub (ws' := []) [] (by decide) rfl
          have hK9 := hK.sub (tys' := []) [] rfl
          refine W.widen (k := 0) (n := 0) (Nat.le_of_ble_eq_true rfl) (Nat.le_of_ble_eq_true rfl) ?_
          exact W.zret (v := 0) hx hb hr rfl (fun t ht hW => ⟨⟨0, (), rfl, Or.inl (rfl), by rw [ht]; exact hP9, va_K.moved hW.alike hK9, hD9⟩, hS.F ht⟩) hS.2.2 dX5_isFieldOf_25
        · refine lv_iconst (v := 1) hx hb dX5_isFieldOf_20 (by decide) ?_
          refine lv_goto (tgt := 25) hx hb dX5_isFieldOf_21 (by decide) ?_
          have hP9 := hP.sub (ws' := []) [] rfl
          have hD9 := hD.sub (ws' := []) [] (by decide) rfl
          have hK9 := hK.sub (tys' := []) [] rfl
          refine W.widen (k := 0) (n := 0) (Nat.le_of_ble_eq_true rfl) (Nat.le_of_ble_eq_true rfl) ?_
          exact W.zret (v := 1) hx hb hr rfl (fun t ht hW => ⟨⟨1, (), rfl, Or.inr (⟨rfl, c_1, c_2, c_3, c_4⟩), by rw [ht]; exact hP9, va_K.moved hW.alike hK9, hD9⟩, hS.F ht⟩) hS.2.2 dX5_isFieldOf_25

set_option maxRecDepth 100000 in
set_option maxHeartbeats 4000000 in
theorem s_X5_isType (l : Launch) (dC : Nat → ClassId) (dI : Nat → Nat → Nat) (h0 : Nat) (xx5_0 : Int32) (xx5_1 : Int32) (ax5_2 : Nat) (ax5_3 : Nat) (ax5_4 : Nat) (ax5_5 : Nat) (ax5_6 : Nat) (ax5_7 : Nat) (ax5_8 : Nat) (ax5_9 : Nat) (ax5_10 : Nat) (ax5_11 : Nat) (ax5_12 : Nat) (ax5_13 : Nat) (ax5_14 : Nat) (ax5_15 : Nat) (ax5_16 : Nat) (p0 : Int32) (hi_xx5_0 : (0 : Int) ≤ xx5_0.toInt ∧ xx5_0.toInt ≤ (6 : Int)) (hi_xx5_1 : (0 : Int) ≤ xx5_1.toInt ∧ xx5_1.toInt ≤ (262 : Int)) (sz : Nat) : Met l yX5_isType (.code yX5_isType cX5_isType 2 (some .boolean) :: pw) ({ frames := 0, cells := 0, slots := 0, locals := 0 }) (va_Pc [.ref h0, .int p0] (vPre dC dI [(h0, .inr (5, [.int xx5_0, .int xx5_1, .ref ax5_2, .ref ax5_3, .ref ax5_4, .ref ax5_5, .ref ax5_6, .ref ax5_7, .ref ax5_8, .ref ax5_9, .ref ax5_10, .ref ax5_11, .ref ax5_12, .ref ax5_13, .ref ax5_14, .ref ax5_15, .ref ax5_16]))] [] sz)) (va_Qi (fun (r : Int32) (_ : Unit) => (r = 0) ∨ (r = 1 ∧ ¬ p0 < 0 ∧ ¬ xx5_1 ≤ p0 ∧ ¬ 262 ≤ p0)) (fun (_ : Unit) t => vPst dC dI (va_A [(h0, .inr (5, [.int xx5_0, .int xx5_1, .ref ax5_2, .ref ax5_3, .ref ax5_4, .ref ax5_5, .ref ax5_6, .ref ax5_7, .ref ax5_8, .ref ax5_9, .ref ax5_10, .ref ax5_11, .ref ax5_12, .ref ax5_13, .ref ax5_14, .ref ax5_15, .ref ax5_16]))] sz) [(h0, .inr (5, [.int xx5_0, .int xx5_1, .ref ax5_2, .ref ax5_3, .ref ax5_4, .ref ax5_5, .ref ax5_6, .ref ax5_7, .ref ax5_8, .ref ax5_9, .ref ax5_10, .ref ax5_11, .ref ax5_12, .ref ax5_13, .ref ax5_14, .ref ax5_15, .ref ax5_16]))] [] t) (va_A [(h0, .inr (5, [.int xx5_0, .int xx5_1, .ref ax5_2, .ref ax5_3, .ref ax5_4, .ref ax5_5, .ref ax5_6, .ref ax5_7, .ref ax5_8, .ref ax5_9, .ref ax5_10, .ref ax5_11, .ref ax5_12, .ref ax5_13, .ref ax5_14, .ref ax5_15, .ref ax5_16]))] sz)) 0 0 (va_A [(h0, .inr (5, [.int xx5_0, .int xx5_1, .ref ax5_2, .ref ax5_3, .ref ax5_4, .ref ax5_5, .ref ax5_6, .ref ax5_7, .ref ax5_8, .ref ax5_9, .ref ax5_10, .ref ax5_11, .ref ax5_12, .ref ax5_13, .ref ax5_14, .ref ax5_15, .ref ax5_16]))] sz) := by
  refine Met.ofW (cc := cX5_isType) (maxL := 2) (ret := (some .boolean)) (by decide) rfl ?_
  intro p e s m args below meth c s₁ B hml hv
  obtain ⟨rfl, hsz, hP, hK, hD0, hN⟩ := hv
  have hx := B.exec
  have hb := B.bytes
  have hr := B.returns
  have hts := atoms_spec (ws := .code yX5_isType cX5_isType 2 (some .boolean) :: pw) B.pre
  have hts : ∀ w ∈ pw, w.before _ s = true := fun w h => hts w (List.mem_cons_of_mem _ h)
  have hown : s.vm.findClass RX5 = some m.cls := findClass_of_methodNamed B.named
  have hlocks := B.notSynchronized
  subst hsz
  have hD := hD0.self (sz := s.heap.size)
  generalize hAe : va_A [(h0, .inr (5, [.int xx5_0, .int xx5_1, .ref ax5_2, .ref ax5_3, .ref ax5_4, .ref ax5_5, .ref ax5_6, .ref ax5_7, .ref ax5_8, .ref ax5_9, .ref ax5_10, .ref ax5_11, .ref ax5_12, .ref ax5_13, .ref ax5_14, .ref ax5_15, .ref ax5_16]))] s.heap.size = A at hD ⊢
  have hA : ∀ q : Nat, s.heap.size ≤ q → A q := fun q h => by rw [← hAe]; exact Or.inr h
  have hS : va_S A s.heap s.heap [] := va_S.rf
  have hP : va_P (dC, dI) vwCl [(h0, .inr (5, [.int xx5_0, .int xx5_1, .ref ax5_2, .ref ax5_3, .ref ax5_4, .ref ax5_5, .ref ax5_6, .ref ax5_7, .ref ax5_8, .ref ax5_9, .ref ax5_10, .ref ax5_11, .ref ax5_12, .ref ax5_13, .ref ax5_14, .ref ax5_15, .ref ax5_16]))] s.heap := hP
  have hl := lv_entry ([.ref h0, .int p0]) (n := 2) (Nat.le_of_ble_eq_true rfl)
  rw [lg_entry_eq]
  generalize (lg_sl ([.ref h0, .int p0]) ++ List.replicate (2 - (lg_sl ([.ref h0, .int p0])).length) Slot.unset).toArray = ls at hl ⊢
  have hl : lv_has ls 2 [(0, .ref h0), (1, .int p0)] := hl
  refine lv_iload_n hx hb dX5_isType_0 rfl (lv_at hl 1 rfl) ?_
  refine lv_if_lt (tgt := 23) hx hb dX5_isType_1 (by decide) (fun c_1 => ?_) (fun c_1 => ?_)
  · refine lv_iconst (v := 0) hx hb dX5_isType_23 (by decide) ?_
    have hP9 := hP.sub (ws' := [(h0, .inr (5, [.int xx5_0, .int xx5_1, .ref ax5_2, .ref ax5_3, .ref ax5_4, .ref ax5_5, .ref ax5_6, .ref ax5_7, .ref ax5_8, .ref ax5_9, .ref ax5_10, .ref ax5_11, .ref ax5_12, .ref ax5_13, .ref ax5_14, .ref ax5_15, .ref ax5_16]))]) [0] rfl
    have hD9 := hD.sub (ws' := [(h0, .inr (5, [.int xx5_0, .int xx5_1, .ref ax5_2, .ref ax5_3, .ref ax5_4, .ref ax5_5, .ref ax5_6, .ref ax5_7, .ref ax5_8, .ref ax5_9, .ref ax5_10, .ref ax5_11, .ref ax5_12, .ref ax5_13, .ref ax5_14, .ref ax5_15, .ref ax5_16]))]) [0] (by decide) rfl
    have hK9 := hK.sub (tys' := []) [] rfl
    refine W.widen (k := 0) (n := 0) (Nat.le_of_ble_eq_true rfl) (Nat.le_of_ble_eq_true rfl) ?_
    exact W.zret (v := 0) hx hb hr rfl (fun t ht hW => ⟨⟨0, (), rfl, Or.inl (rfl), by rw [ht]; exact hP9, va_K.moved hW.alike hK9, hD9⟩, hS.F ht⟩) hS.2.2 dX5_isType_24
  · refine lv_iload_n hx hb dX5_isType_4 rfl (lv_at hl 1 rfl) ?_
    refine lv_aload_n hx hb dX5_isType_5 rfl (lv_at hl 0 rfl) ?_
    refine va_get (D := (dC, dI)) (ci := 5) (v := .int xx5_1) (C := RX5) (T := TX5) (N := 17) hx hb hts inlX5 hown hK hP 0 rfl rfl 1 (by decide) (hts (.fieldLink RX5 15 "ShapeReader$Shapes" "typeCount" "I") mw_14_13) (fun _ h9 => h9) rfl dX5_isType_6 ?_
    refine lv_icmp_ge (tgt := 23) hx hb dX5_isType_9 (by decide) (fun c_2 => ?_) (fun c_2 => ?_)
    · refine lv_iconst (v := 0) hx hb dX5_isType_23 (by decide) ?_
      have hP9 := hP.sub (ws' := [(h0, .inr (5, [.int xx5_0, .int xx5_1, .ref ax5_2, .ref ax5_3, .ref ax5_4, .ref ax5_5, .ref ax5_6, .ref ax5_7, .ref ax5_8, .ref ax5_9, .ref ax5_10, .ref ax5_11, .ref ax5_12, .ref ax5_13, .ref ax5_14, .ref ax5_15, .ref ax5_16]))]) [0] rfl
      have hD9 := hD.sub (ws' := [(h0, .inr (5, [.int xx5_0, .int xx5_1, .ref ax5_2, .ref ax5_3, .ref ax5_4, .ref ax5_5, .ref ax5_6, .ref ax5_7, .ref ax5_8, .ref ax5_9, .ref ax5_10, .ref ax5_11, .ref ax5_12, .ref ax5_13, .ref ax5_14, .ref ax5_15, .ref ax5_16]))]) [0] (by decide) rfl
      have hK9 := hK.sub (tys' := []) [] rfl
      refine W.widen (k := 0) (n := 0) (Nat.le_of_ble_eq_true rfl) (Nat.le_of_ble_eq_true rfl) ?_
      exact W.zret (v := 0) hx hb hr rfl (fun t ht hW => ⟨⟨0, (), rfl, Or.inl (rfl), by rw [ht]; exact hP9, va_K.moved hW.alike hK9, hD9⟩, hS.F ht⟩) hS.2.2 dX5_isType_24
    · refine lv_iload_n hx hb dX5_isType_12 rfl (lv_at hl 1 rfl) ?_
      refine lv_sipush (v := 262) hx hb dX5_isType_13 (by decide) ?_
      refine lv_icmp_ge (tgt := 23) hx hb dX5_isType_16 (by decide) (fun c_3 => ?_) (fun c_3 => ?_)
      · refine lv_iconst (v := 0) hx hb dX5_isType_23 (by decide) ?_
        have hP9 := hP.sub (ws' := [(h0, .inr (5, [.int xx5_0, .int xx5_1, .ref ax5_2, .ref ax5_3, .ref ax5_4, .ref ax5_5, .ref ax5_6, .ref ax5_7, .ref ax5_8, .ref ax5_9, .ref ax5_10, .ref ax5_11, .ref ax5_12, .ref ax5_13, .ref ax5_14, .ref ax5_15, .ref ax5_16]))]) [0] rfl
        have hD9 := hD.sub (ws' := [(h0, .inr (5, [.int xx5_0, .int xx5_1, .ref ax5_2, .ref ax5_3, .ref ax5_4, .ref ax5_5, .ref ax5_6, .ref ax5_7, .ref ax5_8, .ref ax5_9, .ref ax5_10, .ref ax5_11, .ref ax5_12, .ref ax5_13, .ref ax5_14, .ref ax5_15, .ref ax5_16]))]) [0] (by decide) rfl
        have hK9 := hK.sub (tys' := []) [] rfl
        refine W.widen (k := 0) (n := 0) (Nat.le_of_ble_eq_true rfl) (Nat.le_of_ble_eq_true rfl) ?_
        exact W.zret (v := 0) hx hb hr rfl (fun t ht hW => ⟨⟨0, (), rfl, Or.inl (rfl), by rw [ht]; exact hP9, va_K.moved hW.alike hK9, hD9⟩, hS.F ht⟩) hS.2.2 dX5_isType_24
      · refine lv_iconst (v := 1) hx hb dX5_isType_19 (by decide) ?_
        refine lv_goto (tgt := 24) hx hb dX5_isType_20 (by decide) ?_
        have hP9 := hP.sub (ws' := [(h0, .inr (5, [.int xx5_0, .int xx5_1, .ref ax5_2, .ref ax5_3, .ref ax5_4, .ref ax5_5, .ref ax5_6, .ref ax5_7, .ref ax5_8, .ref ax5_9, .ref ax5_10, .ref ax5_11, .ref ax5_12, .ref ax5_13, .ref ax5_14, .ref ax5_15, .ref ax5_16]))]) [0] rfl
        have hD9 := hD.sub (ws' := [(h0, .inr (5, [.int xx5_0, .int xx5_1, .ref ax5_2, .ref ax5_3, .ref ax5_4, .ref ax5_5, .ref ax5_6, .ref ax5_7, .ref ax5_8, .ref ax5_9, .ref ax5_10, .ref ax5_11, .ref ax5_12, .ref ax5_13, .ref ax5_14, .ref ax5_15, .ref ax5_16]))]) [0] (by decide) rfl
        have hK9 := hK.sub (tys' := []) [] rfl
        refine W.widen (k := 0) (n := 0) (Nat.le_of_ble_eq_true rfl) (Nat.le_of_ble_eq_true rfl) ?_
        exact W.zret (v := 1) hx hb hr rfl (fun t ht hW => ⟨⟨1, (), rfl, Or.inr (⟨rfl, c_1, c_2, c_3⟩), by rw [ht]; exact hP9, va_K.moved hW.alike hK9, hD9⟩, hS.F ht⟩) hS.2.2 dX5_isType_24

set_option maxRecDepth 100000 in
set_option maxHeartbeats 4000000 in
theorem s_X5_recordsOf (l : Launch) (dC : Nat → ClassId) (dI : Nat → Nat → Nat) (h0 : Nat) (xx5_0 : Int32) (xx5_1 : Int32) (ax5_2 : Nat) (cx5_2 : ClassId) (fx5_2 : Nat → Int32) (ax5_3 : Nat) (ax5_4 : Nat) (ax5_5 : Nat) (ax5_6 : Nat) (ax5_7 : Nat) (ax5_8 : Nat) (ax5_9 : Nat) (ax5_10 : Nat) (ax5_11 : Nat) (ax5_12 : Nat) (ax5_13 : Nat) (ax5_14 : Nat) (ax5_15 : Nat) (ax5_16 : Nat) (p0 : Int32) (hi_xx5_0 : (0 : Int) ≤ xx5_0.toInt ∧ xx5_0.toInt ≤ (6 : Int)) (hi_xx5_1 : (0 : Int) ≤ xx5_1.toInt ∧ xx5_1.toInt ≤ (262 : Int)) (sz : Nat) : Met l yX5_recordsOf (.code yX5_recordsOf cX5_recordsOf 2 (some .int) :: pw) ({ frames := 0, cells := 0, slots := 0, locals := 0 }) (va_Pc [.ref h0, .int p0] (vPre dC dI [(h0, .inr (5, [.int xx5_0, .int xx5_1, .ref ax5_2, .ref ax5_3, .ref ax5_4, .ref ax5_5, .ref ax5_6, .ref ax5_7, .ref ax5_8, .ref ax5_9, .ref ax5_10, .ref ax5_11, .ref ax5_12, .ref ax5_13, .ref ax5_14, .ref ax5_15, .ref ax5_16])), (ax5_2, .inl (cx5_2, 6, .inl fx5_2))] [(cx5_2, .int)] sz)) (va_Qi (fun (r : Int32) (_ : Unit) => (r = (fx5_2 p0.toNatClampNeg) ∧ ¬ p0 < 0 ∧ ¬ 6 ≤ p0) ∨ (r = 0)) (fun (_ : Unit) t => vPst dC dI (va_A [(h0, .inr (5, [.int xx5_0, .int xx5_1, .ref ax5_2, .ref ax5_3, .ref ax5_4, .ref ax5_5, .ref ax5_6, .ref ax5_7, .ref ax5_8, .ref ax5_9, .ref ax5_10, .ref ax5_11, .ref ax5_12, .ref ax5_13, .ref ax5_14, .ref ax5_15, .ref ax5_16])), (ax5_2, .inl (cx5_2, 6, .inl fx5_2))] sz) [(h0, .inr (5, [.int xx5_0, .int xx5_1, .ref ax5_2, .ref ax5_3, .ref ax5_4, .ref ax5_5, .ref ax5_6, .ref ax5_7, .ref ax5_8, .ref ax5_9, .ref ax5_10, .ref ax5_11, .ref ax5_12, .ref ax5_13, .ref ax5_14, .ref ax5_15, .ref ax5_16])), (ax5_2, .inl (cx5_2, 6, .inl fx5_2))] [(cx5_2, .int)] t) (va_A [(h0, .inr (5, [.int xx5_0, .int xx5_1, .ref ax5_2, .ref ax5_3, .ref ax5_4, .ref ax5_5, .ref ax5_6, .ref ax5_7, .ref ax5_8, .ref ax5_9, .ref ax5_10, .ref ax5_11, .ref ax5_12, .ref ax5_13, .ref ax5_14, .ref ax5_15, .ref ax5_16])), (ax5_2, .inl (cx5_2, 6, .inl fx5_2))] sz)) 0 0 (va_A [(h0, .inr (5, [.int xx5_0, .int xx5_1, .ref ax5_2, .ref ax5_3, .ref ax5_4, .ref ax5_5, .ref ax5_6, .ref ax5_7, .ref ax5_8, .ref ax5_9, .ref ax5_10, .ref ax5_11, .ref ax5_12, .ref ax5_13, .ref ax5_14, .ref ax5_15, .ref ax5_16])), (ax5_2, .inl (cx5_2, 6, .inl fx5_2))] sz) := by
  refine Met.ofW (cc := cX5_recordsOf) (maxL := 2) (ret := (some .int)) (by decide) rfl ?_
  intro p e s m args below meth c s₁ B hml hv
  obtain ⟨rfl, hsz, hP, hK, hD0, hN⟩ := hv
  have hx := B.exec
  have hb := B.bytes
  have hr := B.returns
  have hts := atoms_spec (ws := .code yX5_recordsOf cX5_recordsOf 2 (some .int) :: pw) B.pre
  have hts : ∀ w ∈ pw, w.before _ s = true := fun w h => hts w (List.mem_cons_of_mem _ h)
  have hown : s.vm.findClass RX5 = some m.cls := findClass_of_methodNamed B.named
  have hlocks := B.notSynchronized
  subst hsz
  have hD := hD0.self (sz := s.heap.size)
  generalize hAe : va_A [(h0, .inr (5, [.int xx5_0, .int xx5_1, .ref ax5_2, .ref ax5_3, .ref ax5_4, .ref ax5_5, .ref ax5_6, .ref ax5_7, .ref ax5_8, .ref ax5_9, .ref ax5_10, .ref ax5_11, .ref ax5_12, .ref ax5_13, .ref ax5_14, .ref ax5_15, .ref ax5_16])), (ax5_2, .inl (cx5_2, 6, .inl fx5_2))] s.heap.size = A at hD ⊢
  have hA : ∀ q : Nat, s.heap.size ≤ q → A q := fun q h => by rw [← hAe]; exact Or.inr h
  have hS : va_S A s.heap s.heap [] := va_S.rf
  have hP : va_P (dC, dI) vwCl [(h0, .inr (5, [.int xx5_0, .int xx5_1, .ref ax5_2, .ref ax5_3, .ref ax5_4, .ref ax5_5, .ref ax5_6, .ref ax5_7, .ref ax5_8, .ref ax5_9, .ref ax5_10, .ref ax5_11, .ref ax5_12, .ref ax5_13, .ref ax5_14, .ref ax5_15, .ref ax5_16])), (ax5_2, .inl (cx5_2, 6, .inl fx5_2))] s.heap := hP
  have hl := lv_entry ([.ref h0, .int p0]) (n := 2) (Nat.le_of_ble_eq_true rfl)
  rw [lg_entry_eq]
  generalize (lg_sl ([.ref h0, .int p0]) ++ List.replicate (2 - (lg_sl ([.ref h0, .int p0])).length) Slot.unset).toArray = ls at hl ⊢
  have hl : lv_has ls 2 [(0, .ref h0), (1, .int p0)] := hl
  refine lv_iload_n hx hb dX5_recordsOf_0 rfl (lv_at hl 1 rfl) ?_
  refine lv_if_lt (tgt := 19) hx hb dX5_recordsOf_1 (by decide) (fun c_1 => ?_) (fun c_1 => ?_)
  · refine lv_iconst (v := 0) hx hb dX5_recordsOf_19 (by decide) ?_
    have hP9 := hP.sub (ws' := [(h0, .inr (5, [.int xx5_0, .int xx5_1, .ref ax5_2, .ref ax5_3, .ref ax5_4, .ref ax5_5, .ref ax5_6, .ref ax5_7, .ref ax5_8, .ref ax5_9, .ref ax5_10, .ref ax5_11, .ref ax5_12, .ref ax5_13, .ref ax5_14, .ref ax5_15, .ref ax5_16])), (ax5_2, .inl (cx5_2, 6, .inl fx5_2))]) [0, 1] rfl
    have hD9 := hD.sub (ws' := [(h0, .inr (5, [.int xx5_0, .int xx5_1, .ref ax5_2, .ref ax5_3, .ref ax5_4, .ref ax5_5, .ref ax5_6, .ref ax5_7, .ref ax5_8, .ref ax5_9, .ref ax5_10, .ref ax5_11, .ref ax5_12, .ref ax5_13, .ref ax5_14, .ref ax5_15, .ref ax5_16])), (ax5_2, .inl (cx5_2, 6, .inl fx5_2))]) [0, 1] (by decide) rfl
    have hK9 := hK.sub (tys' := [(cx5_2, .int)]) [0] rfl
    refine W.widen (k := 0) (n := 0) (Nat.le_of_ble_eq_true rfl) (Nat.le_of_ble_eq_true rfl) ?_
    exact W.iret (v := 0) hx hb hr (fun t ht hW => ⟨⟨0, (), rfl, Or.inr (rfl), by rw [ht]; exact hP9, va_K.moved hW.alike hK9, hD9⟩, hS.F ht⟩) hS.2.2 dX5_recordsOf_20
  · refine lv_iload_n hx hb dX5_recordsOf_4 rfl (lv_at hl 1 rfl) ?_
    refine lv_bipush (v := 6) hx hb dX5_recordsOf_5 (by decide) ?_
    refine lv_icmp_ge (tgt := 19) hx hb dX5_recordsOf_7 (by decide) (fun c_2 => ?_) (fun c_2 => ?_)
    · refine lv_iconst (v := 0) hx hb dX5_recordsOf_19 (by decide) ?_
      have hP9 := hP.sub (ws' := [(h0, .inr (5, [.int xx5_0, .int xx5_1, .ref ax5_2, .ref ax5_3, .ref ax5_4, .ref ax5_5, .ref ax5_6, .ref ax5_7, .ref ax5_8, .ref ax5_9, .ref ax5_10, .ref ax5_11, .ref ax5_12, .ref ax5_13, .ref ax5_14, .ref ax5_15, .ref ax5_16])), (ax5_2, .inl (cx5_2, 6, .inl fx5_2))]) [0, 1] rfl
      have hD9 := hD.sub (ws' := [(h0, .inr (5, [.int xx5_0, .int xx5_1, .ref ax5_2, .ref ax5_3, .ref ax5_4, .ref ax5_5, .ref ax5_6, .ref ax5_7, .ref ax5_8, .ref ax5_9, .ref ax5_10, .ref ax5_11, .ref ax5_12, .ref ax5_13, .ref ax5_14, .ref ax5_15, .ref ax5_16])), (ax5_2, .inl (cx5_2, 6, .inl fx5_2))]) [0, 1] (by decide) rfl
      have hK9 := hK.sub (tys' := [(cx5_2, .int)]) [0] rfl
      refine W.widen (k := 0) (n := 0) (Nat.le_of_ble_eq_true rfl) (Nat.le_of_ble_eq_true rfl) ?_
      exact W.iret (v := 0) hx hb hr (fun t ht hW => ⟨⟨0, (), rfl, Or.inr (rfl), by rw [ht]; exact hP9, va_K.moved hW.alike hK9, hD9⟩, hS.F ht⟩) hS.2.2 dX5_recordsOf_20
    · refine lv_aload_n hx hb dX5_recordsOf_10 rfl (lv_at hl 0 rfl) ?_
      refine va_get (D := (dC, dI)) (ci := 5) (v := .ref ax5_2) (C := RX5) (T := TX5) (N := 17) hx hb hts inlX5 hown hK hP 0 rfl rfl 2 (by decide) (hts (.fieldLink RX5 18 "ShapeReader$Shapes" "recordCounts" "[I") mw_14_14) (fun _ h9 => h9) rfl dX5_recordsOf_11 ?_
      refine lv_iload_n hx hb dX5_recordsOf_14 rfl (lv_at hl 1 rfl) ?_
      refine va_iald hx hb hK hP 1 0 rfl rfl (vp_in_iff.mpr (by have a0 := il_nlt c_1; have a1 := il_nle c_2; have e0 : (0 : Int32).toInt = 0 := (by decide); have e1 : (6 : Int32).toInt = 6 := (by decide); omega)) dX5_recordsOf_15 ?_
      refine lv_topi (fun x_3 ex_3 => ?_)
      refine lv_goto (tgt := 20) hx hb dX5_recordsOf_16 (by decide) ?_
      have hP9 := hP.sub (ws' := [(h0, .inr (5, [.int xx5_0, .int xx5_1, .ref ax5_2, .ref ax5_3, .ref ax5_4, .ref ax5_5, .ref ax5_6, .ref ax5_7, .ref ax5_8, .ref ax5_9, .ref ax5_10, .ref ax5_11, .ref ax5_12, .ref ax5_13, .ref ax5_14, .ref ax5_15, .ref ax5_16])), (ax5_2, .inl (cx5_2, 6, .inl fx5_2))]) [0, 1] rfl
      have hD9 := hD.sub (ws' := [(h0, .inr (5, [.int xx5_0, .int xx5_1, .ref ax5_2, .ref ax5_3, .ref ax5_4, .ref ax5_5, .ref ax5_6, .ref ax5_7, .ref ax5_8, .ref ax5_9, .ref ax5_10, .ref ax5_11, .ref ax5_12, .ref ax5_13, .ref ax5_14, .ref ax5_15, .ref ax5_16])), (ax5_2, .inl (cx5_2, 6, .inl fx5_2))]) [0, 1] (by decide) rfl
      have hK9 := hK.sub (tys' := [(cx5_2, .int)]) [0] rfl
      refine W.widen (k := 0) (n := 0) (Nat.le_of_ble_eq_true rfl) (Nat.le_of_ble_eq_true rfl) ?_
      exact W.iret (v := x_3) hx hb hr (fun t ht hW => ⟨⟨x_3, (), rfl, Or.inl (⟨(by rw [ex_3]), c_1, c_2⟩), by rw [ht]; exact hP9, va_K.moved hW.alike hK9, hD9⟩, hS.F ht⟩) hS.2.2 dX5_recordsOf_20

set_option maxRecDepth 100000 in
set_option maxHeartbeats 4000000 in
theorem s_X5_rootType (l : Launch) (dC : Nat → ClassId) (dI : Nat → Nat → Nat) (h0 : Nat) (xx5_0 : Int32) (xx5_1 : Int32) (ax5_2 : Nat) (ax5_3 : Nat) (cx5_3 : ClassId) (fx5_3 : Nat → Int32) (ax5_4 : Nat) (ax5_5 : Nat) (ax5_6 : Nat) (ax5_7 : Nat) (ax5_8 : Nat) (ax5_9 : Nat) (ax5_10 : Nat) (ax5_11 : Nat) (ax5_12 : Nat) (ax5_13 : Nat) (ax5_14 : Nat) (ax5_15 : Nat) (ax5_16 : Nat) (p0 : Int32) (hi_xx5_0 : (0 : Int) ≤ xx5_0.toInt ∧ xx5_0.toInt ≤ (6 : Int)) (hi_xx5_1 : (0 : Int) ≤ xx5_1.toInt ∧ xx5_1.toInt ≤ (262 : Int)) (sz : Nat) : Met l yX5_rootType (.code yX5_rootType cX5_rootType 2 (some .int) :: pw) ({ frames := 0, cells := 0, slots := 0, locals := 0 }) (va_Pc [.ref h0, .int p0] (vPre dC dI [(h0, .inr (5, [.int xx5_0, .int xx5_1, .ref ax5_2, .ref ax5_3, .ref ax5_4, .ref ax5_5, .ref ax5_6, .ref ax5_7, .ref ax5_8, .ref ax5_9, .ref ax5_10, .ref ax5_11, .ref ax5_12, .ref ax5_13, .ref ax5_14, .ref ax5_15, .ref ax5_16])), (ax5_3, .inl (cx5_3, 6, .inl fx5_3))] [(cx5_3, .int)] sz)) (va_Qi (fun (r : Int32) (_ : Unit) => (r = (fx5_3 p0.toNatClampNeg) ∧ ¬ p0 < 0 ∧ ¬ 6 ≤ p0) ∨ (r = (-1))) (fun (_ : Unit) t => vPst dC dI (va_A [(h0, .inr (5, [.int xx5_0, .int xx5_1, .ref ax5_2, .ref ax5_3, .ref ax5_4, .ref ax5_5, .ref ax5_6, .ref ax5_7, .ref ax5_8, .ref ax5_9, .ref ax5_10, .ref ax5_11, .ref ax5_12, .ref ax5_13, .ref ax5_14, .ref ax5_15, .ref ax5_16])), (ax5_3, .inl (cx5_3, 6, .inl fx5_3))] sz) [(h0, .inr (5, [.int xx5_0, .int xx5_1, .ref ax5_2, .ref ax5_3, .ref ax5_4, .ref ax5_5, .ref ax5_6, .ref ax5_7, .ref ax5_8, .ref ax5_9, .ref ax5_10, .ref ax5_11, .ref ax5_12, .ref ax5_13, .ref ax5_14, .ref ax5_15, .ref ax5_16])), (ax5_3, .inl (cx5_3, 6, .inl fx5_3))] [(cx5_3, .int)] t) (va_A [(h0, .inr (5, [.int xx5_0, .int xx5_1, .ref ax5_2, .ref ax5_3, .ref ax5_4, .ref ax5_5, .ref ax5_6, .ref ax5_7, .ref ax5_8, .ref ax5_9, .ref ax5_10, .ref ax5_11, .ref ax5_12, .ref ax5_13, .ref ax5_14, .ref ax5_15, .ref ax5_16])), (ax5_3, .inl (cx5_3, 6, .inl fx5_3))] sz)) 0 0 (va_A [(h0, .inr (5, [.int xx5_0, .int xx5_1, .ref ax5_2, .ref ax5_3, .ref ax5_4, .ref ax5_5, .ref ax5_6, .ref ax5_7, .ref ax5_8, .ref ax5_9, .ref ax5_10, .ref ax5_11, .ref ax5_12, .ref ax5_13, .ref ax5_14, .ref ax5_15, .ref ax5_16])), (ax5_3, .inl (cx5_3, 6, .inl fx5_3))] sz) := by
  refine Met.ofW (cc := cX5_rootType) (maxL := 2) (ret := (some .int)) (by decide) rfl ?_
  intro p e s m args below meth c s₁ B hml hv
  obtain ⟨rfl, hsz, hP, hK, hD0, hN⟩ := hv
  have hx := B.exec
  have hb := B.bytes
  have hr := B.returns
  have hts := atoms_spec (ws := .code yX5_rootType cX5_rootType 2 (some .int) :: pw) B.pre
  have hts : ∀ w ∈ pw, w.before _ s = true := fun w h => hts w (List.mem_cons_of_mem _ h)
  have hown : s.vm.findClass RX5 = some m.cls := findClass_of_methodNamed B.named
  have hlocks := B.notSynchronized
  subst hsz
  have hD := hD0.self (sz := s.heap.size)
  generalize hAe : va_A [(h0, .inr (5, [.int xx5_0, .int xx5_1, .ref ax5_2, .ref ax5_3, .ref ax5_4, .ref ax5_5, .ref ax5_6, .ref ax5_7, .ref ax5_8, .ref ax5_9, .ref ax5_10, .ref ax5_11, .ref ax5_12, .ref ax5_13, .ref ax5_14, .ref ax5_15, .ref ax5_16])), (ax5_3, .inl (cx5_3, 6, .inl fx5_3))] s.heap.size = A at hD ⊢
  have hA : ∀ q : Nat, s.heap.size ≤ q → A q := fun q h => by rw [← hAe]; exact Or.inr h
  have hS : va_S A s.heap s.heap [] := va_S.rf
  have hP : va_P (dC, dI) vwCl [(h0, .inr (5, [.int xx5_0, .int xx5_1, .ref ax5_2, .ref ax5_3, .ref ax5_4, .ref ax5_5, .ref ax5_6, .ref ax5_7, .ref ax5_8, .ref ax5_9, .ref ax5_10, .ref ax5_11, .ref ax5_12, .ref ax5_13, .ref ax5_14, .ref ax5_15, .ref ax5_16])), (ax5_3, .inl (cx5_3, 6, .inl fx5_3))] s.heap := hP
  have hl := lv_entry ([.ref h0, .int p0]) (n := 2) (Nat.le_of_ble_eq_true rfl)
  rw [lg_entry_eq]
  generalize (lg_sl ([.ref h0, .int p0]) ++ List.replicate (2 - (lg_sl ([.ref h0, .int p0])).length) Slot.unset).toArray = ls at hl ⊢
  have hl : lv_has ls 2 [(0, .ref h0), (1, .int p0)] := hl
  refine lv_iload_n hx hb dX5_rootType_0 rfl (lv_at hl 1 rfl) ?_
  refine lv_if_lt (tgt := 19) hx hb dX5_rootType_1 (by decide) (fun c_1 => ?_) (fun c_1 => ?_)
  · refine lv_iconst (v := (-1)) hx hb dX5_rootType_19 (by decide) ?_
    have hP9 := hP.sub (ws' := [(h0, .inr (5, [.int xx5_0, .int xx5_1, .ref ax5_2, .ref ax5_3, .ref ax5_4, .ref ax5_5, .ref ax5_6, .ref ax5_7, .ref ax5_8, .ref ax5_9, .ref ax5_10, .ref ax5_11, .ref ax5_12, .ref ax5_13, .ref ax5_14, .ref ax5_15, .ref ax5_16])), (ax5_3, .inl (cx5_3, 6, .inl fx5_3))]) [0, 1] rfl
    have hD9 := hD.sub (ws' := [(h0, .inr (5, [.int xx5_0, .int xx5_1, .ref ax5_2, .ref ax5_3, .ref ax5_4, .ref ax5_5, .ref ax5_6, .ref ax5_7, .ref ax5_8, .ref ax5_9, .ref ax5_10, .ref ax5_11, .ref ax5_12, .ref ax5_13, .ref ax5_14, .ref ax5_15, .ref ax5_16])), (ax5_3, .inl (cx5_3, 6, .inl fx5_3))]) [0, 1] (by decide) rfl
    have hK9 := hK.sub (tys' := [(cx5_3, .int)]) [0] rfl
    refine W.widen (k := 0) (n := 0) (Nat.le_of_ble_eq_true rfl) (Nat.le_of_ble_eq_true rfl) ?_
    exact W.iret (v := (-1)) hx hb hr (fun t ht hW => ⟨⟨(-1), (), rfl, Or.inr (rfl), by rw [ht]; exact hP9, va_K.moved hW.alike hK9, hD9⟩, hS.F ht⟩) hS.2.2 dX5_rootType_20
  · refine lv_iload_n hx hb dX5_rootType_4 rfl (lv_at hl 1 rfl) ?_
    refine lv_bipush (v := 6) hx hb dX5_rootType_5 (by decide) ?_
    refine lv_icmp_ge (tgt := 19) hx hb dX5_rootType_7 (by decide) (fun c_2 => ?_) (fun c_2 => ?_)
    · refine lv_iconst (v := (-1)) hx hb dX5_rootType_19 (by decide) ?_
      have hP9 := hP.sub (ws' := [(h0, .inr (5, [.int xx5_0, .int xx5_1, .ref ax5_2, .ref ax5_3, .ref ax5_4, .ref ax5_5, .ref ax5_6, .ref ax5_7, .ref ax5_8, .ref ax5_9, .ref ax5_10, .ref ax5_11, .ref ax5_12, .ref ax5_13, .ref ax5_14, .ref ax5_15, .ref ax5_16])), (ax5_3, .inl (cx5_3, 6, .inl fx5_3))]) [0, 1] rfl
      have hD9 := hD.sub (ws' := [(h0, .inr (5, [.int xx5_0, .int xx5_1, .ref ax5_2, .ref ax5_3, .ref ax5_4, .ref ax5_5, .ref ax5_6, .ref ax5_7, .ref ax5_8, .ref ax5_9, .ref ax5_10, .ref ax5_11, .ref ax5_12, .ref ax5_13, .ref ax5_14, .ref ax5_15, .ref ax5_16])), (ax5_3, .inl (cx5_3, 6, .inl fx5_3))]) [0, 1] (by decide) rfl
      have hK9 := hK.sub (tys' := [(cx5_3, .int)]) [0] rfl
      refine W.widen (k := 0) (n := 0) (Nat.le_of_ble_eq_true rfl) (Nat.le_of_ble_eq_true rfl) ?_
      exact W.iret (v := (-1)) hx hb hr (fun t ht hW => ⟨⟨(-1), (), rfl, Or.inr (rfl), by rw [ht]; exact hP9, va_K.moved hW.alike hK9, hD9⟩, hS.F ht⟩) hS.2.2 dX5_rootType_20
    · refine lv_aload_n hx hb dX5_rootType_10 rfl (lv_at hl 0 rfl) ?_
      refine va_get (D := (dC, dI)) (ci := 5) (v := .ref ax5_3) (C := RX5) (T := TX5) (N := 17) hx hb hts inlX5 hown hK hP 0 rfl rfl 3 (by decide) (hts (.fieldLink RX5 22 "ShapeReader$Shapes" "rootTypes" "[I") mw_14_15) (fun _ h9 => h9) rfl dX5_rootType_11 ?_
      refine lv_iload_n hx hb dX5_rootType_14 rfl (lv_at hl 1 rfl) ?_
      refine va_iald hx hb hK hP 1 0 rfl rfl (vp_in_iff.mpr (by have a0 := il_nlt c_1; have a1 := il_nle c_2; have e0 : (0 : Int32).toInt = 0 := (by decide); have e1 : (6 : Int32).toInt = 6 := (by decide); omega)) dX5_rootType_15 ?_
      refine lv_topi (fun x_3 ex_3 => ?_)
      refine lv_goto (tgt := 20) hx hb dX5_rootType_16 (by decide) ?_
      have hP9 := hP.sub (ws' := [(h0, .inr (5, [.int xx5_0, .int xx5_1, .ref ax5_2, .ref ax5_3, .ref ax5_4, .ref ax5_5, .ref ax5_6, .ref ax5_7, .ref ax5_8, .ref ax5_9, .ref ax5_10, .ref ax5_11, .ref ax5_12, .ref ax5_13, .ref ax5_14, .ref ax5_15, .ref ax5_16])), (ax5_3, .inl (cx5_3, 6, .inl fx5_3))]) [0, 1] rfl
      have hD9 := hD.sub (ws' := [(h0, .inr (5, [.int xx5_0, .int xx5_1, .ref ax5_2, .ref ax5_3, .ref ax5_4, .ref ax5_5, .ref ax5_6, .ref ax5_7, .ref ax5_8, .ref ax5_9, .ref ax5_10, .ref ax5_11, .ref ax5_12, .ref ax5_13, .ref ax5_14, .ref ax5_15, .ref ax5_16])), (ax5_3, .inl (cx5_3, 6, .inl fx5_3))]) [0, 1] (by decide) rfl
      have hK9 := hK.sub (tys' := [(cx5_3, .int)]) [0] rfl
      refine W.widen (k := 0) (n := 0) (Nat.le_of_ble_eq_true rfl) (Nat.le_of_ble_eq_true rfl) ?_
      exact W.iret (v := x_3) hx hb hr (fun t ht hW => ⟨⟨x_3, (), rfl, Or.inl (⟨(by rw [ex_3]), c_1, c_2⟩), by rw [ht]; exact hP9, va_K.moved hW.alike hK9, hD9⟩, hS.F ht⟩) hS.2.2 dX5_rootType_20

set_option maxRecDepth 100000 in
set_option maxHeartbeats 4000000 in
theorem s_X5_fieldsOf (l : Launch) (dC : Nat → ClassId) (dI : Nat → Nat → Nat) (h0 : Nat) (xx5_0 : Int32) (xx5_1 : Int32) (ax5_2 : Nat) (ax5_3 : Nat) (ax5_4 : Nat) (cx5_4 : ClassId) (fx5_4 : Nat → Int32) (ax5_5 : Nat) (ax5_6 : Nat) (ax5_7 : Nat) (ax5_8 : Nat) (ax5_9 : Nat) (ax5_10 : Nat) (ax5_11 : Nat) (ax5_12 : Nat) (ax5_13 : Nat) (ax5_14 : Nat) (ax5_15 : Nat) (ax5_16 : Nat) (p0 : Int32) (hi_xx5_0 : (0 : Int) ≤ xx5_0.toInt ∧ xx5_0.toInt ≤ (6 : Int)) (hi_xx5_1 : (0 : Int) ≤ xx5_1.toInt ∧ xx5_1.toInt ≤ (262 : Int)) (sz : Nat) : Met l yX5_fieldsOf (.code yX5_fieldsOf cX5_fieldsOf 2 (some .int) :: pw) ({ frames := 1, cells := 0, slots := 0, locals := 20 }) (va_Pc [.ref h0, .int p0] (vPre dC dI [(h0, .inr (5, [.int xx5_0, .int xx5_1, .ref ax5_2, .ref ax5_3, .ref ax5_4, .ref ax5_5, .ref ax5_6, .ref ax5_7, .ref ax5_8, .ref ax5_9, .ref ax5_10, .ref ax5_11, .ref ax5_12, .ref ax5_13, .ref ax5_14, .ref ax5_15, .ref ax5_16])), (ax5_4, .inl (cx5_4, 36, .inl fx5_4))] [(cx5_4, .int)] sz)) (va_Qi (fun (r : Int32) (_ : Unit) => (r = (fx5_4 p0.toNatClampNeg)) ∨ (r = 0)) (fun (_ : Unit) t => vPst dC dI (va_A [(h0, .inr (5, [.int xx5_0, .int xx5_1, .ref ax5_2, .ref ax5_3, .ref ax5_4, .ref ax5_5, .ref ax5_6, .ref ax5_7, .ref ax5_8, .ref ax5_9, .ref ax5_10, .ref ax5_11, .ref ax5_12, .ref ax5_13, .ref ax5_14, .ref ax5_15, .ref ax5_16])), (ax5_4, .inl (cx5_4, 36, .inl fx5_4))] sz) [(h0, .inr (5, [.int xx5_0, .int xx5_1, .ref ax5_2, .ref ax5_3, .ref ax5_4, .ref ax5_5, .ref ax5_6, .ref ax5_7, .ref ax5_8, .ref ax5_9, .ref ax5_10, .ref ax5_11, .ref ax5_12, .ref ax5_13, .ref ax5_14, .ref ax5_15, .ref ax5_16])), (ax5_4, .inl (cx5_4, 36, .inl fx5_4))] [(cx5_4, .int)] t) (va_A [(h0, .inr (5, [.int xx5_0, .int xx5_1, .ref ax5_2, .ref ax5_3, .ref ax5_4, .ref ax5_5, .ref ax5_6, .ref ax5_7, .ref ax5_8, .ref ax5_9, .ref ax5_10, .ref ax5_11, .ref ax5_12, .ref ax5_13, .ref ax5_14, .ref ax5_15, .ref ax5_16])), (ax5_4, .inl (cx5_4, 36, .inl fx5_4))] sz)) 0 0 (va_A [(h0, .inr (5, [.int xx5_0, .int xx5_1, .ref ax5_2, .ref ax5_3, .ref ax5_4, .ref ax5_5, .ref ax5_6, .ref ax5_7, .ref ax5_8, .ref ax5_9, .ref ax5_10, .ref ax5_11, .ref ax5_12, .ref ax5_13, .ref ax5_14, .ref ax5_15, .ref ax5_16])), (ax5_4, .inl (cx5_4, 36, .inl fx5_4))] sz) := by
  refine Met.ofW (cc := cX5_fieldsOf) (maxL := 2) (ret := (some .int)) (by decide) rfl ?_
  intro p e s m args below meth c s₁ B hml hv
  obtain ⟨rfl, hsz, hP, hK, hD0, hN⟩ := hv
  have hx := B.exec
  have hb := B.bytes
  have hr := B.returns
  have hts := atoms_spec (ws := .code yX5_fieldsOf cX5_fieldsOf 2 (some .int) :: pw) B.pre
  have hts : ∀ w ∈ pw, w.before _ s = true := fun w h => hts w (List.mem_cons_of_mem _ h)
  have hown : s.vm.findClass RX5 = some m.cls := findClass_of_methodNamed B.named
  have hlocks := B.notSynchronized
  subst hsz
  have hD := hD0.self (sz := s.heap.size)
  generalize hAe : va_A [(h0, .inr (5, [.int xx5_0, .int xx5_1, .ref ax5_2, .ref ax5_3, .ref ax5_4, .ref ax5_5, .ref ax5_6, .ref ax5_7, .ref ax5_8, .ref ax5_9, .ref ax5_10, .ref ax5_11, .ref ax5_12, .ref ax5_13, .ref ax5_14, .ref ax5_15, .ref ax5_16])), (ax5_4, .inl (cx5_4, 36, .inl fx5_4))] s.heap.size = A at hD ⊢
  have hA : ∀ q : Nat, s.heap.size ≤ q → A q := fun q h => by rw [← hAe]; exact Or.inr h
  have hS : va_S A s.heap s.heap [] := va_S.rf
  have hP : va_P (dC, dI) vwCl [(h0, .inr (5, [.int xx5_0, .int xx5_1, .ref ax5_2, .ref ax5_3, .ref ax5_4, .ref ax5_5, .ref ax5_6, .ref ax5_7, .ref ax5_8, .ref ax5_9, .ref ax5_10, .ref ax5_11, .ref ax5_12, .ref ax5_13, .ref ax5_14, .ref ax5_15, .ref ax5_16])), (ax5_4, .inl (cx5_4, 36, .inl fx5_4))] s.heap := hP
  have hl := lv_entry ([.ref h0, .int p0]) (n := 2) (Nat.le_of_ble_eq_true rfl)
  rw [lg_entry_eq]
  generalize (lg_sl ([.ref h0, .int p0]) ++ List.replicate (2 - (lg_sl ([.ref h0, .int p0])).length) Slot.unset).toArray = ls at hl ⊢
  have hl : lv_has ls 2 [(0, .ref h0), (1, .int p0)] := hl
  refine lv_iload_n hx hb dX5_fieldsOf_0 rfl (lv_at hl 1 rfl) ?_
  have hPc := hP.sub (ws' := []) [] rfl
  have hDc := hD.sub (ws' := []) [] (by decide) rfl
  have hKc := hK.sub (tys' := []) [] rfl
  have hFc := va_free (wc := []) hD hS hA [] rfl
  refine va_calli (va_runS (As := [.int p0]) (rest := []) ⟨hx, hb, hml, hown, hts⟩ (s_X5_isRecord l dC dI p0 s.heap.size) (va_cwS 1 hts (gS mw_14_29 mw_15_0 mw_0_9 mw_48_24) rfl rfl rfl (by decide +kernel) ⟨(Nat.le_of_ble_eq_true rfl), (Nat.le_of_ble_eq_true rfl)⟩) (vS hKc hPc hDc hN) rfl rfl hl.1 rfl (lv_room (Nat.le_of_ble_eq_true rfl)) dX5_fieldsOf_1 ⟨(Nat.le_of_ble_eq_true rfl), (Nat.le_of_ble_eq_true rfl)⟩) hS (fun q _ h => hFc q h) hFc (fun r_1 u t H1 locs ht hvm hw hB hz1 hk1 hS => ?_)
  obtain ⟨hP1, hK1, hD1⟩ := hB
  rw [ht] at hP1
  have hK1 := va_K.moved hvm.symm hK1
  obtain ⟨hP, hD⟩ := va_join (wr := [(h0, .inr (5, [.int xx5_0, .int xx5_1, .ref ax5_2, .ref ax5_3, .ref ax5_4, .ref ax5_5, .ref ax5_6, .ref ax5_7, .ref ax5_8, .ref ax5_9, .ref ax5_10, .ref ax5_11, .ref ax5_12, .ref ax5_13, .ref ax5_14, .ref ax5_15, .ref ax5_16])), (ax5_4, .inl (cx5_4, 36, .inl fx5_4))]) (w1 := []) hP hD [] [0, 1] rfl rfl (by decide) (by decide) hk1 hFc hP1 hD1
  clear hPc hDc hKc hP1 hK1 hD1 hFc hk1 hz1
  generalize H1 = H at hP hS ⊢
  have hP : va_P (dC, dI) vwCl [(h0, .inr (5, [.int xx5_0, .int xx5_1, .ref ax5_2, .ref ax5_3, .ref ax5_4, .ref ax5_5, .ref ax5_6, .ref ax5_7, .ref ax5_8, .ref ax5_9, .ref ax5_10, .ref ax5_11, .ref ax5_12, .ref ax5_13, .ref ax5_14, .ref ax5_15, .ref ax5_16])), (ax5_4, .inl (cx5_4, 36, .inl fx5_4))] H := hP
  have hD : va_D A [(h0, .inr (5, [.int xx5_0, .int xx5_1, .ref ax5_2, .ref ax5_3, .ref ax5_4, .ref ax5_5, .ref ax5_6, .ref ax5_7, .ref ax5_8, .ref ax5_9, .ref ax5_10, .ref ax5_11, .ref ax5_12, .ref ax5_13, .ref ax5_14, .ref ax5_15, .ref ax5_16])), (ax5_4, .inl (cx5_4, 36, .inl fx5_4))] := hD
  rcases hw with rfl | ⟨rfl, g_2, g_3⟩
  · refine lv_if_eq (tgt := 16) hx hb dX5_fieldsOf_4 (by decide) (fun _ => ?_) (fun h => absurd (by decide) h)
    refine lv_iconst (v := 0) hx hb dX5_fieldsOf_16 (by decide) ?_
    have hP9 := hP.sub (ws' := [(h0, .inr (5, [.int xx5_0, .int xx5_1, .ref ax5_2, .ref ax5_3, .ref ax5_4, .ref ax5_5, .ref ax5_6, .ref ax5_7, .ref ax5_8, .ref ax5_9, .ref ax5_10, .ref ax5_11, .ref ax5_12, .ref ax5_13, .ref ax5_14, .ref ax5_15, .ref ax5_16])), (ax5_4, .inl (cx5_4, 36, .inl fx5_4))]) [0, 1] rfl
    have hD9 := hD.sub (ws' := [(h0, .inr (5, [.int xx5_0, .int xx5_1, .ref ax5_2, .ref ax5_3, .ref ax5_4, .ref ax5_5, .ref ax5_6, .ref ax5_7, .ref ax5_8, .ref ax5_9, .ref ax5_10, .ref ax5_11, .ref ax5_12, .ref ax5_13, .ref ax5_14, .ref ax5_15, .ref ax5_16])), (ax5_4, .inl (cx5_4, 36, .inl fx5_4))]) [0, 1] (by decide) rfl
    have hK9 := hK.sub (tys' := [(cx5_4, .int)]) [0] rfl
    refine W.widen (k := 0) (n := 0) (Nat.le_of_ble_eq_true rfl) (Nat.le_of_ble_eq_true rfl) ?_
    exact W.iret (v := 0) hx hb hr (fun t ht hW => ⟨⟨0, (), rfl, Or.inr (rfl), by rw [ht]; exact hP9, va_K.moved hW.alike hK9, hD9⟩, hS.F ht⟩) hS.2.2 dX5_fieldsOf_17
  · refine lv_if_eq (tgt := 16) hx hb dX5_fieldsOf_4 (by decide) (fun h => absurd h (by decide)) (fun _ => ?_)
    refine lv_aload_n hx hb dX5_fieldsOf_7 rfl (lv_at hl 0 rfl) ?_
    refine va_get (D := (dC, dI)) (ci := 5) (v := .ref ax5_4) (C := RX5) (T := TX5) (N := 17) hx hb hts inlX5 hown hK hP 0 rfl rfl 4 (by decide) (hts (.fieldLink RX5 25 "ShapeReader$Shapes" "fieldCounts" "[I") mw_14_16) (fun _ h9 => h9) rfl dX5_fieldsOf_8 ?_
    refine lv_iload_n hx hb dX5_fieldsOf_11 rfl (lv_at hl 1 rfl) ?_
    refine va_iald hx hb hK hP 1 0 rfl rfl (vp_in_iff.mpr (by have a0 := il_nlt g_2; have a1 := il_nle g_3; have e0 : (0 : Int32).toInt = 0 := (by decide); have e1 : (36 : Int32).toInt = 36 := (by decide); omega)) dX5_fieldsOf_12 ?_
    refine lv_topi (fun x_6 ex_6 => ?_)
    refine lv_goto (tgt := 17) hx hb dX5_fieldsOf_13 (by decide) ?_
    have hP9 := hP.sub (ws' := [(h0, .inr (5, [.int xx5_0, .int xx5_1, .ref ax5_2, .ref ax5_3, .ref ax5_4, .ref ax5_5, .ref ax5_6, .ref ax5_7, .ref ax5_8, .ref ax5_9, .ref ax5_10, .ref ax5_11, .ref ax5_12, .ref ax5_13, .ref ax5_14, .ref ax5_15, .ref ax5_16])), (ax5_4, .inl (cx5_4, 36, .inl fx5_4))]) [0, 1] rfl
    have hD9 := hD.sub (ws' := [(h0, .inr (5, [.int xx5_0, .int xx5_1, .ref ax5_2, .ref ax5_3, .ref ax5_4, .ref ax5_5, .ref ax5_6, .ref ax5_7, .ref ax5_8, .ref ax5_9, .ref ax5_10, .ref ax5_11, .ref ax5_12, .ref ax5_13, .ref ax5_14, .ref ax5_15, .ref ax5_16])), (ax5_4, .inl (cx5_4, 36, .inl fx5_4))]) [0, 1] (by decide) rfl
    have hK9 := hK.sub (tys' := [(cx5_4, .int)]) [0] rfl
    refine W.widen (k := 0) (n := 0) (Nat.le_of_ble_eq_true rfl) (Nat.le_of_ble_eq_true rfl) ?_
    exact W.iret (v := x_6) hx hb hr (fun t ht hW => ⟨⟨x_6, (), rfl, Or.inl ((by rw [ex_6])), by rw [ht]; exact hP9, va_K.moved hW.alike hK9, hD9⟩, hS.F ht⟩) hS.2.2 dX5_fieldsOf_17

set_option maxRecDepth 100000 in
set_option maxHeartbeats 4000000 in
theorem s_X5_recordName (l : Launch) (dC : Nat → ClassId) (dI : Nat → Nat → Nat) (h0 : Nat) (xx5_0 : Int32) (xx5_1 : Int32) (ax5_2 : Nat) (ax5_3 : Nat) (ax5_4 : Nat) (ax5_5 : Nat) (cx5_5 : ClassId) (fx5_5 : Nat → Int64) (ax5_6 : Nat) (ax5_7 : Nat) (ax5_8 : Nat) (ax5_9 : Nat) (ax5_10 : Nat) (ax5_11 : Nat) (ax5_12 : Nat) (ax5_13 : Nat) (ax5_14 : Nat) (ax5_15 : Nat) (ax5_16 : Nat) (p0 : Int32) (hi_xx5_0 : (0 : Int) ≤ xx5_0.toInt ∧ xx5_0.toInt ≤ (6 : Int)) (hi_xx5_1 : (0 : Int) ≤ xx5_1.toInt ∧ xx5_1.toInt ≤ (262 : Int)) (sz : Nat) : Met l yX5_recordName (.code yX5_recordName cX5_recordName 2 (some .long) :: pw) ({ frames := 1, cells := 0, slots := 0, locals := 20 }) (va_Pc [.ref h0, .int p0] (vPre dC dI [(h0, .inr (5, [.int xx5_0, .int xx5_1, .ref ax5_2, .ref ax5_3, .ref ax5_4, .ref ax5_5, .ref ax5_6, .ref ax5_7, .ref ax5_8, .ref ax5_9, .ref ax5_10, .ref ax5_11, .ref ax5_12, .ref ax5_13, .ref ax5_14, .ref ax5_15, .ref ax5_16])), (ax5_5, .inl (cx5_5, 36, .inr (.inl fx5_5)))] [(cx5_5, .long)] sz)) (va_Ql (fun (r : Int64) (_ : Unit) => (r = (fx5_5 p0.toNatClampNeg)) ∨ (r = 0)) (fun (_ : Unit) t => vPst dC dI (va_A [(h0, .inr (5, [.int xx5_0, .int xx5_1, .ref ax5_2, .ref ax5_3, .ref ax5_4, .ref ax5_5, .ref ax5_6, .ref ax5_7, .ref ax5_8, .ref ax5_9, .ref ax5_10, .ref ax5_11, .ref ax5_12, .ref ax5_13, .ref ax5_14, .ref ax5_15, .ref ax5_16])), (ax5_5, .inl (cx5_5, 36, .inr (.inl fx5_5)))] sz) [(h0, .inr (5, [.int xx5_0, .int xx5_1, .ref ax5_2, .ref ax5_3, .ref ax5_4, .ref ax5_5, .ref ax5_6, .ref ax5_7, .ref ax5_8, .ref ax5_9, .ref ax5_10, .ref ax5_11, .ref ax5_12, .ref ax5_13, .ref ax5_14, .ref ax5_15, .ref ax5_16])), (ax5_5, .inl (cx5_5, 36, .inr (.inl fx5_5)))] [(cx5_5, .long)] t) (va_A [(h0, .inr (5, [.int xx5_0, .int xx5_1, .ref ax5_2, .ref ax5_3, .ref ax5_4, .ref ax5_5, .ref ax5_6, .ref ax5_7, .ref ax5_8, .ref ax5_9, .ref ax5_10, .ref ax5_11, .ref ax5_12, .ref ax5_13, .ref ax5_14, .ref ax5_15, .ref ax5_16])), (ax5_5, .inl (cx5_5, 36, .inr (.inl fx5_5)))] sz)) 0 0 (va_A [(h0, .inr (5, [.int xx5_0, .int xx5_1, .ref ax5_2, .ref ax5_3, .ref ax5_4, .ref ax5_5, .ref ax5_6, .ref ax5_7, .ref ax5_8, .ref ax5_9, .ref ax5_10, .ref ax5_11, .ref ax5_12, .ref ax5_13, .ref ax5_14, .ref ax5_15, .ref ax5_16])), (ax5_5, .inl (cx5_5, 36, .inr (.inl fx5_5)))] sz) := by
  refine Met.ofW (cc := cX5_recordName) (maxL := 2) (ret := (some .long)) (by decide) rfl ?_
  intro p e s m args below meth c s₁ B hml hv
  obtain ⟨rfl, hsz, hP, hK, hD0, hN⟩ := hv
  have hx := B.exec
  have hb := B.bytes
  have hr := B.returns
  have hts := atoms_spec (ws := .code yX5_recordName cX5_recordName 2 (some .long) :: pw) B.pre
  have hts : ∀ w ∈ pw, w.before _ s = true := fun w h => hts w (List.mem_cons_of_mem _ h)
  have hown : s.vm.findClass RX5 = some m.cls := findClass_of_methodNamed B.named
  have hlocks := B.notSynchronized
  subst hsz
  have hD := hD0.self (sz := s.heap.size)
  generalize hAe : va_A [(h0, .inr (5, [.int xx5_0, .int xx5_1, .ref ax5_2, .ref ax5_3, .ref ax5_4, .ref ax5_5, .ref ax5_6, .ref ax5_7, .ref ax5_8, .ref ax5_9, .ref ax5_10, .ref ax5_11, .ref ax5_12, .ref ax5_13, .ref ax5_14, .ref ax5_15, .ref ax5_16])), (ax5_5, .inl (cx5_5, 36, .inr (.inl fx5_5)))] s.heap.size = A at hD ⊢
  have hA : ∀ q : Nat, s.heap.size ≤ q → A q := fun q h => by rw [← hAe]; exact Or.inr h
  have hS : va_S A s.heap s.heap [] := va_S.rf
  have hP : va_P (dC, dI) vwCl [(h0, .inr (5, [.int xx5_0, .int xx5_1, .ref ax5_2, .ref ax5_3, .ref ax5_4, .ref ax5_5, .ref ax5_6, .ref ax5_7, .ref ax5_8, .ref ax5_9, .ref ax5_10, .ref ax5_11, .ref ax5_12, .ref ax5_13, .ref ax5_14, .ref ax5_15, .ref ax5_16])), (ax5_5, .inl (cx5_5, 36, .inr (.inl fx5_5)))] s.heap := hP
  have hl := lv_entry ([.ref h0, .int p0]) (n := 2) (Nat.le_of_ble_eq_true rfl)
  rw [lg_entry_eq]
  generalize (lg_sl ([.ref h0, .int p0]) ++ List.replicate (2 - (lg_sl ([.ref h0, .int p0])).length) Slot.unset).toArray = ls at hl ⊢
  have hl : lv_has ls 2 [(0, .ref h0), (1, .int p0)] := hl
  refine lv_iload_n hx hb dX5_recordName_0 rfl (lv_at hl 1 rfl) ?_
  have hPc := hP.sub (ws' := []) [] rfl
  have hDc := hD.sub (ws' := []) [] (by decide) rfl
  have hKc := hK.sub (tys' := []) [] rfl
  have hFc := va_free (wc := []) hD hS hA [] rfl
  refine va_calli (va_runS (As := [.int p0]) (rest := []) ⟨hx, hb, hml, hown, hts⟩ (s_X5_isRecord l dC dI p0 s.heap.size) (va_cwS 1 hts (gS mw_14_29 mw_15_0 mw_0_9 mw_48_24) rfl rfl rfl (by decide +kernel) ⟨(Nat.le_of_ble_eq_true rfl), (Nat.le_of_ble_eq_true rfl)⟩) (vS hKc hPc hDc hN) rfl rfl hl.1 rfl (lv_room (Nat.le_of_ble_eq_true rfl)) dX5_recordName_1 ⟨(Nat.le_of_ble_eq_true rfl), (Nat.le_of_ble_eq_true rfl)⟩) hS (fun q _ h => hFc q h) hFc (fun r_1 u t H1 locs ht hvm hw hB hz1 hk1 hS => ?_)
  obtain ⟨hP1, hK1, hD1⟩ := hB
  rw [ht] at hP1
  have hK1 := va_K.moved hvm.symm hK1
  obtain ⟨hP, hD⟩ := va_join (wr := [(h0, .inr (5, [.int xx5_0, .int xx5_1, .ref ax5_2, .ref ax5_3, .ref ax5_4, .ref ax5_5, .ref ax5_6, .ref ax5_7, .ref ax5_8, .ref ax5_9, .ref ax5_10, .ref ax5_11, .ref ax5_12, .ref ax5_13, .ref ax5_14, .ref ax5_15, .ref ax5_16])), (ax5_5, .inl (cx5_5, 36, .inr (.inl fx5_5)))]) (w1 := []) hP hD [] [0, 1] rfl rfl (by decide) (by decide) hk1 hFc hP1 hD1
  clear hPc hDc hKc hP1 hK1 hD1 hFc hk1 hz1
  generalize H1 = H at hP hS ⊢
  have hP : va_P (dC, dI) vwCl [(h0, .inr (5, [.int xx5_0, .int xx5_1, .ref ax5_2, .ref ax5_3, .ref ax5_4, .ref ax5_5, .ref ax5_6, .ref ax5_7, .ref ax5_8, .ref ax5_9, .ref ax5_10, .ref ax5_11, .ref ax5_12, .ref ax5_13, .ref ax5_14, .ref ax5_15, .ref ax5_16])), (ax5_5, .inl (cx5_5, 36, .inr (.inl fx5_5)))] H := hP
  have hD : va_D A [(h0, .inr (5, [.int xx5_0, .int xx5_1, .ref ax5_2, .ref ax5_3, .ref ax5_4, .ref ax5_5, .ref ax5_6, .ref ax5_7, .ref ax5_8, .ref ax5_9, .ref ax5_10, .ref ax5_11, .ref ax5_12, .ref ax5_13, .ref ax5_14, .ref ax5_15, .ref ax5_16])), (ax5_5, .inl (cx5_5, 36, .inr (.inl fx5_5)))] := hD
  rcases hw with rfl | ⟨rfl, g_2, g_3⟩
  · refine lv_if_eq (tgt := 16) hx hb dX5_recordName_4 (by decide) (fun _ => ?_) (fun h => absurd (by decide) h)
    refine lv_lconst (v := 0) hx hb dX5_recordName_16 (by decide) ?_
    have hP9 := hP.sub (ws' := [(h0, .inr (5, [.int xx5_0, .int xx5_1, .ref ax5_2, .ref ax5_3, .ref ax5_4, .ref ax5_5, .ref ax5_6, .ref ax5_7, .ref ax5_8, .ref ax5_9, .ref ax5_10, .ref ax5_11, .ref ax5_12, .ref ax5_13, .ref ax5_14, .ref ax5_15, .ref ax5_16])), (ax5_5, .inl (cx5_5, 36, .inr (.inl fx5_5)))]) [0, 1] rfl
    have hD9 := hD.sub (ws' := [(h0, .inr (5, [.int xx5_0, .int xx5_1, .ref ax5_2, .ref ax5_3, .ref ax5_4, .ref ax5_5, .ref ax5_6, .ref ax5_7, .ref ax5_8, .ref ax5_9, .ref ax5_10, .ref ax5_11, .ref ax5_12, .ref ax5_13, .ref ax5_14, .ref ax5_15, .ref ax5_16])), (ax5_5, .inl (cx5_5, 36, .inr (.inl fx5_5)))]) [0, 1] (by decide) rfl
    have hK9 := hK.sub (tys' := [(cx5_5, .long)]) [0] rfl
    refine W.widen (k := 0) (n := 0) (Nat.le_of_ble_eq_true rfl) (Nat.le_of_ble_eq_true rfl) ?_
    exact W.lret (v := 0) hx hb hr (fun t ht hW => ⟨⟨0, (), rfl, Or.inr (rfl), by rw [ht]; exact hP9, va_K.moved hW.alike hK9, hD9⟩, hS.F ht⟩) hS.2.2 dX5_recordName_17
  · refine lv_if_eq (tgt := 16) hx hb dX5_recordName_4 (by decide) (fun h => absurd h (by decide)) (fun _ => ?_)
    refine lv_aload_n hx hb dX5_recordName_7 rfl (lv_at hl 0 rfl) ?_
    refine va_get (D := (dC, dI)) (ci := 5) (v := .ref ax5_5) (C := RX5) (T := TX5) (N := 17) hx hb hts inlX5 hown hK hP 0 rfl rfl 5 (by decide) (hts (.fieldLink RX5 28 "ShapeReader$Shapes" "recordNames" "[J") mw_14_17) (fun _ h9 => h9) rfl dX5_recordName_8 ?_
    refine lv_iload_n hx hb dX5_recordName_11 rfl (lv_at hl 1 rfl) ?_
    refine va_lald hx hb hK hP 1 0 rfl rfl (vp_in_iff.mpr (by have a0 := il_nlt g_2; have a1 := il_nle g_3; have e0 : (0 : Int32).toInt = 0 := (by decide); have e1 : (36 : Int32).toInt = 36 := (by decide); omega)) dX5_recordName_12 ?_
    refine lv_topl (fun x_6 ex_6 => ?_)
    refine lv_goto (tgt := 17) hx hb dX5_recordName_13 (by decide) ?_
    have hP9 := hP.sub (ws' := [(h0, .inr (5, [.int xx5_0, .int xx5_1, .ref ax5_2, .ref ax5_3, .ref ax5_4, .ref ax5_5, .ref ax5_6, .ref ax5_7, .ref ax5_8, .ref ax5_9, .ref ax5_10, .ref ax5_11, .ref ax5_12, .ref ax5_13, .ref ax5_14, .ref ax5_15, .ref ax5_16])), (ax5_5, .inl (cx5_5, 36, .inr (.inl fx5_5)))]) [0, 1] rfl
    have hD9 := hD.sub (ws' := [(h0, .inr (5, [.int xx5_0, .int xx5_1, .ref ax5_2, .ref ax5_3, .ref ax5_4, .ref ax5_5, .ref ax5_6, .ref ax5_7, .ref ax5_8, .ref ax5_9, .ref ax5_10, .ref ax5_11, .ref ax5_12, .ref ax5_13, .ref ax5_14, .ref ax5_15, .ref ax5_16])), (ax5_5, .inl (cx5_5, 36, .inr (.inl fx5_5)))]) [0, 1] (by decide) rfl
    have hK9 := hK.sub (tys' := [(cx5_5, .long)]) [0] rfl
    refine W.widen (k := 0) (n := 0) (Nat.le_of_ble_eq_true rfl) (Nat.le_of_ble_eq_true rfl) ?_
    exact W.lret (v := x_6) hx hb hr (fun t ht hW => ⟨⟨x_6, (), rfl, Or.inl ((by rw [ex_6])), by rw [ht]; exact hP9, va_K.moved hW.alike hK9, hD9⟩, hS.F ht⟩) hS.2.2 dX5_recordName_17

set_option maxRecDepth 100000 in
set_option maxHeartbeats 4000000 in
theorem s_X5_fieldName (l : Launch) (dC : Nat → ClassId) (dI : Nat → Nat → Nat) (h0 : Nat) (xx5_0 : Int32) (xx5_1 : Int32) (ax5_2 : Nat) (ax5_3 : Nat) (ax5_4 : Nat) (ax5_5 : Nat) (ax5_6 : Nat) (ax5_7 : Nat) (ax5_8 : Nat) (cx5_8 : ClassId) (fx5_8 : Nat → Int64) (ax5_9 : Nat) (ax5_10 : Nat) (ax5_11 : Nat) (ax5_12 : Nat) (ax5_13 : Nat) (ax5_14 : Nat) (ax5_15 : Nat) (ax5_16 : Nat) (p0 : Int32) (p1 : Int32) (hi_xx5_0 : (0 : Int) ≤ xx5_0.toInt ∧ xx5_0.toInt ≤ (6 : Int)) (hi_xx5_1 : (0 : Int) ≤ xx5_1.toInt ∧ xx5_1.toInt ≤ (262 : Int)) (sz : Nat) : Met l yX5_fieldName (.code yX5_fieldName cX5_fieldName 3 (some .long) :: pw) ({ frames := 1, cells := 0, slots := 0, locals := 21 }) (va_Pc [.ref h0, .int p0, .int p1] (vPre dC dI [(h0, .inr (5, [.int xx5_0, .int xx5_1, .ref ax5_2, .ref ax5_3, .ref ax5_4, .ref ax5_5, .ref ax5_6, .ref ax5_7, .ref ax5_8, .ref ax5_9, .ref ax5_10, .ref ax5_11, .ref ax5_12, .ref ax5_13, .ref ax5_14, .ref ax5_15, .ref ax5_16])), (ax5_8, .inl (cx5_8, 288, .inr (.inl fx5_8)))] [(cx5_8, .long)] sz)) (va_Ql (fun (r : Int64) (_ : Unit) => (r = (fx5_8 ((p0 * 8) + p1).toNatClampNeg)) ∨ (r = 0)) (fun (_ : Unit) t => vPst dC dI (va_A [(h0, .inr (5, [.int xx5_0, .int xx5_1, .ref ax5_2, .ref ax5_3, .ref ax5_4, .ref ax5_5, .ref ax5_6, .ref ax5_7, .ref ax5_8, .ref ax5_9, .ref ax5_10, .ref ax5_11, .ref ax5_12, .ref ax5_13, .ref ax5_14, .ref ax5_15, .ref ax5_16])), (ax5_8, .inl (cx5_8, 288, .inr (.inl fx5_8)))] sz) [(h0, .inr (5, [.int xx5_0, .int xx5_1, .ref ax5_2, .ref ax5_3, .ref ax5_4, .ref ax5_5, .ref ax5_6, .ref ax5_7, .ref ax5_8, .ref ax5_9, .ref ax5_10, .ref ax5_11, .ref ax5_12, .ref ax5_13, .ref ax5_14, .ref ax5_15, .ref ax5_16])), (ax5_8, .inl (cx5_8, 288, .inr (.inl fx5_8)))] [(cx5_8, .long)] t) (va_A [(h0, .inr (5, [.int xx5_0, .int xx5_1, .ref ax5_2, .ref ax5_3, .ref ax5_4, .ref ax5_5, .ref ax5_6, .ref ax5_7, .ref ax5_8, .ref ax5_9, .ref ax5_10, .ref ax5_11, .ref ax5_12, .ref ax5_13, .ref ax5_14, .ref ax5_15, .ref ax5_16])), (ax5_8, .inl (cx5_8, 288, .inr (.inl fx5_8)))] sz)) 0 0 (va_A [(h0, .inr (5, [.int xx5_0, .int xx5_1, .ref ax5_2, .ref ax5_3, .ref ax5_4, .ref ax5_5, .ref ax5_6, .ref ax5_7, .ref ax5_8, .ref ax5_9, .ref ax5_10, .ref ax5_11, .ref ax5_12, .ref ax5_13, .ref ax5_14, .ref ax5_15, .ref ax5_16])), (ax5_8, .inl (cx5_8, 288, .inr (.inl fx5_8)))] sz) := by
  refine Met.ofW (cc := cX5_fieldName) (maxL := 3) (ret := (some .long)) (by decide) rfl ?_
  intro p e s m args below meth c s₁ B hml hv
  obtain ⟨rfl, hsz, hP, hK, hD0, hN⟩ := hv
  have hx := B.exec
  have hb := B.bytes
  have hr := B.returns
  have hts := atoms_spec (ws := .code yX5_fieldName cX5_fieldName 3 (some .long) :: pw) B.pre
  have hts : ∀ w ∈ pw, w.before _ s = true := fun w h => hts w (List.mem_cons_of_mem _ h)
  have hown : s.vm.findClass RX5 = some m.cls := findClass_of_methodNamed B.named
  have hlocks := B.notSynchronized
  subst hsz
  have hD := hD0.self (sz := s.heap.size)
  generalize hAe : va_A [(h0, .inr (5, [.int xx5_0, .int xx5_1, .ref ax5_2, .ref ax5_3, .ref ax5_4, .ref ax5_5, .ref ax5_6, .ref ax5_7, .ref ax5_8, .ref ax5_9, .ref ax5_10, .ref ax5_11, .ref ax5_12, .ref ax5_13, .ref ax5_14, .ref ax5_15, .ref ax5_16])), (ax5_8, .inl (cx5_8, 288, .inr (.inl fx5_8)))] s.heap.size = A at hD ⊢
  have hA : ∀ q : Nat, s.heap.size ≤ q → A q := fun q h => by rw [← hAe]; exact Or.inr h
  have hS : va_S A s.heap s.heap [] := va_S.rf
  have hP : va_P (dC, dI) vwCl [(h0, .inr (5, [.int xx5_0, .int xx5_1, .ref ax5_2, .ref ax5_3, .ref ax5_4, .ref ax5_5, .ref ax5_6, .ref ax5_7, .ref ax5_8, .ref ax5_9, .ref ax5_10, .ref ax5_11, .ref ax5_12, .ref ax5_13, .ref ax5_14, .ref ax5_15, .ref ax5_16])), (ax5_8, .inl (cx5_8, 288, .inr (.inl fx5_8)))] s.heap := hP
  have hl := lv_entry ([.ref h0, .int p0, .int p1]) (n := 3) (Nat.le_of_ble_eq_true rfl)
  rw [lg_entry_eq]
  generalize (lg_sl ([.ref h0, .int p0, .int p1]) ++ List.replicate (3 - (lg_sl ([.ref h0, .int p0, .int p1])).length) Slot.unset).toArray = ls at hl ⊢
  have hl : lv_has ls 3 [(0, .ref h0), (1, .int p0), (2, .int p1)] := hl
  refine lv_iload_n hx hb dX5_fieldName_0 rfl (lv_at hl 1 rfl) ?_
  refine lv_iload_n hx hb dX5_fieldName_1 rfl (lv_at hl 2 rfl) ?_
  have hPc := hP.sub (ws' := []) [] rfl
  have hDc := hD.sub (ws' := []) [] (by decide) rfl
  have hKc := hK.sub (tys' := []) [] rfl
  have hFc := va_free (wc := []) hD hS hA [] rfl
  refine va_calli (va_runS (As := [.int p0, .int p1]) (rest := []) ⟨hx, hb, hml, hown, hts⟩ (s_X5_isFieldOf l dC dI p0 p1 s.heap.size) (va_cwS 2 hts (gS mw_15_1 mw_15_2 mw_0_9 mw_48_25) rfl rfl rfl (by decide +kernel) ⟨(Nat.le_of_ble_eq_true rfl), (Nat.le_of_ble_eq_true rfl)⟩) (vS hKc hPc hDc hN) rfl rfl hl.1 rfl (lv_room (Nat.le_of_ble_eq_true rfl)) dX5_fieldName_2 ⟨(Nat.le_of_ble_eq_true rfl), (Nat.le_of_ble_eq_true rfl)⟩) hS (fun q _ h => hFc q h) hFc (fun r_1 u t H1 locs ht hvm hw hB hz1 hk1 hS => ?_)
  obtain ⟨hP1, hK1, hD1⟩ := hB
  rw [ht] at hP1
  have hK1 := va_K.moved hvm.symm hK1
  obtain ⟨hP, hD⟩ := va_join (wr := [(h0, .inr (5, [.int xx5_0, .int xx5_1, .ref ax5_2, .ref ax5_3, .ref ax5_4, .ref ax5_5, .ref ax5_6, .ref ax5_7, .ref ax5_8, .ref ax5_9, .ref ax5_10, .ref ax5_11, .ref ax5_12, .ref ax5_13, .ref ax5_14, .ref ax5_15, .ref ax5_16])), (ax5_8, .inl (cx5_8, 288, .inr (.inl fx5_8)))]) (w1 := []) hP hD [] [0, 1] rfl rfl (by decide) (by decide) hk1 hFc hP1 hD1
  clear hPc hDc hKc hP1 hK1 hD1 hFc hk1 hz1
  generalize H1 = H at hP hS ⊢
  have hP : va_P (dC, dI) vwCl [(h0, .inr (5, [.int xx5_0, .int xx5_1, .ref ax5_2, .ref ax5_3, .ref ax5_4, .ref ax5_5, .ref ax5_6, .ref ax5_7, .ref ax5_8, .ref ax5_9, .ref ax5_10, .ref ax5_11, .ref ax5_12, .ref ax5_13, .ref ax5_14, .ref ax5_15, .ref ax5_16])), (ax5_8, .inl (cx5_8, 288, .inr (.inl fx5_8)))] H := hP
  have hD : va_D A [(h0, .inr (5, [.int xx5_0, .int xx5_1, .ref ax5_2, .ref ax5_3, .ref ax5_4, .ref ax5_5, .ref ax5_6, .ref ax5_7, .ref ax5_8, .ref ax5_9, .ref ax5_10, .ref ax5_11, .ref ax5_12, .ref ax5_13, .ref ax5_14, .ref ax5_15, .ref ax5_16])), (ax5_8, .inl (cx5_8, 288, .inr (.inl fx5_8)))] := hD
  rcases hw with rfl | ⟨rfl, g_2, g_3, g_4, g_5⟩
  · refine lv_if_eq (tgt := 22) hx hb dX5_fieldName_5 (by decide) (fun _ => ?_) (fun h => absurd (by decide) h)
    refine lv_lconst (v := 0) hx hb dX5_fieldName_22 (by decide) ?_
    have hP9 := hP.sub (ws' := [(h0, .inr (5, [.int xx5_0, .int xx5_1, .ref ax5_2, .ref ax5_3, .ref ax5_4, .ref ax5_5, .ref ax5_6, .ref ax5_7, .ref ax5_8, .ref ax5_9, .ref ax5_10, .ref ax5_11, .ref ax5_12, .ref ax5_13, .ref ax5_14, .ref ax5_15, .ref ax5_16])), (ax5_8, .inl (cx5_8, 288, .inr (.inl fx5_8)))]) [0, 1] rfl
    have hD9 := hD.sub (ws' := [(h0, .inr (5, [.int xx5_0, .int xx5_1, .ref ax5_2, .ref ax5_3, .ref ax5_4, .ref ax5_5, .ref ax5_6, .ref ax5_7, .ref ax5_8, .ref ax5_9, .ref ax5_10, .ref ax5_11, .ref ax5_12, .ref ax5_13, .ref ax5_14, .ref ax5_15, .ref ax5_16])), (ax5_8, .inl (cx5_8, 288, .inr (.inl fx5_8)))]) [0, 1] (by decide) rfl
    have hK9 := hK.sub (tys' := [(cx5_8, .long)]) [0] rfl
    refine W.widen (k := 0) (n := 0) (Nat.le_of_ble_eq_true rfl) (Nat.le_of_ble_eq_true rfl) ?_
    exact W.lret (v := 0) hx hb hr (fun t ht hW => ⟨⟨0, (), rfl, Or.inr (rfl), by rw [ht]; exact hP9, va_K.moved hW.alike hK9, hD9⟩, hS.F ht⟩) hS.2.2 dX5_fieldName_23
  · refine lv_if_eq (tgt := 22) hx hb dX5_fieldName_5 (by decide) (fun h => absurd h (by decide)) (fun _ => ?_)
    refine lv_aload_n hx hb dX5_fieldName_8 rfl (lv_at hl 0 rfl) ?_
    refine va_get (D := (dC, dI)) (ci := 5) (v := .ref ax5_8) (C := RX5) (T := TX5) (N := 17) hx hb hts inlX5 hown hK hP 0 rfl rfl 8 (by decide) (hts (.fieldLink RX5 38 "ShapeReader$Shapes" "fieldNames" "[J") mw_14_20) (fun _ h9 => h9) rfl dX5_fieldName_9 ?_
    refine lv_iload_n hx hb dX5_fieldName_12 rfl (lv_at hl 1 rfl) ?_
    refine lv_bipush (v := 8) hx hb dX5_fieldName_13 (by decide) ?_
    refine lv_imul hx hb dX5_fieldName_15 ?_
    refine lv_topi (fun x_8 ex_8 => ?_)
    have bx_8 : (0 : Int) ≤ x_8.toInt ∧ x_8.toInt ≤ (280 : Int) := by have r0 := il_rng p0; have a0 := il_nlt g_2; have a1 := il_nle g_3; have e0 : (0 : Int32).toInt = 0 := (by decide); have e1 : (8 : Int32).toInt = 8 := (by decide); have e2 : (36 : Int32).toInt = 36 := (by decide); rw [ex_8]; have m9 := il_mulE (x := p0) (y := 8) (by rw [e1]; omega) (by rw [e1]; omega); rw [m9, e1]; omega
    refine lv_iload_n hx hb dX5_fieldName_16 rfl (lv_at hl 2 rfl) ?_
    refine lv_iadd hx hb dX5_fieldName_17 ?_
    refine lv_topi (fun x_9 ex_9 => ?_)
    have bx_9 : (0 : Int) ≤ x_9.toInt ∧ x_9.toInt ≤ (287 : Int) := by have r0 := il_rng x_8; have r1 := il_rng p1; have a0 := bx_8.1; have a1 := bx_8.2; have a2 := il_nlt g_4; have a3 := il_nle g_5; have e0 : (0 : Int32).toInt = 0 := (by decide); have e1 : (8 : Int32).toInt = 8 := (by decide); rw [ex_9, il_addE (by omega) (by omega)]; omega
    refine va_lald hx hb hK hP 1 0 rfl rfl (vp_in_iff.mpr (by have a0 := bx_9.1; have a1 := bx_9.2; omega)) dX5_fieldName_18 ?_
    refine lv_topl (fun x_10 ex_10 => ?_)
    refine lv_goto (tgt := 23) hx hb dX5_fieldName_19 (by decide) ?_
    have hP9 := hP.sub (ws' := [(h0, .inr (5, [.int xx5_0, .int xx5_1, .ref ax5_2, .ref ax5_3, .ref ax5_4, .ref ax5_5, .ref ax5_6, .ref ax5_7, .ref ax5_8, .ref ax5_9, .ref ax5_10, .ref ax5_11, .ref ax5_12, .ref ax5_13, .ref ax5_14, .ref ax5_15, .ref ax5_16])), (ax5_8, .inl (cx5_8, 288, .inr (.inl fx5_8)))]) [0, 1] rfl
    have hD9 := hD.sub (ws' := [(h0, .inr (5, [.int xx5_0, .int xx5_1, .ref ax5_2, .ref ax5_3, .ref ax5_4, .ref ax5_5, .ref ax5_6, .ref ax5_7, .ref ax5_8, .ref ax5_9, .ref ax5_10, .ref ax5_11, .ref ax5_12, .ref ax5_13, .ref ax5_14, .ref ax5_15, .ref ax5_16])), (ax5_8, .inl (cx5_8, 288, .inr (.inl fx5_8)))]) [0, 1] (by decide) rfl
    have hK9 := hK.sub (tys' := [(cx5_8, .long)]) [0] rfl
    refine W.widen (k := 0) (n := 0) (Nat.le_of_ble_eq_true rfl) (Nat.le_of_ble_eq_true rfl) ?_
    exact W.lret (v := x_10) hx hb hr (fun t ht hW => ⟨⟨x_10, (), rfl, Or.inl ((by rw [ex_10, ex_9, ex_8])), by rw [ht]; exact hP9, va_K.moved hW.alike hK9, hD9⟩, hS.F ht⟩) hS.2.2 dX5_fieldName_23

set_option maxRecDepth 100000 in
set_option maxHeartbeats 4000000 in
theorem s_X5_formerName (l : Launch) (dC : Nat → ClassId) (dI : Nat → Nat → Nat) (h0 : Nat) (xx5_0 : Int32) (xx5_1 : Int32) (ax5_2 : Nat) (ax5_3 : Nat) (ax5_4 : Nat) (ax5_5 : Nat) (ax5_6 : Nat) (ax5_7 : Nat) (ax5_8 : Nat) (ax5_9 : Nat) (cx5_9 : ClassId) (fx5_9 : Nat → Int64) (ax5_10 : Nat) (ax5_11 : Nat) (ax5_12 : Nat) (ax5_13 : Nat) (ax5_14 : Nat) (ax5_15 : Nat) (ax5_16 : Nat) (p0 : Int32) (p1 : Int32) (hi_xx5_0 : (0 : Int) ≤ xx5_0.toInt ∧ xx5_0.toInt ≤ (6 : Int)) (hi_xx5_1 : (0 : Int) ≤ xx5_1.toInt ∧ xx5_1.toInt ≤ (262 : Int)) (sz : Nat) : Met l yX5_formerName (.code yX5_formerName cX5_formerName 3 (some .long) :: pw) ({ frames := 1, cells := 0, slots := 0, locals := 21 }) (va_Pc [.ref h0, .int p0, .int p1] (vPre dC dI [(h0, .inr (5, [.int xx5_0, .int xx5_1, .ref ax5_2, .ref ax5_3, .ref ax5_4, .ref ax5_5, .ref ax5_6, .ref ax5_7, .ref ax5_8, .ref ax5_9, .ref ax5_10, .ref ax5_11, .ref ax5_12, .ref ax5_13, .ref ax5_14, .ref ax5_15, .ref ax5_16])), (ax5_9, .inl (cx5_9, 288, .inr (.inl fx5_9)))] [(cx5_9, .long)] sz)) (va_Ql (fun (r : Int64) (_ : Unit) => (r = (fx5_9 ((p0 * 8) + p1).toNatClampNeg)) ∨ (r = 0)) (fun (_ : Unit) t => vPst dC dI (va_A [(h0, .inr (5, [.int xx5_0, .int xx5_1, .ref ax5_2, .ref ax5_3, .ref ax5_4, .ref ax5_5, .ref ax5_6, .ref ax5_7, .ref ax5_8, .ref ax5_9, .ref ax5_10, .ref ax5_11, .ref ax5_12, .ref ax5_13, .ref ax5_14, .ref ax5_15, .ref ax5_16])), (ax5_9, .inl (cx5_9, 288, .inr (.inl fx5_9)))] sz) [(h0, .inr (5, [.int xx5_0, .int xx5_1, .ref ax5_2, .ref ax5_3, .ref ax5_4, .ref ax5_5, .ref ax5_6, .ref ax5_7, .ref ax5_8, .ref ax5_9, .ref ax5_10, .ref ax5_11, .ref ax5_12, .ref ax5_13, .ref ax5_14, .ref ax5_15, .ref ax5_16])), (ax5_9, .inl (cx5_9, 288, .inr (.inl fx5_9)))] [(cx5_9, .long)] t) (va_A [(h0, .inr (5, [.int xx5_0, .int xx5_1, .ref ax5_2, .ref ax5_3, .ref ax5_4, .ref ax5_5, .ref ax5_6, .ref ax5_7, .ref ax5_8, .ref ax5_9, .ref ax5_10, .ref ax5_11, .ref ax5_12, .ref ax5_13, .ref ax5_14, .ref ax5_15, .ref ax5_16])), (ax5_9, .inl (cx5_9, 288, .inr (.inl fx5_9)))] sz)) 0 0 (va_A [(h0, .inr (5, [.int xx5_0, .int xx5_1, .ref ax5_2, .ref ax5_3, .ref ax5_4, .ref ax5_5, .ref ax5_6, .ref ax5_7, .ref ax5_8, .ref ax5_9, .ref ax5_10, .ref ax5_11, .ref ax5_12, .ref ax5_13, .ref ax5_14, .ref ax5_15, .ref ax5_16])), (ax5_9, .inl (cx5_9, 288, .inr (.inl fx5_9)))] sz) := by
  refine Met.ofW (cc := cX5_formerName) (maxL := 3) (ret := (some .long)) (by decide) rfl ?_
  intro p e s m args below meth c s₁ B hml hv
  obtain ⟨rfl, hsz, hP, hK, hD0, hN⟩ := hv
  have hx := B.exec
  have hb := B.bytes
  have hr := B.returns
  have hts := atoms_spec (ws := .code yX5_formerName cX5_formerName 3 (some .long) :: pw) B.pre
  have hts : ∀ w ∈ pw, w.before _ s = true := fun w h => hts w (List.mem_cons_of_mem _ h)
  have hown : s.vm.findClass RX5 = some m.cls := findClass_of_methodNamed B.named
  have hlocks := B.notSynchronized
  subst hsz
  have hD := hD0.self (sz := s.heap.size)
  generalize hAe : va_A [(h0, .inr (5, [.int xx5_0, .int xx5_1, .ref ax5_2, .ref ax5_3, .ref ax5_4, .ref ax5_5, .ref ax5_6, .ref ax5_7, .ref ax5_8, .ref ax5_9, .ref ax5_10, .ref ax5_11, .ref ax5_12, .ref ax5_13, .ref ax5_14, .ref ax5_15, .ref ax5_16])), (ax5_9, .inl (cx5_9, 288, .inr (.inl fx5_9)))] s.heap.size = A at hD ⊢
  have hA : ∀ q : Nat, s.heap.size ≤ q → A q := fun q h => by rw [← hAe]; exact Or.inr h
  have hS : va_S A s.heap s.heap [] := va_S.rf
  have hP : va_P (dC, dI) vwCl [(h0, .inr (5, [.int xx5_0, .int xx5_1, .ref ax5_2, .ref ax5_3, .ref ax5_4, .ref ax5_5, .ref ax5_6, .ref ax5_7, .ref ax5_8, .ref ax5_9, .ref ax5_10, .ref ax5_11, .ref ax5_12, .ref ax5_13, .ref ax5_14, .ref ax5_15, .ref ax5_16])), (ax5_9, .inl (cx5_9, 288, .inr (.inl fx5_9)))] s.heap := hP
  have hl := lv_entry ([.ref h0, .int p0, .int p1]) (n := 3) (Nat.le_of_ble_eq_true rfl)
  rw [lg_entry_eq]
  generalize (lg_sl ([.ref h0, .int p0, .int p1]) ++ List.replicate (3 - (lg_sl ([.ref h0, .int p0, .int p1])).length) Slot.unset).toArray = ls at hl ⊢
  have hl : lv_has ls 3 [(0, .ref h0), (1, .int p0), (2, .int p1)] := hl
  refine lv_iload_n hx hb dX5_formerName_0 rfl (lv_at hl 1 rfl) ?_
  refine lv_iload_n hx hb dX5_formerName_1 rfl (lv_at hl 2 rfl) ?_
  have hPc := hP.sub (ws' := []) [] rfl
  have hDc := hD.sub (ws' := []) [] (by decide) rfl
  have hKc := hK.sub (tys' := []) [] rfl
  have hFc := va_free (wc := []) hD hS hA [] rfl
  refine va_calli (va_runS (As := [.int p0, .int p1]) (rest := []) ⟨hx, hb, hml, hown, hts⟩ (s_X5_isFieldOf l dC dI p0 p1 s.heap.size) (va_cwS 2 hts (gS mw_15_1 mw_15_2 mw_0_9 mw_48_25) rfl rfl rfl (by decide +kernel) ⟨(Nat.le_of_ble_eq_true rfl), (Nat.le_of_ble_eq_true rfl)⟩) (vS hKc hPc hDc hN) rfl rfl hl.1 rfl (lv_room (Nat.le_of_ble_eq_true rfl)) dX5_formerName_2 ⟨(Nat.le_of_ble_eq_true rfl), (Nat.le_of_ble_eq_true rfl)⟩) hS (fun q _ h => hFc q h) hFc (fun r_1 u t H1 locs ht hvm hw hB hz1 hk1 hS => ?_)
  obtain ⟨hP1, hK1, hD1⟩ := hB
  rw [ht] at hP1
  have hK1 := va_K.moved hvm.symm hK1
  obtain ⟨hP, hD⟩ := va_join (wr := [(h0, .inr (5, [.int xx5_0, .int xx5_1, .ref ax5_2, .ref ax5_3, .ref ax5_4, .ref ax5_5, .ref ax5_6, .ref ax5_7, .ref ax5_8, .ref ax5_9, .ref ax5_10, .ref ax5_11, .ref ax5_12, .ref ax5_13, .ref ax5_14, .ref ax5_15, .ref ax5_16])), (ax5_9, .inl (cx5_9, 288, .inr (.inl fx5_9)))]) (w1 := []) hP hD [] [0, 1] rfl rfl (by decide) (by decide) hk1 hFc hP1 hD1
  clear hPc hDc hKc hP1 hK1 hD1 hFc hk1 hz1
  generalize H1 = H at hP hS ⊢
  have hP : va_P (dC, dI) vwCl [(h0, .inr (5, [.int xx5_0, .int xx5_1, .ref ax5_2, .ref ax5_3, .ref ax5_4, .ref ax5_5, .ref ax5_6, .ref ax5_7, .ref ax5_8, .ref ax5_9, .ref ax5_10, .ref ax5_11, .ref ax5_12, .ref ax5_13, .ref ax5_14, .ref ax5_15, .ref ax5_16])), (ax5_9, .inl (cx5_9, 288, .inr (.inl fx5_9)))] H := hP
  have hD : va_D A [(h0, .inr (5, [.int xx5_0, .int xx5_1, .ref ax5_2, .ref ax5_3, .ref ax5_4, .ref ax5_5, .ref ax5_6, .ref ax5_7, .ref ax5_8, .ref ax5_9, .ref ax5_10, .ref ax5_11, .ref ax5_12, .ref ax5_13, .ref ax5_14, .ref ax5_15, .ref ax5_16])), (ax5_9, .inl (cx5_9, 288, .inr (.inl fx5_9)))] := hD
  rcases hw with rfl | ⟨rfl, g_2, g_3, g_4, g_5⟩
  · refine lv_if_eq (tgt := 22) hx hb dX5_formerName_5 (by decide) (fun _ => ?_) (fun h => absurd (by decide) h)
    refine lv_lconst (v := 0) hx hb dX5_formerName_22 (by decide) ?_
    have hP9 := hP.sub (ws' := [(h0, .inr (5, [.int xx5_0, .int xx5_1, .ref ax5_2, .ref ax5_3, .ref ax5_4, .ref ax5_5, .ref ax5_6, .ref ax5_7, .ref ax5_8, .ref ax5_9, .ref ax5_10, .ref ax5_11, .ref ax5_12, .ref ax5_13, .ref ax5_14, .ref ax5_15, .ref ax5_16])), (ax5_9, .inl (cx5_9, 288, .inr (.inl fx5_9)))]) [0, 1] rfl
    have hD9 := hD.sub (ws' := [(h0, .inr (5, [.int xx5_0, .int xx5_1, .ref ax5_2, .ref ax5_3, .ref ax5_4, .ref ax5_5, .ref ax5_6, .ref ax5_7, .ref ax5_8, .ref ax5_9, .ref ax5_10, .ref ax5_11, .ref ax5_12, .ref ax5_13, .ref ax5_14, .ref ax5_15, .ref ax5_16])), (ax5_9, .inl (cx5_9, 288, .inr (.inl fx5_9)))]) [0, 1] (by decide) rfl
    have hK9 := hK.sub (tys' := [(cx5_9, .long)]) [0] rfl
    refine W.widen (k := 0) (n := 0) (Nat.le_of_ble_eq_true rfl) (Nat.le_of_ble_eq_true rfl) ?_
    exact W.lret (v := 0) hx hb hr (fun t ht hW => ⟨⟨0, (), rfl, Or.inr (rfl), by rw [ht]; exact hP9, va_K.moved hW.alike hK9, hD9⟩, hS.F ht⟩) hS.2.2 dX5_formerName_23
  · refine lv_if_eq (tgt := 22) hx hb dX5_formerName_5 (by decide) (fun h => absurd h (by decide)) (fun _ => ?_)
    refine lv_aload_n hx hb dX5_formerName_8 rfl (lv_at hl 0 rfl) ?_
    refine va_get (D := (dC, dI)) (ci := 5) (v := .ref ax5_9) (C := RX5) (T := TX5) (N := 17) hx hb hts inlX5 hown hK hP 0 rfl rfl 9 (by decide) (hts (.fieldLink RX5 41 "ShapeReader$Shapes" "formerNames" "[J") mw_14_21) (fun _ h9 => h9) rfl dX5_formerName_9 ?_
    refine lv_iload_n hx hb dX5_formerName_12 rfl (lv_at hl 1 rfl) ?_
    refine lv_bipush (v := 8) hx hb dX5_formerName_13 (by decide) ?_
    refine lv_imul hx hb dX5_formerName_15 ?_
    refine lv_topi (fun x_8 ex_8 => ?_)
    have bx_8 : (0 : Int) ≤ x_8.toInt ∧ x_8.toInt ≤ (280 : Int) := by have r0 := il_rng p0; have a0 := il_nlt g_2; have a1 := il_nle g_3; have e0 : (0 : Int32).toInt = 0 := (by decide); have e1 : (8 : Int32).toInt = 8 := (by decide); have e2 : (36 : Int32).toInt = 36 := (by decide); rw [ex_8]; have m9 := il_mulE (x := p0) (y := 8) (by rw [e1]; omega) (by rw [e1]; omega); rw [m9, e1]; omega
    refine lv_iload_n hx hb dX5_formerName_16 rfl (lv_at hl 2 rfl) ?_
    refine lv_iadd hx hb dX5_formerName_17 ?_
    refine lv_topi (fun x_9 ex_9 => ?_)
    have bx_9 : (0 : Int) ≤ x_9.toInt ∧ x_9.toInt ≤ (287 : Int) := by have r0 := il_rng x_8; have r1 := il_rng p1; have a0 := bx_8.1; have a1 := bx_8.2; have a2 := il_nlt g_4; have a3 := il_nle g_5; have e0 : (0 : Int32).toInt = 0 := (by decide); have e1 : (8 : Int32).toInt = 8 := (by decide); rw [ex_9, il_addE (by omega) (by omega)]; omega
    refine va_lald hx hb hK hP 1 0 rfl rfl (vp_in_iff.mpr (by have a0 := bx_9.1; have a1 := bx_9.2; omega)) dX5_formerName_18 ?_
    refine lv_topl (fun x_10 ex_10 => ?_)
    refine lv_goto (tgt := 23) hx hb dX5_formerName_19 (by decide) ?_
    have hP9 := hP.sub (ws' := [(h0, .inr (5, [.int xx5_0, .int xx5_1, .ref ax5_2, .ref ax5_3, .ref ax5_4, .ref ax5_5, .ref ax5_6, .ref ax5_7, .ref ax5_8, .ref ax5_9, .ref ax5_10, .ref ax5_11, .ref ax5_12, .ref ax5_13, .ref ax5_14, .ref ax5_15, .ref ax5_16])), (ax5_9, .inl (cx5_9, 288, .inr (.inl fx5_9)))]) [0, 1] rfl
    have hD9 := hD.sub (ws' := [(h0, .inr (5, [.int xx5_0, .int xx5_1, .ref ax5_2, .ref ax5_3, .ref ax5_4, .ref ax5_5, .ref ax5_6, .ref ax5_7, .ref ax5_8, .ref ax5_9, .ref ax5_10, .ref ax5_11, .ref ax5_12, .ref ax5_13, .ref ax5_14, .ref ax5_15, .ref ax5_16])), (ax5_9, .inl (cx5_9, 288, .inr (.inl fx5_9)))]) [0, 1] (by decide) rfl
    have hK9 := hK.sub (tys' := [(cx5_9, .long)]) [0] rfl
    refine W.widen (k := 0) (n := 0) (Nat.le_of_ble_eq_true rfl) (Nat.le_of_ble_eq_true rfl) ?_
    exact W.lret (v := x_10) hx hb hr (fun t ht hW => ⟨⟨x_10, (), rfl, Or.inl ((by rw [ex_10, ex_9, ex_8])), by rw [ht]; exact hP9, va_K.moved hW.alike hK9, hD9⟩, hS.F ht⟩) hS.2.2 dX5_formerName_23

set_option maxRecDepth 100000 in
set_option maxHeartbeats 4000000 in
theorem s_X5_typeOf (l : Launch) (dC : Nat → ClassId) (dI : Nat → Nat → Nat) (h0 : Nat) (xx5_0 : Int32) (xx5_1 : Int32) (ax5_2 : Nat) (ax5_3 : Nat) (ax5_4 : Nat) (ax5_5 : Nat) (ax5_6 : Nat) (ax5_7 : Nat) (ax5_8 : Nat) (ax5_9 : Nat) (ax5_10 : Nat) (cx5_10 : ClassId) (fx5_10 : Nat → Int32) (ax5_11 : Nat) (ax5_12 : Nat) (ax5_13 : Nat) (ax5_14 : Nat) (ax5_15 : Nat) (ax5_16 : Nat) (p0 : Int32) (p1 : Int32) (hi_xx5_0 : (0 : Int) ≤ xx5_0.toInt ∧ xx5_0.toInt ≤ (6 : Int)) (hi_xx5_1 : (0 : Int) ≤ xx5_1.toInt ∧ xx5_1.toInt ≤ (262 : Int)) (sz : Nat) : Met l yX5_typeOf (.code yX5_typeOf cX5_typeOf 3 (some .int) :: pw) ({ frames := 1, cells := 0, slots := 0, locals := 21 }) (va_Pc [.ref h0, .int p0, .int p1] (vPre dC dI [(h0, .inr (5, [.int xx5_0, .int xx5_1, .ref ax5_2, .ref ax5_3, .ref ax5_4, .ref ax5_5, .ref ax5_6, .ref ax5_7, .ref ax5_8, .ref ax5_9, .ref ax5_10, .ref ax5_11, .ref ax5_12, .ref ax5_13, .ref ax5_14, .ref ax5_15, .ref ax5_16])), (ax5_10, .inl (cx5_10, 288, .inl fx5_10))] [(cx5_10, .int)] sz)) (va_Qi (fun (r : Int32) (_ : Unit) => (r = (fx5_10 ((p0 * 8) + p1).toNatClampNeg)) ∨ (r = (-1))) (fun (_ : Unit) t => vPst dC dI (va_A [(h0, .inr (5, [.int xx5_0, .int xx5_1, .ref ax5_2, .ref ax5_3, .ref ax5_4, .ref ax5_5, .ref ax5_6, .ref ax5_7, .ref ax5_8, .ref ax5_9, .ref ax5_10, .ref ax5_11, .ref ax5_12, .ref ax5_13, .ref ax5_14, .ref ax5_15, .ref ax5_16])), (ax5_10, .inl (cx5_10, 288, .inl fx5_10))] sz) [(h0, .inr (5, [.int xx5_0, .int xx5_1, .ref ax5_2, .ref ax5_3, .ref ax5_4, .ref ax5_5, .ref ax5_6, .ref ax5_7, .ref ax5_8, .ref ax5_9, .ref ax5_10, .ref ax5_11, .ref ax5_12, .ref ax5_13, .ref ax5_14, .ref ax5_15, .ref ax5_16])), (ax5_10, .inl (cx5_10, 288, .inl fx5_10))] [(cx5_10, .int)] t) (va_A [(h0, .inr (5, [.int xx5_0, .int xx5_1, .ref ax5_2, .ref ax5_3, .ref ax5_4, .ref ax5_5, .ref ax5_6, .ref ax5_7, .ref ax5_8, .ref ax5_9, .ref ax5_10, .ref ax5_11, .ref ax5_12, .ref ax5_13, .ref ax5_14, .ref ax5_15, .ref ax5_16])), (ax5_10, .inl (cx5_10, 288, .inl fx5_10))] sz)) 0 0 (va_A [(h0, .inr (5, [.int xx5_0, .int xx5_1, .ref ax5_2, .ref ax5_3, .ref ax5_4, .ref ax5_5, .ref ax5_6, .ref ax5_7, .ref ax5_8, .ref ax5_9, .ref ax5_10, .ref ax5_11, .ref ax5_12, .ref ax5_13, .ref ax5_14, .ref ax5_15, .ref ax5_16])), (ax5_10, .inl (cx5_10, 288, .inl fx5_10))] sz) := by
  refine Met.ofW (cc := cX5_typeOf) (maxL := 3) (ret := (some .int)) (by decide) rfl ?_
  intro p e s m args below meth c s₁ B hml hv
  obtain ⟨rfl, hsz, hP, hK, hD0, hN⟩ := hv
  have hx := B.exec
  have hb := B.bytes
  have hr := B.returns
  have hts := atoms_spec (ws := .code yX5_typeOf cX5_typeOf 3 (some .int) :: pw) B.pre
  have hts : ∀ w ∈ pw, w.before _ s = true := fun w h => hts w (List.mem_cons_of_mem _ h)
  have hown : s.vm.findClass RX5 = some m.cls := findClass_of_methodNamed B.named
  have hlocks := B.notSynchronized
  subst hsz
  have hD := hD0.self (sz := s.heap.size)
  generalize hAe : va_A [(h0, .inr (5, [.int xx5_0, .int xx5_1, .ref ax5_2, .ref ax5_3, .ref ax5_4, .ref ax5_5, .ref ax5_6, .ref ax5_7, .ref ax5_8, .ref ax5_9, .ref ax5_10, .ref ax5_11, .ref ax5_12, .ref ax5_13, .ref ax5_14, .ref ax5_15, .ref ax5_16])), (ax5_10, .inl (cx5_10, 288, .inl fx5_10))] s.heap.size = A at hD ⊢
  have hA : ∀ q : Nat, s.heap.size ≤ q → A q := fun q h => by rw [← hAe]; exact Or.inr h
  have hS : va_S A s.heap s.heap [] := va_S.rf
  have hP : va_P (dC, dI) vwCl [(h0, .inr (5, [.int xx5_0, .int xx5_1, .ref ax5_2, .ref ax5_3, .ref ax5_4, .ref ax5_5, .ref ax5_6, .ref ax5_7, .ref ax5_8, .ref ax5_9, .ref ax5_10, .ref ax5_11, .ref ax5_12, .ref ax5_13, .ref ax5_14, .ref ax5_15, .ref ax5_16])), (ax5_10, .inl (cx5_10, 288, .inl fx5_10))] s.heap := hP
  have hl := lv_entry ([.ref h0, .int p0, .int p1]) (n := 3) (Nat.le_of_ble_eq_true rfl)
  rw [lg_entry_eq]
  generalize (lg_sl ([.ref h0, .int p0, .int p1]) ++ List.replicate (3 - (lg_sl ([.ref h0, .int p0, .int p1])).length) Slot.unset).toArray = ls at hl ⊢
  have hl : lv_has ls 3 [(0, .ref h0), (1, .int p0), (2, .int p1)] := hl
  refine lv_iload_n hx hb dX5_typeOf_0 rfl (lv_at hl 1 rfl) ?_
  refine lv_iload_n hx hb dX5_typeOf_1 rfl (lv_at hl 2 rfl) ?_
  have hPc := hP.sub (ws' := []) [] rfl
  have hDc := hD.sub (ws' := []) [] (by decide) rfl
  have hKc := hK.sub (tys' := []) [] rfl
  have hFc := va_free (wc := []) hD hS hA [] rfl
  refine va_calli (va_runS (As := [.int p0, .int p1]) (rest := []) ⟨hx, hb, hml, hown, hts⟩ (s_X5_isFieldOf l dC dI p0 p1 s.heap.size) (va_cwS 2 hts (gS mw_15_1 mw_15_2 mw_0_9 mw_48_25) rfl rfl rfl (by decide +kernel) ⟨(Nat.le_of_ble_eq_true rfl), (Nat.le_of_ble_eq_true rfl)⟩) (vS hKc hPc hDc hN) rfl rfl hl.1 rfl (lv_room (Nat.le_of_ble_eq_true rfl)) dX5_typeOf_2 ⟨(Nat.le_of_ble_eq_true rfl), (Nat.le_of_ble_eq_true rfl)⟩) hS (fun q _ h => hFc q h) hFc (fun r_1 u t H1 locs ht hvm hw hB hz1 hk1 hS => ?_)
  obtain ⟨hP1, hK1, hD1⟩ := hB
  rw [ht] at hP1
  have hK1 := va_K.moved hvm.symm hK1
  obtain ⟨hP, hD⟩ := va_join (wr := [(h0, .inr (5, [.int xx5_0, .int xx5_1, .ref ax5_2, .ref ax5_3, .ref ax5_4, .ref ax5_5, .ref ax5_6, .ref ax5_7, .ref ax5_8, .ref ax5_9, .ref ax5_10, .ref ax5_11, .ref ax5_12, .ref ax5_13, .ref ax5_14, .ref ax5_15, .ref ax5_16])), (ax5_10, .inl (cx5_10, 288, .inl fx5_10))]) (w1 := []) hP hD [] [0, 1] rfl rfl (by decide) (by decide) hk1 hFc hP1 hD1
  clear hPc hDc hKc hP1 hK1 hD1 hFc hk1 hz1
  generalize H1 = H at hP hS ⊢
  have hP : va_P (dC, dI) vwCl [(h0, .inr (5, [.int xx5_0, .int xx5_1, .ref ax5_2, .ref ax5_3, .ref ax5_4, .ref ax5_5, .ref ax5_6, .ref ax5_7, .ref ax5_8, .ref ax5_9, .ref ax5_10, .ref ax5_11, .ref ax5_12, .ref ax5_13, .ref ax5_14, .ref ax5_15, .ref ax5_16])), (ax5_10, .inl (cx5_10, 288, .inl fx5_10))] H := hP
  have hD : va_D A [(h0, .inr (5, [.int xx5_0, .int xx5_1, .ref ax5_2, .ref ax5_3, .ref ax5_4, .ref ax5_5, .ref ax5_6, .ref ax5_7, .ref ax5_8, .ref ax5_9, .ref ax5_10, .ref ax5_11, .ref ax5_12, .ref ax5_13, .ref ax5_14, .ref ax5_15, .ref ax5_16])), (ax5_10, .inl (cx5_10, 288, .inl fx5_10))] := hD
  rcases hw with rfl | ⟨rfl, g_2, g_3, g_4, g_5⟩
  · refine lv_if_eq (tgt := 22) hx hb dX5_typeOf_5 (by decide) (fun _ => ?_) (fun h => absurd (by decide) h)
    refine lv_iconst (v := (-1)) hx hb dX5_typeOf_22 (by decide) ?_
    have hP9 := hP.sub (ws' := [(h0, .inr (5, [.int xx5_0, .int xx5_1, .ref ax5_2, .ref ax5_3, .ref ax5_4, .ref ax5_5, .ref ax5_6, .ref ax5_7, .ref ax5_8, .ref ax5_9, .ref ax5_10, .ref ax5_11, .ref ax5_12, .ref ax5_13, .ref ax5_14, .ref ax5_15, .ref ax5_16])), (ax5_10, .inl (cx5_10, 288, .inl fx5_10))]) [0, 1] rfl
    have hD9 := hD.sub (ws' := [(h0, .inr (5, [.int xx5_0, .int xx5_1, .ref ax5_2, .ref ax5_3, .ref ax5_4, .ref ax5_5, .ref ax5_6, .ref ax5_7, .ref ax5_8, .ref ax5_9, .ref ax5_10, .ref ax5_11, .ref ax5_12, .ref ax5_13, .ref ax5_14, .ref ax5_15, .ref ax5_16])), (ax5_10, .inl (cx5_10, 288, .inl fx5_10))]) [0, 1] (by decide) rfl
    have hK9 := hK.sub (tys' := [(cx5_10, .int)]) [0] rfl
    refine W.widen (k := 0) (n := 0) (Nat.le_of_ble_eq_true rfl) (Nat.le_of_ble_eq_true rfl) ?_
    exact W.iret (v := (-1)) hx hb hr (fun t ht hW => ⟨⟨(-1), (), rfl, Or.inr (rfl), by rw [ht]; exact hP9, va_K.moved hW.alike hK9, hD9⟩, hS.F ht⟩) hS.2.2 dX5_typeOf_23
  · refine lv_if_eq (tgt := 22) hx hb dX5_typeOf_5 (by decide) (fun h => absurd h (by decide)) (fun _ => ?_)
    refine lv_aload_n hx hb dX5_typeOf_8 rfl (lv_at hl 0 rfl) ?_
    refine va_get (D := (dC, dI)) (ci := 5) (v := .ref ax5_10) (C := RX5) (T := TX5) (N := 17) hx hb hts inlX5 hown hK hP 0 rfl rfl 10 (by decide) (hts (.fieldLink RX5 44 "ShapeReader$Shapes" "fieldTypes" "[I") mw_14_22) (fun _ h9 => h9) rfl dX5_typeOf_9 ?_
    refine lv_iload_n hx hb dX5_typeOf_12 rfl (lv_at hl 1 rfl) ?_
    refine lv_bipush (v := 8) hx hb dX5_typeOf_13 (by decide) ?_
    refine lv_imul hx hb dX5_typeOf_15 ?_
    refine lv_topi (fun x_8 ex_8 => ?_)
    have bx_8 : (0 : Int) ≤ x_8.toInt ∧ x_8.toInt ≤ (280 : Int) := by have r0 := il_rng p0; have a0 := il_nlt g_2; have a1 := il_nle g_3; have e0 : (0 : Int32).toInt = 0 := (by decide); have e1 : (8 : Int32).toInt = 8 := (by decide); have e2 : (36 : Int32).toInt = 36 := (by decide); rw [ex_8]; have m9 := il_mulE (x := p0) (y := 8) (by rw [e1]; omega) (by rw [e1]; omega); rw [m9, e1]; omega
    refine lv_iload_n hx hb dX5_typeOf_16 rfl (lv_at hl 2 rfl) ?_
    refine lv_iadd hx hb dX5_typeOf_17 ?_
    refine lv_topi (fun x_9 ex_9 => ?_)
    have bx_9 : (0 : Int) ≤ x_9.toInt ∧ x_9.toInt ≤ (287 : Int) := by have r0 := il_rng x_8; have r1 := il_rng p1; have a0 := bx_8.1; have a1 := bx_8.2; have a2 := il_nlt g_4; have a3 := il_nle g_5; have e0 : (0 : Int32).toInt = 0 := (by decide); have e1 : (8 : Int32).toInt = 8 := (by decide); rw [ex_9, il_addE (by omega) (by omega)]; omega
    refine va_iald hx hb hK hP 1 0 rfl rfl (vp_in_iff.mpr (by have a0 := bx_9.1; have a1 := bx_9.2; omega)) dX5_typeOf_18 ?_
    refine lv_topi (fun x_10 ex_10 => ?_)
    refine lv_goto (tgt := 23) hx hb dX5_typeOf_19 (by decide) ?_
    have hP9 := hP.sub (ws' := [(h0, .inr (5, [.int xx5_0, .int xx5_1, .ref ax5_2, .ref ax5_3, .ref ax5_4, .ref ax5_5, .ref ax5_6, .ref ax5_7, .ref ax5_8, .ref ax5_9, .ref ax5_10, .ref ax5_11, .ref ax5_12, .ref ax5_13, .ref ax5_14, .ref ax5_15, .ref ax5_16])), (ax5_10, .inl (cx5_10, 288, .inl fx5_10))]) [0, 1] rfl
    have hD9 := hD.sub (ws' := [(h0, .inr (5, [.int xx5_0, .int xx5_1, .ref ax5_2, .ref ax5_3, .ref ax5_4, .ref ax5_5, .ref ax5_6, .ref ax5_7, .ref ax5_8, .ref ax5_9, .ref ax5_10, .ref ax5_11, .ref ax5_12, .ref ax5_13, .ref ax5_14, .ref ax5_15, .ref ax5_16])), (ax5_10, .inl (cx5_10, 288, .inl fx5_10))]) [0, 1] (by decide) rfl
    have hK9 := hK.sub (tys' := [(cx5_10, .int)]) [0] rfl
    refine W.widen (k := 0) (n := 0) (Nat.le_of_ble_eq_true rfl) (Nat.le_of_ble_eq_true rfl) ?_
    exact W.iret (v := x_10) hx hb hr (fun t ht hW => ⟨⟨x_10, (), rfl, Or.inl ((by rw [ex_10, ex_9, ex_8])), by rw [ht]; exact hP9, va_K.moved hW.alike hK9, hD9⟩, hS.F ht⟩) hS.2.2 dX5_typeOf_23

set_option maxRecDepth 100000 in
set_option maxHeartbeats 4000000 in
theorem s_X5_hasElse (l : Launch) (dC : Nat → ClassId) (dI : Nat → Nat → Nat) (h0 : Nat) (xx5_0 : Int32) (xx5_1 : Int32) (ax5_2 : Nat) (ax5_3 : Nat) (ax5_4 : Nat) (ax5_5 : Nat) (ax5_6 : Nat) (cx5_6 : ClassId) (fx5_6 : Nat → Int32) (ax5_7 : Nat) (ax5_8 : Nat) (ax5_9 : Nat) (ax5_10 : Nat) (ax5_11 : Nat) (ax5_12 : Nat) (ax5_13 : Nat) (ax5_14 : Nat) (ax5_15 : Nat) (ax5_16 : Nat) (p0 : Int32) (p1 : Int32) (hi_xx5_0 : (0 : Int) ≤ xx5_0.toInt ∧ xx5_0.toInt ≤ (6 : Int)) (hi_xx5_1 : (0 : Int) ≤ xx5_1.toInt ∧ xx5_1.toInt ≤ (262 : Int)) (sz : Nat) : Met l yX5_hasElse (.code yX5_hasElse cX5_hasElse 3 (some .boolean) :: pw) ({ frames := 1, cells := 0, slots := 0, locals := 21 }) (va_Pc [.ref h0, .int p0, .int p1] (vPre dC dI [(h0, .inr (5, [.int xx5_0, .int xx5_1, .ref ax5_2, .ref ax5_3, .ref ax5_4, .ref ax5_5, .ref ax5_6, .ref ax5_7, .ref ax5_8, .ref ax5_9, .ref ax5_10, .ref ax5_11, .ref ax5_12, .ref ax5_13, .ref ax5_14, .ref ax5_15, .ref ax5_16])), (ax5_6, .inl (cx5_6, 36, .inl fx5_6))] [(cx5_6, .int)] sz)) (va_Qi (fun (r : Int32) (_ : Unit) => (r = 0) ∨ (r = 1)) (fun (_ : Unit) t => vPst dC dI (va_A [(h0, .inr (5, [.int xx5_0, .int xx5_1, .ref ax5_2, .ref ax5_3, .ref ax5_4, .ref ax5_5, .ref ax5_6, .ref ax5_7, .ref ax5_8, .ref ax5_9, .ref ax5_10, .ref ax5_11, .ref ax5_12, .ref ax5_13, .ref ax5_14, .ref ax5_15, .ref ax5_16])), (ax5_6, .inl (cx5_6, 36, .inl fx5_6))] sz) [(h0, .inr (5, [.int xx5_0, .int xx5_1, .ref ax5_2, .ref ax5_3, .ref ax5_4, .ref ax5_5, .ref ax5_6, .ref ax5_7, .ref ax5_8, .ref ax5_9, .ref ax5_10, .ref ax5_11, .ref ax5_12, .ref ax5_13, .ref ax5_14, .ref ax5_15, .ref ax5_16])), (ax5_6, .inl (cx5_6, 36, .inl fx5_6))] [(cx5_6, .int)] t) (va_A [(h0, .inr (5, [.int xx5_0, .int xx5_1, .ref ax5_2, .ref ax5_3, .ref ax5_4, .ref ax5_5, .ref ax5_6, .ref ax5_7, .ref ax5_8, .ref ax5_9, .ref ax5_10, .ref ax5_11, .ref ax5_12, .ref ax5_13, .ref ax5_14, .ref ax5_15, .ref ax5_16])), (ax5_6, .inl (cx5_6, 36, .inl fx5_6))] sz)) 0 0 (va_A [(h0, .inr (5, [.int xx5_0, .int xx5_1, .ref ax5_2, .ref ax5_3, .ref ax5_4, .ref ax5_5, .ref ax5_6, .ref ax5_7, .ref ax5_8, .ref ax5_9, .ref ax5_10, .ref ax5_11, .ref ax5_12, .ref ax5_13, .ref ax5_14, .ref ax5_15, .ref ax5_16])), (ax5_6, .inl (cx5_6, 36, .inl fx5_6))] sz) := by
  refine Met.ofW (cc := cX5_hasElse) (maxL := 3) (ret := (some .boolean)) (by decide) rfl ?_
  intro p e s m args below meth c s₁ B hml hv
  obtain ⟨rfl, hsz, hP, hK, hD0, hN⟩ := hv
  have hx := B.exec
  have hb := B.bytes
  have hr := B.returns
  have hts := atoms_spec (ws := .code yX5_hasElse cX5_hasElse 3 (some .boolean) :: pw) B.pre
  have hts : ∀ w ∈ pw, w.before _ s = true := fun w h => hts w (List.mem_cons_of_mem _ h)
  have hown : s.vm.findClass RX5 = some m.cls := findClass_of_methodNamed B.named
  have hlocks := B.notSynchronized
  subst hsz
  have hD := hD0.self (sz := s.heap.size)
  generalize hAe : va_A [(h0, .inr (5, [.int xx5_0, .int xx5_1, .ref ax5_2, .ref ax5_3, .ref ax5_4, .ref ax5_5, .ref ax5_6, .ref ax5_7, .ref ax5_8, .ref ax5_9, .ref ax5_10, .ref ax5_11, .ref ax5_12, .ref ax5_13, .ref ax5_14, .ref ax5_15, .ref ax5_16])), (ax5_6, .inl (cx5_6, 36, .inl fx5_6))] s.heap.size = A at hD ⊢
  have hA : ∀ q : Nat, s.heap.size ≤ q → A q := fun q h => by rw [← hAe]; exact Or.inr h
  have hS : va_S A s.heap s.heap [] := va_S.rf
  have hP : va_P (dC, dI) vwCl [(h0, .inr (5, [.int xx5_0, .int xx5_1, .ref ax5_2, .ref ax5_3, .ref ax5_4, .ref ax5_5, .ref ax5_6, .ref ax5_7, .ref ax5_8, .ref ax5_9, .ref ax5_10, .ref ax5_11, .ref ax5_12, .ref ax5_13, .ref ax5_14, .ref ax5_15, .ref ax5_16])), (ax5_6, .inl (cx5_6, 36, .inl fx5_6))] s.heap := hP
  have hl := lv_entry ([.ref h0, .int p0, .int p1]) (n := 3) (Nat.le_of_ble_eq_true rfl)
  rw [lg_entry_eq]
  generalize (lg_sl ([.ref h0, .int p0, .int p1]) ++ List.replicate (3 - (lg_sl ([.ref h0, .int p0, .int p1])).length) Slot.unset).toArray = ls at hl ⊢
  have hl : lv_has ls 3 [(0, .ref h0), (1, .int p0), (2, .int p1)] := hl
  refine lv_iload_n hx hb dX5_hasElse_0 rfl (lv_at hl 1 rfl) ?_
  refine lv_iload_n hx hb dX5_hasElse_1 rfl (lv_at hl 2 rfl) ?_
  have hPc := hP.sub (ws' := []) [] rfl
  have hDc := hD.sub (ws' := []) [] (by decide) rfl
  have hKc := hK.sub (tys' := []) [] rfl
  have hFc := va_free (wc := []) hD hS hA [] rfl
  refine va_calli (va_runS (As := [.int p0, .int p1]) (rest := []) ⟨hx, hb, hml, hown, hts⟩ (s_X5_isFieldOf l dC dI p0 p1 s.heap.size) (va_cwS 2 hts (gS mw_15_1 mw_15_2 mw_0_9 mw_48_25) rfl rfl rfl (by decide +kernel) ⟨(Nat.le_of_ble_eq_true rfl), (Nat.le_of_ble_eq_true rfl)⟩) (vS hKc hPc hDc hN) rfl rfl hl.1 rfl (lv_room (Nat.le_of_ble_eq_true rfl)) dX5_hasElse_2 ⟨(Nat.le_of_ble_eq_true rfl), (Nat.le_of_ble_eq_true rfl)⟩) hS (fun q _ h => hFc q h) hFc (fun r_1 u t H1 locs ht hvm hw hB hz1 hk1 hS => ?_)
  obtain ⟨hP1, hK1, hD1⟩ := hB
  rw [ht] at hP1
  have hK1 := va_K.moved hvm.symm hK1
  obtain ⟨hP, hD⟩ := va_join (wr := [(h0, .inr (5, [.int xx5_0, .int xx5_1, .ref ax5_2, .ref ax5_3, .ref ax5_4, .ref ax5_5, .ref ax5_6, .ref ax5_7, .ref ax5_8, .ref ax5_9, .ref ax5_10, .ref ax5_11, .ref ax5_12, .ref ax5_13, .ref ax5_14, .ref ax5_15, .ref ax5_16])), (ax5_6, .inl (cx5_6, 36, .inl fx5_6))]) (w1 := []) hP hD [] [0, 1] rfl rfl (by decide) (by decide) hk1 hFc hP1 hD1
  clear hPc hDc hKc hP1 hK1 hD1 hFc hk1 hz1
  generalize H1 = H at hP hS ⊢
  have hP : va_P (dC, dI) vwCl [(h0, .inr (5, [.int xx5_0, .int xx5_1, .ref ax5_2, .ref ax5_3, .ref ax5_4, .ref ax5_5, .ref ax5_6, .ref ax5_7, .ref ax5_8, .ref ax5_9, .ref ax5_10, .ref ax5_11, .ref ax5_12, .ref ax5_13, .ref ax5_14, .ref ax5_15, .ref ax5_16])), (ax5_6, .inl (cx5_6, 36, .inl fx5_6))] H := hP
  have hD : va_D A [(h0, .inr (5, [.int xx5_0, .int xx5_1, .ref ax5_2, .ref ax5_3, .ref ax5_4, .ref ax5_5, .ref ax5_6, .ref ax5_7, .ref ax5_8, .ref ax5_9, .ref ax5_10, .ref ax5_11, .ref ax5_12, .ref ax5_13, .ref ax5_14, .ref ax5_15, .ref ax5_16])), (ax5_6, .inl (cx5_6, 36, .inl fx5_6))] := hD
  rcases hw with rfl | ⟨rfl, g_2, g_3, g_4, g_5⟩
  · refine lv_if_eq (tgt := 25) hx hb dX5_hasElse_5 (by decide) (fun _ => ?_) (fun h => absurd (by decide) h)
    refine lv_iconst (v := 0) hx hb dX5_hasElse_25 (by decide) ?_
    have hP9 := hP.sub (ws' := [(h0, .inr (5, [.int xx5_0, .int xx5_1, .ref ax5_2, .ref ax5_3, .ref ax5_4, .ref ax5_5, .ref ax5_6, .ref ax5_7, .ref ax5_8, .ref ax5_9, .ref ax5_10, .ref ax5_11, .ref ax5_12, .ref ax5_13, .ref ax5_14, .ref ax5_15, .ref ax5_16])), (ax5_6, .inl (cx5_6, 36, .inl fx5_6))]) [0, 1] rfl
    have hD9 := hD.sub (ws' := [(h0, .inr (5, [.int xx5_0, .int xx5_1, .ref ax5_2, .ref ax5_3, .ref ax5_4, .ref ax5_5, .ref ax5_6, .ref ax5_7, .ref ax5_8, .ref ax5_9, .ref ax5_10, .ref ax5_11, .ref ax5_12, .ref ax5_13, .ref ax5_14, .ref ax5_15, .ref ax5_16])), (ax5_6, .inl (cx5_6, 36, .inl fx5_6))]) [0, 1] (by decide) rfl
    have hK9 := hK.sub (tys' := [(cx5_6, .int)]) [0] rfl
    refine W.widen (k := 0) (n := 0) (Nat.le_of_ble_eq_true rfl) (Nat.le_of_ble_eq_true rfl) ?_
    exact W.zret (v := 0) hx hb hr rfl (fun t ht hW => ⟨⟨0, (), rfl, Or.inl (rfl), by rw [ht]; exact hP9, va_K.moved hW.alike hK9, hD9⟩, hS.F ht⟩) hS.2.2 dX5_hasElse_26
  · refine lv_if_eq (tgt := 25) hx hb dX5_hasElse_5 (by decide) (fun h => absurd h (by decide)) (fun _ => ?_)
    refine lv_aload_n hx hb dX5_hasElse_8 rfl (lv_at hl 0 rfl) ?_
    refine va_get (D := (dC, dI)) (ci := 5) (v := .ref ax5_6) (C := RX5) (T := TX5) (N := 17) hx hb hts inlX5 hown hK hP 0 rfl rfl 6 (by decide) (hts (.fieldLink RX5 32 "ShapeReader$Shapes" "elseBits" "[I") mw_14_18) (fun _ h9 => h9) rfl dX5_hasElse_9 ?_
    refine lv_iload_n hx hb dX5_hasElse_12 rfl (lv_at hl 1 rfl) ?_
    refine va_iald hx hb hK hP 1 0 rfl rfl (vp_in_iff.mpr (by have a0 := il_nlt g_2; have a1 := il_nle g_3; have e0 : (0 : Int32).toInt = 0 := (by decide); have e1 : (36 : Int32).toInt = 36 := (by decide); omega)) dX5_hasElse_13 ?_
    refine lv_topi (fun x_8 ex_8 => ?_)
    refine lv_iload_n hx hb dX5_hasElse_14 rfl (lv_at hl 2 rfl) ?_
    refine lv_ishr hx hb dX5_hasElse_15 ?_
    refine lv_topi (fun x_9 ex_9 => ?_)
    refine lv_iconst (v := 1) hx hb dX5_hasElse_16 (by decide) ?_
    refine lv_iand hx hb dX5_hasElse_17 ?_
    refine lv_topi (fun x_10 ex_10 => ?_)
    refine lv_if_eq (tgt := 25) hx hb dX5_hasElse_18 (by decide) (fun c_11 => ?_) (fun c_11 => ?_)
    · refine lv_iconst (v := 0) hx hb dX5_hasElse_25 (by decide) ?_
      have hP9 := hP.sub (ws' := [(h0, .inr (5, [.int xx5_0, .int xx5_1, .ref ax5_2, .ref ax5_3, .ref ax5_4, .ref ax5_5, .ref ax5_6, .ref ax5_7, .ref ax5_8, .ref ax5_9, .ref ax5_10, .ref ax5_11, .ref ax5_12, .ref ax5_13, .ref ax5_14, .ref ax5_15, .ref ax5_16])), (ax5_6, .inl (cx5_6, 36, .inl fx5_6))]) [0, 1] rfl
      have hD9 := hD.sub (ws' := [(h0, .inr (5, [.int xx5_0, .int xx5_1, .ref ax5_2, .ref ax5_3, .ref ax5_4, .ref ax5_5, .ref ax5_6, .ref ax5_7, .ref ax5_8, .ref ax5_9, .ref ax5_10, .ref ax5_11, .ref ax5_12, .ref ax5_13, .ref ax5_14, .ref ax5_15, .ref ax5_16])), (ax5_6, .inl (cx5_6, 36, .inl fx5_6))]) [0, 1] (by decide) rfl
      have hK9 := hK.sub (tys' := [(cx5_6, .int)]) [0] rfl
      refine W.widen (k := 0) (n := 0) (Nat.le_of_ble_eq_true rfl) (Nat.le_of_ble_eq_true rfl) ?_
      exact W.zret (v := 0) hx hb hr rfl (fun t ht hW => ⟨⟨0, (), rfl, Or.inl (rfl), by rw [ht]; exact hP9, va_K.moved hW.alike hK9, hD9⟩, hS.F ht⟩) hS.2.2 dX5_hasElse_26
    · refine lv_iconst (v := 1) hx hb dX5_hasElse_21 (by decide) ?_
      refine lv_goto (tgt := 26) hx hb dX5_hasElse_22 (by decide) ?_
      have hP9 := hP.sub (ws' := [(h0, .inr (5, [.int xx5_0, .int xx5_1, .ref ax5_2, .ref ax5_3, .ref ax5_4, .ref ax5_5, .ref ax5_6, .ref ax5_7, .ref ax5_8, .ref ax5_9, .ref ax5_10, .ref ax5_11, .ref ax5_12, .ref ax5_13, .ref ax5_14, .ref ax5_15, .ref ax5_16])), (ax5_6, .inl (cx5_6, 36, .inl fx5_6))]) [0, 1] rfl
      have hD9 := hD.sub (ws' := [(h0, .inr (5, [.int xx5_0, .int xx5_1, .ref ax5_2, .ref ax5_3, .ref ax5_4, .ref ax5_5, .ref ax5_6, .ref ax5_7, .ref ax5_8, .ref ax5_9, .ref ax5_10, .ref ax5_11, .ref ax5_12, .ref ax5_13, .ref ax5_14, .ref ax5_15, .ref ax5_16])), (ax5_6, .inl (cx5_6, 36, .inl fx5_6))]) [0, 1] (by decide) rfl
      have hK9 := hK.sub (tys' := [(cx5_6, .int)]) [0] rfl
      refine W.widen (k := 0) (n := 0) (Nat.le_of_ble_eq_true rfl) (Nat.le_of_ble_eq_true rfl) ?_
      exact W.zret (v := 1) hx hb hr rfl (fun t ht hW => ⟨⟨1, (), rfl, Or.inr (rfl), by rw [ht]; exact hP9, va_K.moved hW.alike hK9, hD9⟩, hS.F ht⟩) hS.2.2 dX5_hasElse_26

set_option maxRecDepth 100000 in
set_option maxHeartbeats 4000000 in
theorem s_X5_elseWorth (l : Launch) (dC : Nat → ClassId) (dI : Nat → Nat → Nat) (h0 : Nat) (xx5_0 : Int32) (xx5_1 : Int32) (ax5_2 : Nat) (ax5_3 : Nat) (ax5_4 : Nat) (ax5_5 : Nat) (ax5_6 : Nat) (ax5_7 : Nat) (ax5_8 : Nat) (ax5_9 : Nat) (ax5_10 : Nat) (ax5_11 : Nat) (cx5_11 : ClassId) (fx5_11 : Nat → Int64) (ax5_12 : Nat) (ax5_13 : Nat) (ax5_14 : Nat) (ax5_15 : Nat) (ax5_16 : Nat) (p0 : Int32) (p1 : Int32) (hi_xx5_0 : (0 : Int) ≤ xx5_0.toInt ∧ xx5_0.toInt ≤ (6 : Int)) (hi_xx5_1 : (0 : Int) ≤ xx5_1.toInt ∧ xx5_1.toInt ≤ (262 : Int)) (sz : Nat) : Met l yX5_elseWorth (.code yX5_elseWorth cX5_elseWorth 3 (some .long) :: pw) ({ frames := 1, cells := 0, slots := 0, locals := 21 }) (va_Pc [.ref h0, .int p0, .int p1] (vPre dC dI [(h0, .inr (5, [.int xx5_0, .int xx5_1, .ref ax5_2, .ref ax5_3, .ref ax5_4, .ref ax5_5, .ref ax5_6, .ref ax5_7, .ref ax5_8, .ref ax5_9, .ref ax5_10, .ref ax5_11, .ref ax5_12, .ref ax5_13, .ref ax5_14, .ref ax5_15, .ref ax5_16])), (ax5_11, .inl (cx5_11, 288, .inr (.inl fx5_11)))] [(cx5_11, .long)] sz)) (va_Ql (fun (r : Int64) (_ : Unit) => (r = (fx5_11 ((p0 * 8) + p1).toNatClampNeg)) ∨ (r = 0)) (fun (_ : Unit) t => vPst dC dI (va_A [(h0, .inr (5, [.int xx5_0, .int xx5_1, .ref ax5_2, .ref ax5_3, .ref ax5_4, .ref ax5_5, .ref ax5_6, .ref ax5_7, .ref ax5_8, .ref ax5_9, .ref ax5_10, .ref ax5_11, .ref ax5_12, .ref ax5_13, .ref ax5_14, .ref ax5_15, .ref ax5_16])), (ax5_11, .inl (cx5_11, 288, .inr (.inl fx5_11)))] sz) [(h0, .inr (5, [.int xx5_0, .int xx5_1, .ref ax5_2, .ref ax5_3, .ref ax5_4, .ref ax5_5, .ref ax5_6, .ref ax5_7, .ref ax5_8, .ref ax5_9, .ref ax5_10, .ref ax5_11, .ref ax5_12, .ref ax5_13, .ref ax5_14, .ref ax5_15, .ref ax5_16])), (ax5_11, .inl (cx5_11, 288, .inr (.inl fx5_11)))] [(cx5_11, .long)] t) (va_A [(h0, .inr (5, [.int xx5_0, .int xx5_1, .ref ax5_2, .ref ax5_3, .ref ax5_4, .ref ax5_5, .ref ax5_6, .ref ax5_7, .ref ax5_8, .ref ax5_9, .ref ax5_10, .ref ax5_11, .ref ax5_12, .ref ax5_13, .ref ax5_14, .ref ax5_15, .ref ax5_16])), (ax5_11, .inl (cx5_11, 288, .inr (.inl fx5_11)))] sz)) 0 0 (va_A [(h0, .inr (5, [.int xx5_0, .int xx5_1, .ref ax5_2, .ref ax5_3, .ref ax5_4, .ref ax5_5, .ref ax5_6, .ref ax5_7, .ref ax5_8, .ref ax5_9, .ref ax5_10, .ref ax5_11, .ref ax5_12, .ref ax5_13, .ref ax5_14, .ref ax5_15, .ref ax5_16])), (ax5_11, .inl (cx5_11, 288, .inr (.inl fx5_11)))] sz) := by
  refine Met.ofW (cc := cX5_elseWorth) (maxL := 3) (ret := (some .long)) (by decide) rfl ?_
  intro p e s m args below meth c s₁ B hml hv
  obtain ⟨rfl, hsz, hP, hK, hD0, hN⟩ := hv
  have hx := B.exec
  have hb := B.bytes
  have hr := B.returns
  have hts := atoms_spec (ws := .code yX5_elseWorth cX5_elseWorth 3 (some .long) :: pw) B.pre
  have hts : ∀ w ∈ pw, w.before _ s = true := fun w h => hts w (List.mem_cons_of_mem _ h)
  have hown : s.vm.findClass RX5 = some m.cls := findClass_of_methodNamed B.named
  have hlocks := B.notSynchronized
  subst hsz
  have hD := hD0.self (sz := s.heap.size)
  generalize hAe : va_A [(h0, .inr (5, [.int xx5_0, .int xx5_1, .ref ax5_2, .ref ax5_3, .ref ax5_4, .ref ax5_5, .ref ax5_6, .ref ax5_7, .ref ax5_8, .ref ax5_9, .ref ax5_10, .ref ax5_11, .ref ax5_12, .ref ax5_13, .ref ax5_14, .ref ax5_15, .ref ax5_16])), (ax5_11, .inl (cx5_11, 288, .inr (.inl fx5_11)))] s.heap.size = A at hD ⊢
  have hA : ∀ q : Nat, s.heap.size ≤ q → A q := fun q h => by rw [← hAe]; exact Or.inr h
  have hS : va_S A s.heap s.heap [] := va_S.rf
  have hP : va_P (dC, dI) vwCl [(h0, .inr (5, [.int xx5_0, .int xx5_1, .ref ax5_2, .ref ax5_3, .ref ax5_4, .ref ax5_5, .ref ax5_6, .ref ax5_7, .ref ax5_8, .ref ax5_9, .ref ax5_10, .ref ax5_11, .ref ax5_12, .ref ax5_13, .ref ax5_14, .ref ax5_15, .ref ax5_16])), (ax5_11, .inl (cx5_11, 288, .inr (.inl fx5_11)))] s.heap := hP
  have hl := lv_entry ([.ref h0, .int p0, .int p1]) (n := 3) (Nat.le_of_ble_eq_true rfl)
  rw [lg_entry_eq]
  generalize (lg_sl ([.ref h0, .int p0, .int p1]) ++ List.replicate (3 - (lg_sl ([.ref h0, .int p0, .int p1])).length) Slot.unset).toArray = ls at hl ⊢
  have hl : lv_has ls 3 [(0, .ref h0), (1, .int p0), (2, .int p1)] := hl
  refine lv_iload_n hx hb dX5_elseWorth_0 rfl (lv_at hl 1 rfl) ?_
  refine lv_iload_n hx hb dX5_elseWorth_1 rfl (lv_at hl 2 rfl) ?_
  have hPc := hP.sub (ws' := []) [] rfl
  have hDc := hD.sub (ws' := []) [] (by decide) rfl
  have hKc := hK.sub (tys' := []) [] rfl
  have hFc := va_free (wc := []) hD hS hA [] rfl
  refine va_calli (va_runS (As := [.int p0, .int p1]) (rest := []) ⟨hx, hb, hml, hown, hts⟩ (s_X5_isFieldOf l dC dI p0 p1 s.heap.size) (va_cwS 2 hts (gS mw_15_1 mw_15_2 mw_0_9 mw_48_25) rfl rfl rfl (by decide +kernel) ⟨(Nat.le_of_ble_eq_true rfl), (Nat.le_of_ble_eq_true rfl)⟩) (vS hKc hPc hDc hN) rfl rfl hl.1 rfl (lv_room (Nat.le_of_ble_eq_true rfl)) dX5_elseWorth_2 ⟨(Nat.le_of_ble_eq_true rfl), (Nat.le_of_ble_eq_true rfl)⟩) hS (fun q _ h => hFc q h) hFc (fun r_1 u t H1 locs ht hvm hw hB hz1 hk1 hS => ?_)
  obtain ⟨hP1, hK1, hD1⟩ := hB
  rw [ht] at hP1
  have hK1 := va_K.moved hvm.symm hK1
  obtain ⟨hP, hD⟩ := va_join (wr := [(h0, .inr (5, [.int xx5_0, .int xx5_1, .ref ax5_2, .ref ax5_3, .ref ax5_4, .ref ax5_5, .ref ax5_6, .ref ax5_7, .ref ax5_8, .ref ax5_9, .ref ax5_10, .ref ax5_11, .ref ax5_12, .ref ax5_13, .ref ax5_14, .ref ax5_15, .ref ax5_16])), (ax5_11, .inl (cx5_11, 288, .inr (.inl fx5_11)))]) (w1 := []) hP hD [] [0, 1] rfl rfl (by decide) (by decide) hk1 hFc hP1 hD1
  clear hPc hDc hKc hP1 hK1 hD1 hFc hk1 hz1
  generalize H1 = H at hP hS ⊢
  have hP : va_P (dC, dI) vwCl [(h0, .inr (5, [.int xx5_0, .int xx5_1, .ref ax5_2, .ref ax5_3, .ref ax5_4, .ref ax5_5, .ref ax5_6, .ref ax5_7, .ref ax5_8, .ref ax5_9, .ref ax5_10, .ref ax5_11, .ref ax5_12, .ref ax5_13, .ref ax5_14, .ref ax5_15, .ref ax5_16])), (ax5_11, .inl (cx5_11, 288, .inr (.inl fx5_11)))] H := hP
  have hD : va_D A [(h0, .inr (5, [.int xx5_0, .int xx5_1, .ref ax5_2, .ref ax5_3, .ref ax5_4, .ref ax5_5, .ref ax5_6, .ref ax5_7, .ref ax5_8, .ref ax5_9, .ref ax5_10, .ref ax5_11, .ref ax5_12, .ref ax5_13, .ref ax5_14, .ref ax5_15, .ref ax5_16])), (ax5_11, .inl (cx5_11, 288, .inr (.inl fx5_11)))] := hD
  rcases hw with rfl | ⟨rfl, g_2, g_3, g_4, g_5⟩
  · refine lv_if_eq (tgt := 22) hx hb dX5_elseWorth_5 (by decide) (fun _ => ?_) (fun h => absurd (by decide) h)
    refine lv_lconst (v := 0) hx hb dX5_elseWorth_22 (by decide) ?_
    have hP9 := hP.sub (ws' := [(h0, .inr (5, [.int xx5_0, .int xx5_1, .ref ax5_2, .ref ax5_3, .ref ax5_4, .ref ax5_5, .ref ax5_6, .ref ax5_7, .ref ax5_8, .ref ax5_9, .ref ax5_10, .ref ax5_11, .ref ax5_12, .ref ax5_13, .ref ax5_14, .ref ax5_15, .ref ax5_16])), (ax5_11, .inl (cx5_11, 288, .inr (.inl fx5_11)))]) [0, 1] rfl
    have hD9 := hD.sub (ws' := [(h0, .inr (5, [.int xx5_0, .int xx5_1, .ref ax5_2, .ref ax5_3, .ref ax5_4, .ref ax5_5, .ref ax5_6, .ref ax5_7, .ref ax5_8, .ref ax5_9, .ref ax5_10, .ref ax5_11, .ref ax5_12, .ref ax5_13, .ref ax5_14, .ref ax5_15, .ref ax5_16])), (ax5_11, .inl (cx5_11, 288, .inr (.inl fx5_11)))]) [0, 1] (by decide) rfl
    have hK9 := hK.sub (tys' := [(cx5_11, .long)]) [0] rfl
    refine W.widen (k := 0) (n := 0) (Nat.le_of_ble_eq_true rfl) (Nat.le_of_ble_eq_true rfl) ?_
    exact W.lret (v := 0) hx hb hr (fun t ht hW => ⟨⟨0, (), rfl, Or.inr (rfl), by rw [ht]; exact hP9, va_K.moved hW.alike hK9, hD9⟩, hS.F ht⟩) hS.2.2 dX5_elseWorth_23
  · refine lv_if_eq (tgt := 22) hx hb dX5_elseWorth_5 (by decide) (fun h => absurd h (by decide)) (fun _ => ?_)
    refine lv_aload_n hx hb dX5_elseWorth_8 rfl (lv_at hl 0 rfl) ?_
    refine va_get (D := (dC, dI)) (ci := 5) (v := .ref ax5_11) (C := RX5) (T := TX5) (N := 17) hx hb hts inlX5 hown hK hP 0 rfl rfl 11 (by decide) (hts (.fieldLink RX5 47 "ShapeReader$Shapes" "elseWorths" "[J") mw_14_23) (fun _ h9 => h9) rfl dX5_elseWorth_9 ?_
    refine lv_iload_n hx hb dX5_elseWorth_12 rfl (lv_at hl 1 rfl) ?_
    refine lv_bipush (v := 8) hx hb dX5_elseWorth_13 (by decide) ?_
    refine lv_imul hx hb dX5_elseWorth_15 ?_
    refine lv_topi (fun x_8 ex_8 => ?_)
    have bx_8 : (0 : Int) ≤ x_8.toInt ∧ x_8.toInt ≤ (280 : Int) := by have r0 := il_rng p0; have a0 := il_nlt g_2; have a1 := il_nle g_3; have e0 : (0 : Int32).toInt = 0 := (by decide); have e1 : (8 : Int32).toInt = 8 := (by decide); have e2 : (36 : Int32).toInt = 36 := (by decide); rw [ex_8]; have m9 := il_mulE (x := p0) (y := 8) (by rw [e1]; omega) (by rw [e1]; omega); rw [m9, e1]; omega
    refine lv_iload_n hx hb dX5_elseWorth_16 rfl (lv_at hl 2 rfl) ?_
    refine lv_iadd hx hb dX5_elseWorth_17 ?_
    refine lv_topi (fun x_9 ex_9 => ?_)
    have bx_9 : (0 : Int) ≤ x_9.toInt ∧ x_9.toInt ≤ (287 : Int) := by have r0 := il_rng x_8; have r1 := il_rng p1; have a0 := bx_8.1; have a1 := bx_8.2; have a2 := il_nlt g_4; have a3 := il_nle g_5; have e0 : (0 : Int32).toInt = 0 := (by decide); have e1 : (8 : Int32).toInt = 8 := (by decide); rw [ex_9, il_addE (by omega) (by omega)]; omega
    refine va_lald hx hb hK hP 1 0 rfl rfl (vp_in_iff.mpr (by have a0 := bx_9.1; have a1 := bx_9.2; omega)) dX5_elseWorth_18 ?_
    refine lv_topl (fun x_10 ex_10 => ?_)
    refine lv_goto (tgt := 23) hx hb dX5_elseWorth_19 (by decide) ?_
    have hP9 := hP.sub (ws' := [(h0, .inr (5, [.int xx5_0, .int xx5_1, .ref ax5_2, .ref ax5_3, .ref ax5_4, .ref ax5_5, .ref ax5_6, .ref ax5_7, .ref ax5_8, .ref ax5_9, .ref ax5_10, .ref ax5_11, .ref ax5_12, .ref ax5_13, .ref ax5_14, .ref ax5_15, .ref ax5_16])), (ax5_11, .inl (cx5_11, 288, .inr (.inl fx5_11)))]) [0, 1] rfl
    have hD9 := hD.sub (ws' := [(h0, .inr (5, [.int xx5_0, .int xx5_1, .ref ax5_2, .ref ax5_3, .ref ax5_4, .ref ax5_5, .ref ax5_6, .ref ax5_7, .ref ax5_8, .ref ax5_9, .ref ax5_10, .ref ax5_11, .ref ax5_12, .ref ax5_13, .ref ax5_14, .ref ax5_15, .ref ax5_16])), (ax5_11, .inl (cx5_11, 288, .inr (.inl fx5_11)))]) [0, 1] (by decide) rfl
    have hK9 := hK.sub (tys' := [(cx5_11, .long)]) [0] rfl
    refine W.widen (k := 0) (n := 0) (Nat.le_of_ble_eq_true rfl) (Nat.le_of_ble_eq_true rfl) ?_
    exact W.lret (v := x_10) hx hb hr (fun t ht hW => ⟨⟨x_10, (), rfl, Or.inl ((by rw [ex_10, ex_9, ex_8])), by rw [ht]; exact hP9, va_K.moved hW.alike hK9, hD9⟩, hS.F ht⟩) hS.2.2 dX5_elseWorth_23

set_option maxRecDepth 100000 in
set_option maxHeartbeats 4000000 in
theorem s_X5_sortOf (l : Launch) (dC : Nat → ClassId) (dI : Nat → Nat → Nat) (h0 : Nat) (xx5_0 : Int32) (xx5_1 : Int32) (ax5_2 : Nat) (ax5_3 : Nat) (ax5_4 : Nat) (ax5_5 : Nat) (ax5_6 : Nat) (ax5_7 : Nat) (ax5_8 : Nat) (ax5_9 : Nat) (ax5_10 : Nat) (ax5_11 : Nat) (ax5_12 : Nat) (cx5_12 : ClassId) (fx5_12 : Nat → Int32) (ax5_13 : Nat) (ax5_14 : Nat) (ax5_15 : Nat) (ax5_16 : Nat) (p0 : Int32) (hi_xx5_0 : (0 : Int) ≤ xx5_0.toInt ∧ xx5_0.toInt ≤ (6 : Int)) (hi_xx5_1 : (0 : Int) ≤ xx5_1.toInt ∧ xx5_1.toInt ≤ (262 : Int)) (sz : Nat) : Met l yX5_sortOf (.code yX5_sortOf cX5_sortOf 2 (some .int) :: pw) ({ frames := 1, cells := 0, slots := 0, locals := 21 }) (va_Pc [.ref h0, .int p0] (vPre dC dI [(h0, .inr (5, [.int xx5_0, .int xx5_1, .ref ax5_2, .ref ax5_3, .ref ax5_4, .ref ax5_5, .ref ax5_6, .ref ax5_7, .ref ax5_8, .ref ax5_9, .ref ax5_10, .ref ax5_11, .ref ax5_12, .ref ax5_13, .ref ax5_14, .ref ax5_15, .ref ax5_16])), (ax5_12, .inl (cx5_12, 262, .inl fx5_12))] [(cx5_12, .int)] sz)) (va_Qi (fun (r : Int32) (_ : Unit) => (r = (fx5_12 p0.toNatClampNeg)) ∨ (r = (-1))) (fun (_ : Unit) t => vPst dC dI (va_A [(h0, .inr (5, [.int xx5_0, .int xx5_1, .ref ax5_2, .ref ax5_3, .ref ax5_4, .ref ax5_5, .ref ax5_6, .ref ax5_7, .ref ax5_8, .ref ax5_9, .ref ax5_10, .ref ax5_11, .ref ax5_12, .ref ax5_13, .ref ax5_14, .ref ax5_15, .ref ax5_16])), (ax5_12, .inl (cx5_12, 262, .inl fx5_12))] sz) [(h0, .inr (5, [.int xx5_0, .int xx5_1, .ref ax5_2, .ref ax5_3, .ref ax5_4, .ref ax5_5, .ref ax5_6, .ref ax5_7, .ref ax5_8, .ref ax5_9, .ref ax5_10, .ref ax5_11, .ref ax5_12, .ref ax5_13, .ref ax5_14, .ref ax5_15, .ref ax5_16])), (ax5_12, .inl (cx5_12, 262, .inl fx5_12))] [(cx5_12, .int)] t) (va_A [(h0, .inr (5, [.int xx5_0, .int xx5_1, .ref ax5_2, .ref ax5_3, .ref ax5_4, .ref ax5_5, .ref ax5_6, .ref ax5_7, .ref ax5_8, .ref ax5_9, .ref ax5_10, .ref ax5_11, .ref ax5_12, .ref ax5_13, .ref ax5_14, .ref ax5_15, .ref ax5_16])), (ax5_12, .inl (cx5_12, 262, .inl fx5_12))] sz)) 0 0 (va_A [(h0, .inr (5, [.int xx5_0, .int xx5_1, .ref ax5_2, .ref ax5_3, .ref ax5_4, .ref ax5_5, .ref ax5_6, .ref ax5_7, .ref ax5_8, .ref ax5_9, .ref ax5_10, .ref ax5_11, .ref ax5_12, .ref ax5_13, .ref ax5_14, .ref ax5_15, .ref ax5_16])), (ax5_12, .inl (cx5_12, 262, .inl fx5_12))] sz) := by
  refine Met.ofW (cc := cX5_sortOf) (maxL := 2) (ret := (some .int)) (by decide) rfl ?_
  intro p e s m args below meth c s₁ B hml hv
  obtain ⟨rfl, hsz, hP, hK, hD0, hN⟩ := hv
  have hx := B.exec
  have hb := B.bytes
  have hr := B.returns
  have hts := atoms_spec (ws := .code yX5_sortOf cX5_sortOf 2 (some .int) :: pw) B.pre
  have hts : ∀ w ∈ pw, w.before _ s = true := fun w h => hts w (List.mem_cons_of_mem _ h)
  have hown : s.vm.findClass RX5 = some m.cls := findClass_of_methodNamed B.named
  have hlocks := B.notSynchronized
  subst hsz
  have hD := hD0.self (sz := s.heap.size)
  generalize hAe : va_A [(h0, .inr (5, [.int xx5_0, .int xx5_1, .ref ax5_2, .ref ax5_3, .ref ax5_4, .ref ax5_5, .ref ax5_6, .ref ax5_7, .ref ax5_8, .ref ax5_9, .ref ax5_10, .ref ax5_11, .ref ax5_12, .ref ax5_13, .ref ax5_14, .ref ax5_15, .ref ax5_16])), (ax5_12, .inl (cx5_12, 262, .inl fx5_12))] s.heap.size = A at hD ⊢
  have hA : ∀ q : Nat, s.heap.size ≤ q → A q := fun q h => by rw [← hAe]; exact Or.inr h
  have hS : va_S A s.heap s.heap [] := va_S.rf
  have hP : va_P (dC, dI) vwCl [(h0, .inr (5, [.int xx5_0, .int xx5_1, .ref ax5_2, .ref ax5_3, .ref ax5_4, .ref ax5_5, .ref ax5_6, .ref ax5_7, .ref ax5_8, .ref ax5_9, .ref ax5_10, .ref ax5_11, .ref ax5_12, .ref ax5_13, .ref ax5_14, .ref ax5_15, .ref ax5_16])), (ax5_12, .inl (cx5_12, 262, .inl fx5_12))] s.heap := hP
  have hl := lv_entry ([.ref h0, .int p0]) (n := 2) (Nat.le_of_ble_eq_true rfl)
  rw [lg_entry_eq]
  generalize (lg_sl ([.ref h0, .int p0]) ++ List.replicate (2 - (lg_sl ([.ref h0, .int p0])).length) Slot.unset).toArray = ls at hl ⊢
  have hl : lv_has ls 2 [(0, .ref h0), (1, .int p0)] := hl
  refine lv_aload_n hx hb dX5_sortOf_0 rfl (lv_at hl 0 rfl) ?_
  refine lv_iload_n hx hb dX5_sortOf_1 rfl (lv_at hl 1 rfl) ?_
  have hPc := hP.sub (ws' := [(h0, .inr (5, [.int xx5_0, .int xx5_1, .ref ax5_2, .ref ax5_3, .ref ax5_4, .ref ax5_5, .ref ax5_6, .ref ax5_7, .ref ax5_8, .ref ax5_9, .ref ax5_10, .ref ax5_11, .ref ax5_12, .ref ax5_13, .ref ax5_14, .ref ax5_15, .ref ax5_16]))]) [0] rfl
  have hDc := hD.sub (ws' := [(h0, .inr (5, [.int xx5_0, .int xx5_1, .ref ax5_2, .ref ax5_3, .ref ax5_4, .ref ax5_5, .ref ax5_6, .ref ax5_7, .ref ax5_8, .ref ax5_9, .ref ax5_10, .ref ax5_11, .ref ax5_12, .ref ax5_13, .ref ax5_14, .ref ax5_15, .ref ax5_16]))]) [0] (by decide) rfl
  have hKc := hK.sub (tys' := []) [] rfl
  have hFc := va_free (wc := [(h0, .inr (5, [.int xx5_0, .int xx5_1, .ref ax5_2, .ref ax5_3, .ref ax5_4, .ref ax5_5, .ref ax5_6, .ref ax5_7, .ref ax5_8, .ref ax5_9, .ref ax5_10, .ref ax5_11, .ref ax5_12, .ref ax5_13, .ref ax5_14, .ref ax5_15, .ref ax5_16]))]) hD hS hA [0] rfl
  refine va_calli (va_runV (As := [.int p0]) (rest := []) ⟨hx, hb, hml, hown, hts⟩ (s_X5_isType l dC dI h0 xx5_0 xx5_1 ax5_2 ax5_3 ax5_4 ax5_5 ax5_6 ax5_7 ax5_8 ax5_9 ax5_10 ax5_11 ax5_12 ax5_13 ax5_14 ax5_15 ax5_16 p0 (by have a0 := hi_xx5_0.1; have a1 := hi_xx5_0.2; omega) (by have a0 := hi_xx5_1.1; have a1 := hi_xx5_1.2; omega) s.heap.size) (cwV 1 hts (gV mw_15_3 mw_15_4 mw_15_5 mw_0_9 mw_48_26) rfl rfl rfl (by decide +kernel) ⟨(Nat.le_of_ble_eq_true rfl), (Nat.le_of_ble_eq_true rfl)⟩) (vV (ci := 5) (q0 := 0) hKc hPc hDc hN rfl rfl) rfl rfl hl.1 rfl (lv_room (Nat.le_of_ble_eq_true rfl)) dX5_sortOf_2 ⟨(Nat.le_of_ble_eq_true rfl), (Nat.le_of_ble_eq_true rfl)⟩) hS (fun q _ h => hFc q h) hFc (fun r_1 u t H1 locs ht hvm hw hB hz1 hk1 hS => ?_)
  obtain ⟨hP1, hK1, hD1⟩ := hB
  rw [ht] at hP1
  have hK1 := va_K.moved hvm.symm hK1
  obtain ⟨hP, hD⟩ := va_join (wr := [(ax5_12, .inl (cx5_12, 262, .inl fx5_12))]) (w1 := [(h0, .inr (5, [.int xx5_0, .int xx5_1, .ref ax5_2, .ref ax5_3, .ref ax5_4, .ref ax5_5, .ref ax5_6, .ref ax5_7, .ref ax5_8, .ref ax5_9, .ref ax5_10, .ref ax5_11, .ref ax5_12, .ref ax5_13, .ref ax5_14, .ref ax5_15, .ref ax5_16]))]) hP hD [0] [1] rfl rfl (by decide) (by decide) hk1 hFc hP1 hD1
  clear hPc hDc hKc hP1 hK1 hD1 hFc hk1 hz1
  generalize H1 = H at hP hS ⊢
  have hP : va_P (dC, dI) vwCl [(ax5_12, .inl (cx5_12, 262, .inl fx5_12)), (h0, .inr (5, [.int xx5_0, .int xx5_1, .ref ax5_2, .ref ax5_3, .ref ax5_4, .ref ax5_5, .ref ax5_6, .ref ax5_7, .ref ax5_8, .ref ax5_9, .ref ax5_10, .ref ax5_11, .ref ax5_12, .ref ax5_13, .ref ax5_14, .ref ax5_15, .ref ax5_16]))] H := hP
  have hD : va_D A [(ax5_12, .inl (cx5_12, 262, .inl fx5_12)), (h0, .inr (5, [.int xx5_0, .int xx5_1, .ref ax5_2, .ref ax5_3, .ref ax5_4, .ref ax5_5, .ref ax5_6, .ref ax5_7, .ref ax5_8, .ref ax5_9, .ref ax5_10, .ref ax5_11, .ref ax5_12, .ref ax5_13, .ref ax5_14, .ref ax5_15, .ref ax5_16]))] := hD
  rcases hw with rfl | ⟨rfl, g_2, g_3, g_4⟩
  · refine lv_if_eq (tgt := 17) hx hb dX5_sortOf_5 (by decide) (fun _ => ?_) (fun h => absurd (by decide) h)
    refine lv_iconst (v := (-1)) hx hb dX5_sortOf_17 (by decide) ?_
    have hP9 := hP.sub (ws' := [(h0, .inr (5, [.int xx5_0, .int xx5_1, .ref ax5_2, .ref ax5_3, .ref ax5_4, .ref ax5_5, .ref ax5_6, .ref ax5_7, .ref ax5_8, .ref ax5_9, .ref ax5_10, .ref ax5_11, .ref ax5_12, .ref ax5_13, .ref ax5_14, .ref ax5_15, .ref ax5_16])), (ax5_12, .inl (cx5_12, 262, .inl fx5_12))]) [1, 0] rfl
    have hD9 := hD.sub (ws' := [(h0, .inr (5, [.int xx5_0, .int xx5_1, .ref ax5_2, .ref ax5_3, .ref ax5_4, .ref ax5_5, .ref ax5_6, .ref ax5_7, .ref ax5_8, .ref ax5_9, .ref ax5_10, .ref ax5_11, .ref ax5_12, .ref ax5_13, .ref ax5_14, .ref ax5_15, .ref ax5_16])), (ax5_12, .inl (cx5_12, 262, .inl fx5_12))]) [1, 0] (by decide) rfl
    have hK9 := hK.sub (tys' := [(cx5_12, .int)]) [0] rfl
    refine W.widen (k := 0) (n := 0) (Nat.le_of_ble_eq_true rfl) (Nat.le_of_ble_eq_true rfl) ?_
    exact W.iret (v := (-1)) hx hb hr (fun t ht hW => ⟨⟨(-1), (), rfl, Or.inr (rfl), by rw [ht]; exact hP9, va_K.moved hW.alike hK9, hD9⟩, hS.F ht⟩) hS.2.2 dX5_sortOf_18
  · refine lv_if_eq (tgt := 17) hx hb dX5_sortOf_5 (by decide) (fun h => absurd h (by decide)) (fun _ => ?_)
    refine lv_aload_n hx hb dX5_sortOf_8 rfl (lv_at hl 0 rfl) ?_
    refine va_get (D := (dC, dI)) (ci := 5) (v := .ref ax5_12) (C := RX5) (T := TX5) (N := 17) hx hb hts inlX5 hown hK hP 1 rfl rfl 12 (by decide) (hts (.fieldLink RX5 50 "ShapeReader$Shapes" "sorts" "[I") mw_14_24) (fun _ h9 => h9) rfl dX5_sortOf_9 ?_
    refine lv_iload_n hx hb dX5_sortOf_12 rfl (lv_at hl 1 rfl) ?_
    refine va_iald hx hb hK hP 0 0 rfl rfl (vp_in_iff.mpr (by have a0 := il_nlt g_2; have a1 := il_nle g_4; have e0 : (0 : Int32).toInt = 0 := (by decide); have e1 : (262 : Int32).toInt = 262 := (by decide); omega)) dX5_sortOf_13 ?_
    refine lv_topi (fun x_7 ex_7 => ?_)
    refine lv_goto (tgt := 18) hx hb dX5_sortOf_14 (by decide) ?_
    have hP9 := hP.sub (ws' := [(h0, .inr (5, [.int xx5_0, .int xx5_1, .ref ax5_2, .ref ax5_3, .ref ax5_4, .ref ax5_5, .ref ax5_6, .ref ax5_7, .ref ax5_8, .ref ax5_9, .ref ax5_10, .ref ax5_11, .ref ax5_12, .ref ax5_13, .ref ax5_14, .ref ax5_15, .ref ax5_16])), (ax5_12, .inl (cx5_12, 262, .inl fx5_12))]) [1, 0] rfl
    have hD9 := hD.sub (ws' := [(h0, .inr (5, [.int xx5_0, .int xx5_1, .ref ax5_2, .ref ax5_3, .ref ax5_4, .ref ax5_5, .ref ax5_6, .ref ax5_7, .ref ax5_8, .ref ax5_9, .ref ax5_10, .ref ax5_11, .ref ax5_12, .ref ax5_13, .ref ax5_14, .ref ax5_15, .ref ax5_16])), (ax5_12, .inl (cx5_12, 262, .inl fx5_12))]) [1, 0] (by decide) rfl
    have hK9 := hK.sub (tys' := [(cx5_12, .int)]) [0] rfl
    refine W.widen (k := 0) (n := 0) (Nat.le_of_ble_eq_true rfl) (Nat.le_of_ble_eq_true rfl) ?_
    exact W.iret (v := x_7) hx hb hr (fun t ht hW => ⟨⟨x_7, (), rfl, Or.inl ((by rw [ex_7])), by rw [ht]; exact hP9, va_K.moved hW.alike hK9, hD9⟩, hS.F ht⟩) hS.2.2 dX5_sortOf_18

set_option maxRecDepth 100000 in
set_option maxHeartbeats 4000000 in
theorem s_X5_innerOf (l : Launch) (dC : Nat → ClassId) (dI : Nat → Nat → Nat) (h0 : Nat) (xx5_0 : Int32) (xx5_1 : Int32) (ax5_2 : Nat) (ax5_3 : Nat) (ax5_4 : Nat) (ax5_5 : Nat) (ax5_6 : Nat) (ax5_7 : Nat) (ax5_8 : Nat) (ax5_9 : Nat) (ax5_10 : Nat) (ax5_11 : Nat) (ax5_12 : Nat) (ax5_13 : Nat) (cx5_13 : ClassId) (fx5_13 : Nat → Int32) (ax5_14 : Nat) (ax5_15 : Nat) (ax5_16 : Nat) (p0 : Int32) (hi_xx5_0 : (0 : Int) ≤ xx5_0.toInt ∧ xx5_0.toInt ≤ (6 : Int)) (hi_xx5_1 : (0 : Int) ≤ xx5_1.toInt ∧ xx5_1.toInt ≤ (262 : Int)) (sz : Nat) : Met l yX5_innerOf (.code yX5_innerOf cX5_innerOf 2 (some .int) :: pw) ({ frames := 1, cells := 0, slots := 0, locals := 21 }) (va_Pc [.ref h0, .int p0] (vPre dC dI [(h0, .inr (5, [.int xx5_0, .int xx5_1, .ref ax5_2, .ref ax5_3, .ref ax5_4, .ref ax5_5, .ref ax5_6, .ref ax5_7, .ref ax5_8, .ref ax5_9, .ref ax5_10, .ref ax5_11, .ref ax5_12, .ref ax5_13, .ref ax5_14, .ref ax5_15, .ref ax5_16])), (ax5_13, .inl (cx5_13, 262, .inl fx5_13))] [(cx5_13, .int)] sz)) (va_Qi (fun (r : Int32) (_ : Unit) => (r = (fx5_13 p0.toNatClampNeg)) ∨ (r = (-1))) (fun (_ : Unit) t => vPst dC dI (va_A [(h0, .inr (5, [.int xx5_0, .int xx5_1, .ref ax5_2, .ref ax5_3, .ref ax5_4, .ref ax5_5, .ref ax5_6, .ref ax5_7, .ref ax5_8, .ref ax5_9, .ref ax5_10, .ref ax5_11, .ref ax5_12, .ref ax5_13, .ref ax5_14, .ref ax5_15, .ref ax5_16])), (ax5_13, .inl (cx5_13, 262, .inl fx5_13))] sz) [(h0, .inr (5, [.int xx5_0, .int xx5_1, .ref ax5_2, .ref ax5_3, .ref ax5_4, .ref ax5_5, .ref ax5_6, .ref ax5_7, .ref ax5_8, .ref ax5_9, .ref ax5_10, .ref ax5_11, .ref ax5_12, .ref ax5_13, .ref ax5_14, .ref ax5_15, .ref ax5_16])), (ax5_13, .inl (cx5_13, 262, .inl fx5_13))] [(cx5_13, .int)] t) (va_A [(h0, .inr (5, [.int xx5_0, .int xx5_1, .ref ax5_2, .ref ax5_3, .ref ax5_4, .ref ax5_5, .ref ax5_6, .ref ax5_7, .ref ax5_8, .ref ax5_9, .ref ax5_10, .ref ax5_11, .ref ax5_12, .ref ax5_13, .ref ax5_14, .ref ax5_15, .ref ax5_16])), (ax5_13, .inl (cx5_13, 262, .inl fx5_13))] sz)) 0 0 (va_A [(h0, .inr (5, [.int xx5_0, .int xx5_1, .ref ax5_2, .ref ax5_3, .ref ax5_4, .ref ax5_5, .ref ax5_6, .ref ax5_7, .ref ax5_8, .ref ax5_9, .ref ax5_10, .ref ax5_11, .ref ax5_12, .ref ax5_13, .ref ax5_14, .ref ax5_15, .ref ax5_16])), (ax5_13, .inl (cx5_13, 262, .inl fx5_13))] sz) := by
  refine Met.ofW (cc := cX5_innerOf) (maxL := 2) (ret := (some .int)) (by decide) rfl ?_
  intro p e s m args below meth c s₁ B hml hv
  obtain ⟨rfl, hsz, hP, hK, hD0, hN⟩ := hv
  have hx := B.exec
  have hb := B.bytes
  have hr := B.returns
  have hts := atoms_spec (ws := .code yX5_innerOf cX5_innerOf 2 (some .int) :: pw) B.pre
  have hts : ∀ w ∈ pw, w.before _ s = true := fun w h => hts w (List.mem_cons_of_mem _ h)
  have hown : s.vm.findClass RX5 = some m.cls := findClass_of_methodNamed B.named
  have hlocks := B.notSynchronized
  subst hsz
  have hD := hD0.self (sz := s.heap.size)
  generalize hAe : va_A [(h0, .inr (5, [.int xx5_0, .int xx5_1, .ref ax5_2, .ref ax5_3, .ref ax5_4, .ref ax5_5, .ref ax5_6, .ref ax5_7, .ref ax5_8, .ref ax5_9, .ref ax5_10, .ref ax5_11, .ref ax5_12, .ref ax5_13, .ref ax5_14, .ref ax5_15, .ref ax5_16])), (ax5_13, .inl (cx5_13, 262, .inl fx5_13))] s.heap.size = A at hD ⊢
  have hA : ∀ q : Nat, s.heap.size ≤ q → A q := fun q h => by rw [← hAe]; exact Or.inr h
  have hS : va_S A s.heap s.heap [] := va_S.rf
  have hP : va_P (dC, dI) vwCl [(h0, .inr (5, [.int xx5_0, .int xx5_1, .ref ax5_2, .ref ax5_3, .ref ax5_4, .ref ax5_5, .ref ax5_6, .ref ax5_7, .ref ax5_8, .ref ax5_9, .ref ax5_10, .ref ax5_11, .ref ax5_12, .ref ax5_13, .ref ax5_14, .ref ax5_15, .ref ax5_16])), (ax5_13, .inl (cx5_13, 262, .inl fx5_13))] s.heap := hP
  have hl := lv_entry ([.ref h0, .int p0]) (n := 2) (Nat.le_of_ble_eq_true rfl)
  rw [lg_entry_eq]
  generalize (lg_sl ([.ref h0, .int p0]) ++ List.replicate (2 - (lg_sl ([.ref h0, .int p0])).length) Slot.unset).toArray = ls at hl ⊢
  have hl : lv_has ls 2 [(0, .ref h0), (1, .int p0)] := hl
  refine lv_aload_n hx hb dX5_innerOf_0 rfl (lv_at hl 0 rfl) ?_
  refine lv_iload_n hx hb dX5_innerOf_1 rfl (lv_at hl 1 rfl) ?_
  have hPc := hP.sub (ws' := [(h0, .inr (5, [.int xx5_0, .int xx5_1, .ref ax5_2, .ref ax5_3, .ref ax5_4, .ref ax5_5, .ref ax5_6, .ref ax5_7, .ref ax5_8, .ref ax5_9, .ref ax5_10, .ref ax5_11, .ref ax5_12, .ref ax5_13, .ref ax5_14, .ref ax5_15, .ref ax5_16]))]) [0] rfl
  have hDc := hD.sub (ws' := [(h0, .inr (5, [.int xx5_0, .int xx5_1, .ref ax5_2, .ref ax5_3, .ref ax5_4, .ref ax5_5, .ref ax5_6, .ref ax5_7, .ref ax5_8, .ref ax5_9, .ref ax5_10, .ref ax5_11, .ref ax5_12, .ref ax5_13, .ref ax5_14, .ref ax5_15, .ref ax5_16]))]) [0] (by decide) rfl
  have hKc := hK.sub (tys' := []) [] rfl
  have hFc := va_free (wc := [(h0, .inr (5, [.int xx5_0, .int xx5_1, .ref ax5_2, .ref ax5_3, .ref ax5_4, .ref ax5_5, .ref ax5_6, .ref ax5_7, .ref ax5_8, .ref ax5_9, .ref ax5_10, .ref ax5_11, .ref ax5_12, .ref ax5_13, .ref ax5_14, .ref ax5_15, .ref ax5_16]))]) hD hS hA [0] rfl
  refine va_calli (va_runV (As := [.int p0]) (rest := []) ⟨hx, hb, hml, hown, hts⟩ (s_X5_isType l dC dI h0 xx5_0 xx5_1 ax5_2 ax5_3 ax5_4 ax5_5 ax5_6 ax5_7 ax5_8 ax5_9 ax5_10 ax5_11 ax5_12 ax5_13 ax5_14 ax5_15 ax5_16 p0 (by have a0 := hi_xx5_0.1; have a1 := hi_xx5_0.2; omega) (by have a0 := hi_xx5_1.1; have a1 := hi_xx5_1.2; omega) s.heap.size) (cwV 1 hts (gV mw_15_3 mw_15_4 mw_15_5 mw_0_9 mw_48_26) rfl rfl rfl (by decide +kernel) ⟨(Nat.le_of_ble_eq_true rfl), (Nat.le_of_ble_eq_true rfl)⟩) (vV (ci := 5) (q0 := 0) hKc hPc hDc hN rfl rfl) rfl rfl hl.1 rfl (lv_room (Nat.le_of_ble_eq_true rfl)) dX5_innerOf_2 ⟨(Nat.le_of_ble_eq_true rfl), (Nat.le_of_ble_eq_true rfl)⟩) hS (fun q _ h => hFc q h) hFc (fun r_1 u t H1 locs ht hvm hw hB hz1 hk1 hS => ?_)
  obtain ⟨hP1, hK1, hD1⟩ := hB
  rw [ht] at hP1
  have hK1 := va_K.moved hvm.symm hK1
  obtain ⟨hP, hD⟩ := va_join (wr := [(ax5_13, .inl (cx5_13, 262, .inl fx5_13))]) (w1 := [(h0, .inr (5, [.int xx5_0, .int xx5_1, .ref ax5_2, .ref ax5_3, .ref ax5_4, .ref ax5_5, .ref ax5_6, .ref ax5_7, .ref ax5_8, .ref ax5_9, .ref ax5_10, .ref ax5_11, .ref ax5_12, .ref ax5_13, .ref ax5_14, .ref ax5_15, .ref ax5_16]))]) hP hD [0] [1] rfl rfl (by decide) (by decide) hk1 hFc hP1 hD1
  clear hPc hDc hKc hP1 hK1 hD1 hFc hk1 hz1
  generalize H1 = H at hP hS ⊢
  have hP : va_P (dC, dI) vwCl [(ax5_13, .inl (cx5_13, 262, .inl fx5_13)), (h0, .inr (5, [.int xx5_0, .int xx5_1, .ref ax5_2, .ref ax5_3, .ref ax5_4, .ref ax5_5, .ref ax5_6, .ref ax5_7, .ref ax5_8, .ref ax5_9, .ref ax5_10, .ref ax5_11, .ref ax5_12, .ref ax5_13, .ref ax5_14, .ref ax5_15, .ref ax5_16]))] H := hP
  have hD : va_D A [(ax5_13, .inl (cx5_13, 262, .inl fx5_13)), (h0, .inr (5, [.int xx5_0, .int xx5_1, .ref ax5_2, .ref ax5_3, .ref ax5_4, .ref ax5_5, .ref ax5_6, .ref ax5_7, .ref ax5_8, .ref ax5_9, .ref ax5_10, .ref ax5_11, .ref ax5_12, .ref ax5_13, .ref ax5_14, .ref ax5_15, .ref ax5_16]))] := hD
  rcases hw with rfl | ⟨rfl, g_2, g_3, g_4⟩
  · refine lv_if_eq (tgt := 17) hx hb dX5_innerOf_5 (by decide) (fun _ => ?_) (fun h => absurd (by decide) h)
    refine lv_iconst (v := (-1)) hx hb dX5_innerOf_17 (by decide) ?_
    have hP9 := hP.sub (ws' := [(h0, .inr (5, [.int xx5_0, .int xx5_1, .ref ax5_2, .ref ax5_3, .ref ax5_4, .ref ax5_5, .ref ax5_6, .ref ax5_7, .ref ax5_8, .ref ax5_9, .ref ax5_10, .ref ax5_11, .ref ax5_12, .ref ax5_13, .ref ax5_14, .ref ax5_15, .ref ax5_16])), (ax5_13, .inl (cx5_13, 262, .inl fx5_13))]) [1, 0] rfl
    have hD9 := hD.sub (ws' := [(h0, .inr (5, [.int xx5_0, .int xx5_1, .ref ax5_2, .ref ax5_3, .ref ax5_4, .ref ax5_5, .ref ax5_6, .ref ax5_7, .ref ax5_8, .ref ax5_9, .ref ax5_10, .ref ax5_11, .ref ax5_12, .ref ax5_13, .ref ax5_14, .ref ax5_15, .ref ax5_16])), (ax5_13, .inl (cx5_13, 262, .inl fx5_13))]) [1, 0] (by decide) rfl
    have hK9 := hK.sub (tys' := [(cx5_13, .int)]) [0] rfl
    refine W.widen (k := 0) (n := 0) (Nat.le_of_ble_eq_true rfl) (Nat.le_of_ble_eq_true rfl) ?_
    exact W.iret (v := (-1)) hx hb hr (fun t ht hW => ⟨⟨(-1), (), rfl, Or.inr (rfl), by rw [ht]; exact hP9, va_K.moved hW.alike hK9, hD9⟩, hS.F ht⟩) hS.2.2 dX5_innerOf_18
  · refine lv_if_eq (tgt := 17) hx hb dX5_innerOf_5 (by decide) (fun h => absurd h (by decide)) (fun _ => ?_)
    refine lv_aload_n hx hb dX5_innerOf_8 rfl (lv_at hl 0 rfl) ?_
    refine va_get (D := (dC, dI)) (ci := 5) (v := .ref ax5_13) (C := RX5) (T := TX5) (N := 17) hx hb hts inlX5 hown hK hP 1 rfl rfl 13 (by decide) (hts (.fieldLink RX5 53 "ShapeReader$Shapes" "inners" "[I") mw_14_25) (fun _ h9 => h9) rfl dX5_innerOf_9 ?_
    refine lv_iload_n hx hb dX5_innerOf_12 rfl (lv_at hl 1 rfl) ?_
    refine va_iald hx hb hK hP 0 0 rfl rfl (vp_in_iff.mpr (by have a0 := il_nlt g_2; have a1 := il_nle g_4; have e0 : (0 : Int32).toInt = 0 := (by decide); have e1 : (262 : Int32).toInt = 262 := (by decide); omega)) dX5_innerOf_13 ?_
    refine lv_topi (fun x_7 ex_7 => ?_)
    refine lv_goto (tgt := 18) hx hb dX5_innerOf_14 (by decide) ?_
    have hP9 := hP.sub (ws' := [(h0, .inr (5, [.int xx5_0, .int xx5_1, .ref ax5_2, .ref ax5_3, .ref ax5_4, .ref ax5_5, .ref ax5_6, .ref ax5_7, .ref ax5_8, .ref ax5_9, .ref ax5_10, .ref ax5_11, .ref ax5_12, .ref ax5_13, .ref ax5_14, .ref ax5_15, .ref ax5_16])), (ax5_13, .inl (cx5_13, 262, .inl fx5_13))]) [1, 0] rfl
    have hD9 := hD.sub (ws' := [(h0, .inr (5, [.int xx5_0, .int xx5_1, .ref ax5_2, .ref ax5_3, .ref ax5_4, .ref ax5_5, .ref ax5_6, .ref ax5_7, .ref ax5_8, .ref ax5_9, .ref ax5_10, .ref ax5_11, .ref ax5_12, .ref ax5_13, .ref ax5_14, .ref ax5_15, .ref ax5_16])), (ax5_13, .inl (cx5_13, 262, .inl fx5_13))]) [1, 0] (by decide) rfl
    have hK9 := hK.sub (tys' := [(cx5_13, .int)]) [0] rfl
    refine W.widen (k := 0) (n := 0) (Nat.le_of_ble_eq_true rfl) (Nat.le_of_ble_eq_true rfl) ?_
    exact W.iret (v := x_7) hx hb hr (fun t ht hW => ⟨⟨x_7, (), rfl, Or.inl ((by rw [ex_7])), by rw [ht]; exact hP9, va_K.moved hW.alike hK9, hD9⟩, hS.F ht⟩) hS.2.2 dX5_innerOf_18

set_option maxRecDepth 100000 in
set_option maxHeartbeats 4000000 in
theorem s_X5_branchAfter (l : Launch) (dC : Nat → ClassId) (dI : Nat → Nat → Nat) (h0 : Nat) (xx5_0 : Int32) (xx5_1 : Int32) (ax5_2 : Nat) (ax5_3 : Nat) (ax5_4 : Nat) (ax5_5 : Nat) (ax5_6 : Nat) (ax5_7 : Nat) (ax5_8 : Nat) (ax5_9 : Nat) (ax5_10 : Nat) (ax5_11 : Nat) (ax5_12 : Nat) (ax5_13 : Nat) (ax5_14 : Nat) (cx5_14 : ClassId) (fx5_14 : Nat → Int32) (ax5_15 : Nat) (ax5_16 : Nat) (p0 : Int32) (hi_xx5_0 : (0 : Int) ≤ xx5_0.toInt ∧ xx5_0.toInt ≤ (6 : Int)) (hi_xx5_1 : (0 : Int) ≤ xx5_1.toInt ∧ xx5_1.toInt ≤ (262 : Int)) (sz : Nat) : Met l yX5_branchAfter (.code yX5_branchAfter cX5_branchAfter 2 (some .int) :: pw) ({ frames := 1, cells := 0, slots := 0, locals := 21 }) (va_Pc [.ref h0, .int p0] (vPre dC dI [(h0, .inr (5, [.int xx5_0, .int xx5_1, .ref ax5_2, .ref ax5_3, .ref ax5_4, .ref ax5_5, .ref ax5_6, .ref ax5_7, .ref ax5_8, .ref ax5_9, .ref ax5_10, .ref ax5_11, .ref ax5_12, .ref ax5_13, .ref ax5_14, .ref ax5_15, .ref ax5_16])), (ax5_14, .inl (cx5_14, 262, .inl fx5_14))] [(cx5_14, .int)] sz)) (va_Qi (fun (r : Int32) (_ : Unit) => (r = (fx5_14 p0.toNatClampNeg)) ∨ (r = (-1))) (fun (_ : Unit) t => vPst dC dI (va_A [(h0, .inr (5, [.int xx5_0, .int xx5_1, .ref ax5_2, .ref ax5_3, .ref ax5_4, .ref ax5_5, .ref ax5_6, .ref ax5_7, .ref ax5_8, .ref ax5_9, .ref ax5_10, .ref ax5_11, .ref ax5_12, .ref ax5_13, .ref ax5_14, .ref ax5_15, .ref ax5_16])), (ax5_14, .inl (cx5_14, 262, .inl fx5_14))] sz) [(h0, .inr (5, [.int xx5_0, .int xx5_1, .ref ax5_2, .ref ax5_3, .ref ax5_4, .ref ax5_5, .ref ax5_6, .ref ax5_7, .ref ax5_8, .ref ax5_9, .ref ax5_10, .ref ax5_11, .ref ax5_12, .ref ax5_13, .ref ax5_14, .ref ax5_15, .ref ax5_16])), (ax5_14, .inl (cx5_14, 262, .inl fx5_14))] [(cx5_14, .int)] t) (va_A [(h0, .inr (5, [.int xx5_0, .int xx5_1, .ref ax5_2, .ref ax5_3, .ref ax5_4, .ref ax5_5, .ref ax5_6, .ref ax5_7, .ref ax5_8, .ref ax5_9, .ref ax5_10, .ref ax5_11, .ref ax5_12, .ref ax5_13, .ref ax5_14, .ref ax5_15, .ref ax5_16])), (ax5_14, .inl (cx5_14, 262, .inl fx5_14))] sz)) 0 0 (va_A [(h0, .inr (5, [.int xx5_0, .int xx5_1, .ref ax5_2, .ref ax5_3, .ref ax5_4, .ref ax5_5, .ref ax5_6, .ref ax5_7, .ref ax5_8, .ref ax5_9, .ref ax5_10, .ref ax5_11, .ref ax5_12, .ref ax5_13, .ref ax5_14, .ref ax5_15, .ref ax5_16])), (ax5_14, .inl (cx5_14, 262, .inl fx5_14))] sz) := by
  refine Met.ofW (cc := cX5_branchAfter) (maxL := 2) (ret := (some .int)) (by decide) rfl ?_
  intro p e s m args below meth c s₁ B hml hv
  obtain ⟨rfl, hsz, hP, hK, hD0, hN⟩ := hv
  have hx := B.exec
  have hb := B.bytes
  have hr := B.returns
  have hts := atoms_spec (ws := .code yX5_branchAfter cX5_branchAfter 2 (some .int) :: pw) B.pre
  have hts : ∀ w ∈ pw, w.before _ s = true := fun w h => hts w (List.mem_cons_of_mem _ h)
  have hown : s.vm.findClass RX5 = some m.cls := findClass_of_methodNamed B.named
  have hlocks := B.notSynchronized
  subst hsz
  have hD := hD0.self (sz := s.heap.size)
  generalize hAe : va_A [(h0, .inr (5, [.int xx5_0, .int xx5_1, .ref ax5_2, .ref ax5_3, .ref ax5_4, .ref ax5_5, .ref ax5_6, .ref ax5_7, .ref ax5_8, .ref ax5_9, .ref ax5_10, .ref ax5_11, .ref ax5_12, .ref ax5_13, .ref ax5_14, .ref ax5_15, .ref ax5_16])), (ax5_14, .inl (cx5_14, 262, .inl fx5_14))] s.heap.size = A at hD ⊢
  have hA : ∀ q : Nat, s.heap.size ≤ q → A q := fun q h => by rw [← hAe]; exact Or.inr h
  have hS : va_S A s.heap s.heap [] := va_S.rf
  have hP : va_P (dC, dI) vwCl [(h0, .inr (5, [.int xx5_0, .int xx5_1, .ref ax5_2, .ref ax5_3, .ref ax5_4, .ref ax5_5, .ref ax5_6, .ref ax5_7, .ref ax5_8, .ref ax5_9, .ref ax5_10, .ref ax5_11, .ref ax5_12, .ref ax5_13, .ref ax5_14, .ref ax5_15, .ref ax5_16])), (ax5_14, .inl (cx5_14, 262, .inl fx5_14))] s.heap := hP
  have hl := lv_entry ([.ref h0, .int p0]) (n := 2) (Nat.le_of_ble_eq_true rfl)
  rw [lg_entry_eq]
  generalize (lg_sl ([.ref h0, .int p0]) ++ List.replicate (2 - (lg_sl ([.ref h0, .int p0])).length) Slot.unset).toArray = ls at hl ⊢
  have hl : lv_has ls 2 [(0, .ref h0), (1, .int p0)] := hl
  refine lv_aload_n hx hb dX5_branchAfter_0 rfl (lv_at hl 0 rfl) ?_
  refine lv_iload_n hx hb dX5_branchAfter_1 rfl (lv_at hl 1 rfl) ?_
  have hPc := hP.sub (ws' := [(h0, .inr (5, [.int xx5_0, .int xx5_1, .ref ax5_2, .ref ax5_3, .ref ax5_4, .ref ax5_5, .ref ax5_6, .ref ax5_7, .ref ax5_8, .ref ax5_9, .ref ax5_10, .ref ax5_11, .ref ax5_12, .ref ax5_13, .ref ax5_14, .ref ax5_15, .ref ax5_16]))]) [0] rfl
  have hDc := hD.sub (ws' := [(h0, .inr (5, [.int xx5_0, .int xx5_1, .ref ax5_2, .ref ax5_3, .ref ax5_4, .ref ax5_5, .ref ax5_6, .ref ax5_7, .ref ax5_8, .ref ax5_9, .ref ax5_10, .ref ax5_11, .ref ax5_12, .ref ax5_13, .ref ax5_14, .ref ax5_15, .ref ax5_16]))]) [0] (by decide) rfl
  have hKc := hK.sub (tys' := []) [] rfl
  have hFc := va_free (wc := [(h0, .inr (5, [.int xx5_0, .int xx5_1, .ref ax5_2, .ref ax5_3, .ref ax5_4, .ref ax5_5, .ref ax5_6, .ref ax5_7, .ref ax5_8, .ref ax5_9, .ref ax5_10, .ref ax5_11, .ref ax5_12, .ref ax5_13, .ref ax5_14, .ref ax5_15, .ref ax5_16]))]) hD hS hA [0] rfl
  refine va_calli (va_runV (As := [.int p0]) (rest := []) ⟨hx, hb, hml, hown, hts⟩ (s_X5_isType l dC dI h0 xx5_0 xx5_1 ax5_2 ax5_3 ax5_4 ax5_5 ax5_6 ax5_7 ax5_8 ax5_9 ax5_10 ax5_11 ax5_12 ax5_13 ax5_14 ax5_15 ax5_16 p0 (by have a0 := hi_xx5_0.1; have a1 := hi_xx5_0.2; omega) (by have a0 := hi_xx5_1.1; have a1 := hi_xx5_1.2; omega) s.heap.size) (cwV 1 hts (gV mw_15_3 mw_15_4 mw_15_5 mw_0_9 mw_48_26) rfl rfl rfl (by decide +kernel) ⟨(Nat.le_of_ble_eq_true rfl), (Nat.le_of_ble_eq_true rfl)⟩) (vV (ci := 5) (q0 := 0) hKc hPc hDc hN rfl rfl) rfl rfl hl.1 rfl (lv_room (Nat.le_of_ble_eq_true rfl)) dX5_branchAfter_2 ⟨(Nat.le_of_ble_eq_true rfl), (Nat.le_of_ble_eq_true rfl)⟩) hS (fun q _ h => hFc q h) hFc (fun r_1 u t H1 locs ht hvm hw hB hz1 hk1 hS => ?_)
  obtain ⟨hP1, hK1, hD1⟩ := hB
  rw [ht] at hP1
  have hK1 := va_K.moved hvm.symm hK1
  obtain ⟨hP, hD⟩ := va_join (wr := [(ax5_14, .inl (cx5_14, 262, .inl fx5_14))]) (w1 := [(h0, .inr (5, [.int xx5_0, .int xx5_1, .ref ax5_2, .ref ax5_3, .ref ax5_4, .ref ax5_5, .ref ax5_6, .ref ax5_7, .ref ax5_8, .ref ax5_9, .ref ax5_10, .ref ax5_11, .ref ax5_12, .ref ax5_13, .ref ax5_14, .ref ax5_15, .ref ax5_16]))]) hP hD [0] [1] rfl rfl (by decide) (by decide) hk1 hFc hP1 hD1
  clear hPc hDc hKc hP1 hK1 hD1 hFc hk1 hz1
  generalize H1 = H at hP hS ⊢
  have hP : va_P (dC, dI) vwCl [(ax5_14, .inl (cx5_14, 262, .inl fx5_14)), (h0, .inr (5, [.int xx5_0, .int xx5_1, .ref ax5_2, .ref ax5_3, .ref ax5_4, .ref ax5_5, .ref ax5_6, .ref ax5_7, .ref ax5_8, .ref ax5_9, .ref ax5_10, .ref ax5_11, .ref ax5_12, .ref ax5_13, .ref ax5_14, .ref ax5_15, .ref ax5_16]))] H := hP
  have hD : va_D A [(ax5_14, .inl (cx5_14, 262, .inl fx5_14)), (h0, .inr (5, [.int xx5_0, .int xx5_1, .ref ax5_2, .ref ax5_3, .ref ax5_4, .ref ax5_5, .ref ax5_6, .ref ax5_7, .ref ax5_8, .ref ax5_9, .ref ax5_10, .ref ax5_11, .ref ax5_12, .ref ax5_13, .ref ax5_14, .ref ax5_15, .ref ax5_16]))] := hD
  rcases hw with rfl | ⟨rfl, g_2, g_3, g_4⟩
  · refine lv_if_eq (tgt := 17) hx hb dX5_branchAfter_5 (by decide) (fun _ => ?_) (fun h => absurd (by decide) h)
    refine lv_iconst (v := (-1)) hx hb dX5_branchAfter_17 (by decide) ?_
    have hP9 := hP.sub (ws' := [(h0, .inr (5, [.int xx5_0, .int xx5_1, .ref ax5_2, .ref ax5_3, .ref ax5_4, .ref ax5_5, .ref ax5_6, .ref ax5_7, .ref ax5_8, .ref ax5_9, .ref ax5_10, .ref ax5_11, .ref ax5_12, .ref ax5_13, .ref ax5_14, .ref ax5_15, .ref ax5_16])), (ax5_14, .inl (cx5_14, 262, .inl fx5_14))]) [1, 0] rfl
    have hD9 := hD.sub (ws' := [(h0, .inr (5, [.int xx5_0, .int xx5_1, .ref ax5_2, .ref ax5_3, .ref ax5_4, .ref ax5_5, .ref ax5_6, .ref ax5_7, .ref ax5_8, .ref ax5_9, .ref ax5_10, .ref ax5_11, .ref ax5_12, .ref ax5_13, .ref ax5_14, .ref ax5_15, .ref ax5_16])), (ax5_14, .inl (cx5_14, 262, .inl fx5_14))]) [1, 0] (by decide) rfl
    have hK9 := hK.sub (tys' := [(cx5_14, .int)]) [0] rfl
    refine W.widen (k := 0) (n := 0) (Nat.le_of_ble_eq_true rfl) (Nat.le_of_ble_eq_true rfl) ?_
    exact W.iret (v := (-1)) hx hb hr (fun t ht hW => ⟨⟨(-1), (), rfl, Or.inr (rfl), by rw [ht]; exact hP9, va_K.moved hW.alike hK9, hD9⟩, hS.F ht⟩) hS.2.2 dX5_branchAfter_18
  · refine lv_if_eq (tgt := 17) hx hb dX5_branchAfter_5 (by decide) (fun h => absurd h (by decide)) (fun _ => ?_)
    refine lv_aload_n hx hb dX5_branchAfter_8 rfl (lv_at hl 0 rfl) ?_
    refine va_get (D := (dC, dI)) (ci := 5) (v := .ref ax5_14) (C := RX5) (T := TX5) (N := 17) hx hb hts inlX5 hown hK hP 1 rfl rfl 14 (by decide) (hts (.fieldLink RX5 56 "ShapeReader$Shapes" "nextBranches" "[I") mw_14_26) (fun _ h9 => h9) rfl dX5_branchAfter_9 ?_
    refine lv_iload_n hx hb dX5_branchAfter_12 rfl (lv_at hl 1 rfl) ?_
    refine va_iald hx hb hK hP 0 0 rfl rfl (vp_in_iff.mpr (by have a0 := il_nlt g_2; have a1 := il_nle g_4; have e0 : (0 : Int32).toInt = 0 := (by decide); have e1 : (262 : Int32).toInt = 262 := (by decide); omega)) dX5_branchAfter_13 ?_
    refine lv_topi (fun x_7 ex_7 => ?_)
    refine lv_goto (tgt := 18) hx hb dX5_branchAfter_14 (by decide) ?_
    have hP9 := hP.sub (ws' := [(h0, .inr (5, [.int xx5_0, .int xx5_1, .ref ax5_2, .ref ax5_3, .ref ax5_4, .ref ax5_5, .ref ax5_6, .ref ax5_7, .ref ax5_8, .ref ax5_9, .ref ax5_10, .ref ax5_11, .ref ax5_12, .ref ax5_13, .ref ax5_14, .ref ax5_15, .ref ax5_16])), (ax5_14, .inl (cx5_14, 262, .inl fx5_14))]) [1, 0] rfl
    have hD9 := hD.sub (ws' := [(h0, .inr (5, [.int xx5_0, .int xx5_1, .ref ax5_2, .ref ax5_3, .ref ax5_4, .ref ax5_5, .ref ax5_6, .ref ax5_7, .ref ax5_8, .ref ax5_9, .ref ax5_10, .ref ax5_11, .ref ax5_12, .ref ax5_13, .ref ax5_14, .ref ax5_15, .ref ax5_16])), (ax5_14, .inl (cx5_14, 262, .inl fx5_14))]) [1, 0] (by decide) rfl
    have hK9 := hK.sub (tys' := [(cx5_14, .int)]) [0] rfl
    refine W.widen (k := 0) (n := 0) (Nat.le_of_ble_eq_true rfl) (Nat.le_of_ble_eq_true rfl) ?_
    exact W.iret (v := x_7) hx hb hr (fun t ht hW => ⟨⟨x_7, (), rfl, Or.inl ((by rw [ex_7])), by rw [ht]; exact hP9, va_K.moved hW.alike hK9, hD9⟩, hS.F ht⟩) hS.2.2 dX5_branchAfter_18

set_option maxRecDepth 100000 in
set_option maxHeartbeats 4000000 in
theorem s_X5_branchesOf_L {p : Program} {e : Env} {s : State} {m : MethodId} {below : List Frame} {meth : Method} {c : Code} (l : Launch) (dC : Nat → ClassId) (dI : Nat → Nat → Nat) (h0 : Nat) (xx5_0 : Int32) (xx5_1 : Int32) (ax5_2 : Nat) (ax5_3 : Nat) (ax5_4 : Nat) (ax5_5 : Nat) (ax5_6 : Nat) (ax5_7 : Nat) (ax5_8 : Nat) (ax5_9 : Nat) (ax5_10 : Nat) (ax5_11 : Nat) (ax5_12 : Nat) (cx5_12 : ClassId) (fx5_12 : Nat → Int32) (ax5_13 : Nat) (cx5_13 : ClassId) (fx5_13 : Nat → Int32) (ax5_14 : Nat) (cx5_14 : ClassId) (fx5_14 : Nat → Int32) (ax5_15 : Nat) (ax5_16 : Nat) (p0 : Int32) (hi_xx5_0 : (0 : Int) ≤ xx5_0.toInt ∧ xx5_0.toInt ≤ (6 : Int)) (hi_xx5_1 : (0 : Int) ≤ xx5_1.toInt ∧ xx5_1.toInt ≤ (262 : Int)) (A : Nat → Prop) (hx : p.tables.exec = Jvm.exec) (hb : c.code = cX5_branchesOf) (hr : meth.sig.returnType = (some .int)) (hml : c.maxLocals = 4) (hown : s.vm.findClass RX5 = some m.cls) (hts : ∀ w ∈ pw, w.before (([.ref h0, .int p0] : List Value).toArray) s = true) (hlocks : meth.locks = false) (hA : ∀ q : Nat, s.heap.size ≤ q → A q) (hN : nN s) (hK : va_K (dC, dI) vwCl [(cx5_12, .int), (cx5_13, .int), (cx5_14, .int)] s) : ∀ (n : Nat) (v2 : Int32) (v3 : Int32) (H : Heap) (locs : List Loc) (ls : Array Slot), (4 - v2.toInt).toNat < n → 0 ≤ v2.toInt ∧ v2.toInt ≤ 4 → va_P (dC, dI) vwCl [(ax5_14, .inl (cx5_14, 262, .inl fx5_14)), (ax5_12, .inl (cx5_12, 262, .inl fx5_12)), (h0, .inr (5, [.int xx5_0, .int xx5_1, .ref ax5_2, .ref ax5_3, .ref ax5_4, .ref ax5_5, .ref ax5_6, .ref ax5_7, .ref ax5_8, .ref ax5_9, .ref ax5_10, .ref ax5_11, .ref ax5_12, .ref ax5_13, .ref ax5_14, .ref ax5_15, .ref ax5_16])), (ax5_13, .inl (cx5_13, 262, .inl fx5_13))] H → va_D A [(ax5_14, .inl (cx5_14, 262, .inl fx5_14)), (ax5_12, .inl (cx5_12, 262, .inl fx5_12)), (h0, .inr (5, [.int xx5_0, .int xx5_1, .ref ax5_2, .ref ax5_3, .ref ax5_4, .ref ax5_5, .ref ax5_6, .ref ax5_7, .ref ax5_8, .ref ax5_9, .ref ax5_10, .ref ax5_11, .ref ax5_12, .ref ax5_13, .ref ax5_14, .ref ax5_15, .ref ax5_16])), (ax5_13, .inl (cx5_13, 262, .inl fx5_13))] → va_S A s.heap H locs → lv_has ls 4 [(3, .int v3), (2, .int v2), (0, .ref h0), (1, .int p0)] → W p l e ({ frames := 2, cells := 0, slots := 0, locals := 42 } : Room) s m (([.ref h0, .int p0] : List Value).toArray) below meth c H locs 0 0 (MQ below (va_Qi (fun (r : Int32) (_ : Unit) => True) (fun (_ : Unit) t => vPst dC dI A [(h0, .inr (5, [.int xx5_0, .int xx5_1, .ref ax5_2, .ref ax5_3, .ref ax5_4, .ref ax5_5, .ref ax5_6, .ref ax5_7, .ref ax5_8, .ref ax5_9, .ref ax5_10, .ref ax5_11, .ref ax5_12, .ref ax5_13, .ref ax5_14, .ref ax5_15, .ref ax5_16])), (ax5_12, .inl (cx5_12, 262, .inl fx5_12)), (ax5_13, .inl (cx5_13, 262, .inl fx5_13)), (ax5_14, .inl (cx5_14, 262, .inl fx5_14))] [(cx5_12, .int), (cx5_13, .int), (cx5_14, .int)] t) A) (([.ref h0, .int p0] : List Value).toArray) s 0 0 A) (F0 m 20 ls []) := by
  intro n
  induction n with
  | zero =>
    intro v2 v3 H locs ls hn
    exact absurd hn (Nat.not_lt_zero _)
  | succ n ih =>
    intro v2 v3 H locs ls hn hb_2 hP hD hS hl
    refine lv_iload_n hx hb dX5_branchesOf_20 rfl (lv_at hl 0 rfl) ?_
    refine lv_iconst (v := (-1)) hx hb dX5_branchesOf_21 (by decide) ?_
    refine lv_icmp_eq (tgt := 42) hx hb dX5_branchesOf_22 (by decide) (fun c_101 => ?_) (fun c_101 => ?_)
    · refine lv_iload_n hx hb dX5_branchesOf_42 rfl (lv_at hl 1 rfl) ?_
      have hP9 := hP.sub (ws' := [(h0, .inr (5, [.int xx5_0, .int xx5_1, .ref ax5_2, .ref ax5_3, .ref ax5_4, .ref ax5_5, .ref ax5_6, .ref ax5_7, .ref ax5_8, .ref ax5_9, .ref ax5_10, .ref ax5_11, .ref ax5_12, .ref ax5_13, .ref ax5_14, .ref ax5_15, .ref ax5_16])), (ax5_12, .inl (cx5_12, 262, .inl fx5_12)), (ax5_13, .inl (cx5_13, 262, .inl fx5_13)), (ax5_14, .inl (cx5_14, 262, .inl fx5_14))]) [2, 1, 3, 0] rfl
      have hD9 := hD.sub (ws' := [(h0, .inr (5, [.int xx5_0, .int xx5_1, .ref ax5_2, .ref ax5_3, .ref ax5_4, .ref ax5_5, .ref ax5_6, .ref ax5_7, .ref ax5_8, .ref ax5_9, .ref ax5_10, .ref ax5_11, .ref ax5_12, .ref ax5_13, .ref ax5_14, .ref ax5_15, .ref ax5_16])), (ax5_12, .inl (cx5_12, 262, .inl fx5_12)), (ax5_13, .inl (cx5_13, 262, .inl fx5_13)), (ax5_14, .inl (cx5_14, 262, .inl fx5_14))]) [2, 1, 3, 0] (by decide) rfl
      have hK9 := hK.sub (tys' := [(cx5_12, .int), (cx5_13, .int), (cx5_14, .int)]) [0, 1, 2] rfl
      refine W.widen (k := 0) (n := 0) (Nat.le_of_ble_eq_true rfl) (Nat.le_of_ble_eq_true rfl) ?_
      exact W.iret (v := v2) hx hb hr (fun t ht hW => ⟨⟨v2, (), rfl, trivial, by rw [ht]; exact hP9, va_K.moved hW.alike hK9, hD9⟩, hS.F ht⟩) hS.2.2 dX5_branchesOf_43
    · refine lv_iload_n hx hb dX5_branchesOf_25 rfl (lv_at hl 1 rfl) ?_
      refine lv_iconst (v := 4) hx hb dX5_branchesOf_26 (by decide) ?_
      refine lv_icmp_ge (tgt := 42) hx hb dX5_branchesOf_27 (by decide) (fun c_102 => ?_) (fun c_102 => ?_)
      · refine lv_iload_n hx hb dX5_branchesOf_42 rfl (lv_at hl 1 rfl) ?_
        have hP9 := hP.sub (ws' := [(h0, .inr (5, [.int xx5_0, .int xx5_1, .ref ax5_2, .ref ax5_3, .ref ax5_4, .ref ax5_5, .ref ax5_6, .ref ax5_7, .ref ax5_8, .ref ax5_9, .ref ax5_10, .ref ax5_11, .ref ax5_12, .ref ax5_13, .ref ax5_14, .ref ax5_15, .ref ax5_16])), (ax5_12, .inl (cx5_12, 262, .inl fx5_12)), (ax5_13, .inl (cx5_13, 262, .inl fx5_13)), (ax5_14, .inl (cx5_14, 262, .inl fx5_14))]) [2, 1, 3, 0] rfl
        have hD9 := hD.sub (ws' := [(h0, .inr (5, [.int xx5_0, .int xx5_1, .ref ax5_2, .ref ax5_3, .ref ax5_4, .ref ax5_5, .ref ax5_6, .ref ax5_7, .ref ax5_8, .ref ax5_9, .ref ax5_10, .ref ax5_11, .ref ax5_12, .ref ax5_13, .ref ax5_14, .ref ax5_15, .ref ax5_16])), (ax5_12, .inl (cx5_12, 262, .inl fx5_12)), (ax5_13, .inl (cx5_13, 262, .inl fx5_13)), (ax5_14, .inl (cx5_14, 262, .inl fx5_14))]) [2, 1, 3, 0] (by decide) rfl
        have hK9 := hK.sub (tys' := [(cx5_12, .int), (cx5_13, .int), (cx5_14, .int)]) [0, 1, 2] rfl
        refine W.widen (k := 0) (n := 0) (Nat.le_of_ble_eq_true rfl) (Nat.le_of_ble_eq_true rfl) ?_
        exact W.iret (v := v2) hx hb hr (fun t ht hW => ⟨⟨v2, (), rfl, trivial, by rw [ht]; exact hP9, va_K.moved hW.alike hK9, hD9⟩, hS.F ht⟩) hS.2.2 dX5_branchesOf_43
      · obtain ⟨x_103, ex_103⟩ : ∃ y : Int32, y = v2 + Int32.ofInt 1 := ⟨_, rfl⟩
        have bx_103 : (1 : Int) ≤ x_103.toInt ∧ x_103.toInt ≤ (4 : Int) := by have r0 := il_rng v2; have a0 := hb_2.1; have a1 := hb_2.2; have a2 := il_nle c_102; have e0 : (4 : Int32).toInt = 4 := (by decide); have k9 : (Int32.ofInt 1).toInt = (1 : Int) := (by decide); rw [ex_103, il_addE (by rw [k9]; omega) (by rw [k9]; omega), k9]; omega
        refine lv_iinc (v := x_103) (lv' := [(2, .int x_103), (3, .int v3), (0, .ref h0), (1, .int p0)]) hx hb dX5_branchesOf_30 hl (k := 1) rfl ex_103.symm (by decide) rfl (fun ls hl => ?_)
        refine lv_aload_n hx hb dX5_branchesOf_33 rfl (lv_at hl 2 rfl) ?_
        refine lv_iload_n hx hb dX5_branchesOf_34 rfl (lv_at hl 1 rfl) ?_
        have hPc := hP.sub (ws' := [(h0, .inr (5, [.int xx5_0, .int xx5_1, .ref ax5_2, .ref ax5_3, .ref ax5_4, .ref ax5_5, .ref ax5_6, .ref ax5_7, .ref ax5_8, .ref ax5_9, .ref ax5_10, .ref ax5_11, .ref ax5_12, .ref ax5_13, .ref ax5_14, .ref ax5_15, .ref ax5_16])), (ax5_14, .inl (cx5_14, 262, .inl fx5_14))]) [2, 0] rfl
        have hDc := hD.sub (ws' := [(h0, .inr (5, [.int xx5_0, .int xx5_1, .ref ax5_2, .ref ax5_3, .ref ax5_4, .ref ax5_5, .ref ax5_6, .ref ax5_7, .ref ax5_8, .ref ax5_9, .ref ax5_10, .ref ax5_11, .ref ax5_12, .ref ax5_13, .ref ax5_14, .ref ax5_15, .ref ax5_16])), (ax5_14, .inl (cx5_14, 262, .inl fx5_14))]) [2, 0] (by decide) rfl
        have hKc := hK.sub (tys' := [(cx5_14, .int)]) [2] rfl
        have hFc := va_free (wc := [(h0, .inr (5, [.int xx5_0, .int xx5_1, .ref ax5_2, .ref ax5_3, .ref ax5_4, .ref ax5_5, .ref ax5_6, .ref ax5_7, .ref ax5_8, .ref ax5_9, .ref ax5_10, .ref ax5_11, .ref ax5_12, .ref ax5_13, .ref ax5_14, .ref ax5_15, .ref ax5_16])), (ax5_14, .inl (cx5_14, 262, .inl fx5_14))]) hD hS hA [2, 0] rfl
        refine va_calli (va_runV (As := [.int v3]) (rest := []) ⟨hx, hb, hml, hown, hts⟩ (s_X5_branchAfter l dC dI h0 xx5_0 xx5_1 ax5_2 ax5_3 ax5_4 ax5_5 ax5_6 ax5_7 ax5_8 ax5_9 ax5_10 ax5_11 ax5_12 ax5_13 ax5_14 cx5_14 fx5_14 ax5_15 ax5_16 v3 (by have a0 := hi_xx5_0.1; have a1 := hi_xx5_0.2; omega) (by have a0 := hi_xx5_1.1; have a1 := hi_xx5_1.2; omega) H.size) (cwV 1 hts (gV mw_15_8 mw_2_19 mw_2_20 mw_0_9 mw_49_8) rfl rfl rfl (by decide +kernel) ⟨(Nat.le_of_ble_eq_true rfl), (Nat.le_of_ble_eq_true rfl)⟩) (vV (ci := 5) (q0 := 0) hKc hPc hDc hN rfl rfl) rfl rfl hl.1 rfl (lv_room (Nat.le_of_ble_eq_true rfl)) dX5_branchesOf_35 ⟨(Nat.le_of_ble_eq_true rfl), (Nat.le_of_ble_eq_true rfl)⟩) hS (fun q _ h => hFc q h) hFc (fun r_104 u t H1 locs ht hvm hw hB hz1 hk1 hS => ?_)
        obtain ⟨hP1, hK1, hD1⟩ := hB
        rw [ht] at hP1
        have hK1 := va_K.moved hvm.symm hK1
        obtain ⟨hP, hD⟩ := va_join (wr := [(ax5_12, .inl (cx5_12, 262, .inl fx5_12)), (ax5_13, .inl (cx5_13, 262, .inl fx5_13))]) (w1 := [(h0, .inr (5, [.int xx5_0, .int xx5_1, .ref ax5_2, .ref ax5_3, .ref ax5_4, .ref ax5_5, .ref ax5_6, .ref ax5_7, .ref ax5_8, .ref ax5_9, .ref ax5_10, .ref ax5_11, .ref ax5_12, .ref ax5_13, .ref ax5_14, .ref ax5_15, .ref ax5_16])), (ax5_14, .inl (cx5_14, 262, .inl fx5_14))]) hP hD [2, 0] [1, 3] rfl rfl (by decide) (by decide) hk1 hFc hP1 hD1
        clear hPc hDc hKc hP1 hK1 hD1 hFc hk1 hz1
        generalize H1 = H at hP hS ⊢
        have hP : va_P (dC, dI) vwCl [(ax5_12, .inl (cx5_12, 262, .inl fx5_12)), (ax5_13, .inl (cx5_13, 262, .inl fx5_13)), (h0, .inr (5, [.int xx5_0, .int xx5_1, .ref ax5_2, .ref ax5_3, .ref ax5_4, .ref ax5_5, .ref ax5_6, .ref ax5_7, .ref ax5_8, .ref ax5_9, .ref ax5_10, .ref ax5_11, .ref ax5_12, .ref ax5_13, .ref ax5_14, .ref ax5_15, .ref ax5_16])), (ax5_14, .inl (cx5_14, 262, .inl fx5_14))] H := hP
        have hD : va_D A [(ax5_12, .inl (cx5_12, 262, .inl fx5_12)), (ax5_13, .inl (cx5_13, 262, .inl fx5_13)), (h0, .inr (5, [.int xx5_0, .int xx5_1, .ref ax5_2, .ref ax5_3, .ref ax5_4, .ref ax5_5, .ref ax5_6, .ref ax5_7, .ref ax5_8, .ref ax5_9, .ref ax5_10, .ref ax5_11, .ref ax5_12, .ref ax5_13, .ref ax5_14, .ref ax5_15, .ref ax5_16])), (ax5_14, .inl (cx5_14, 262, .inl fx5_14))] := hD
        rcases hw with q_105 | rfl
        · refine lv_istore_n (lv' := [(3, .int r_104), (2, .int x_103), (0, .ref h0), (1, .int p0)]) hx hb dX5_branchesOf_38 rfl hl (by decide) rfl (fun ls hl => ?_)
          refine lv_goto (tgt := 20) hx hb dX5_branchesOf_39 (by decide) ?_
          exact ih x_103 r_104 _ _ _ (by have a0 := bx_103.1; have a1 := bx_103.2; have a2 := hb_2.1; have a3 := hb_2.2; have a4 := il_nle c_102; have e0 : (4 : Int32).toInt = 4 := (by decide); have r8 := il_rng v2; have m9 : x_103.toInt = v2.toInt + (1) := (by rw [ex_103]; have k9 : (Int32.ofInt (1)).toInt = (1) := (by decide); rw [il_addE (by rw [k9]; omega) (by rw [k9]; omega), k9]); omega) (by have a0 := bx_103.1; have a1 := bx_103.2; omega) (hP.sub [3, 0, 2, 1] rfl) (hD.sub [3, 0, 2, 1] (by decide) rfl) hS (lv_sub hl [0, 1, 2, 3] rfl)
        · refine lv_istore_n (lv' := [(3, .int (-1)), (2, .int x_103), (0, .ref h0), (1, .int p0)]) hx hb dX5_branchesOf_38 rfl hl (by decide) rfl (fun ls hl => ?_)
          refine lv_goto (tgt := 20) hx hb dX5_branchesOf_39 (by decide) ?_
          exact ih x_103 ((-1) : Int32) _ _ _ (by have a0 := bx_103.1; have a1 := bx_103.2; have a2 := hb_2.1; have a3 := hb_2.2; have a4 := il_nle c_102; have e0 : (4 : Int32).toInt = 4 := (by decide); have r8 := il_rng v2; have m9 : x_103.toInt = v2.toInt + (1) := (by rw [ex_103]; have k9 : (Int32.ofInt (1)).toInt = (1) := (by decide); rw [il_addE (by rw [k9]; omega) (by rw [k9]; omega), k9]); omega) (by have a0 := bx_103.1; have a1 := bx_103.2; omega) (hP.sub [3, 0, 2, 1] rfl) (hD.sub [3, 0, 2, 1] (by decide) rfl) hS (lv_sub hl [0, 1, 2, 3] rfl)
set_option maxRecDepth 100000 in
set_option maxHeartbeats 4000000 in
theorem s_X5_branchesOf (l : Launch) (dC : Nat → ClassId) (dI : Nat → Nat → Nat) (h0 : Nat) (xx5_0 : Int32) (xx5_1 : Int32) (ax5_2 : Nat) (ax5_3 : Nat) (ax5_4 : Nat) (ax5_5 : Nat) (ax5_6 : Nat) (ax5_7 : Nat) (ax5_8 : Nat) (ax5_9 : Nat) (ax5_10 : Nat) (ax5_11 : Nat) (ax5_12 : Nat) (cx5_12 : ClassId) (fx5_12 : Nat → Int32) (ax5_13 : Nat) (cx5_13 : ClassId) (fx5_13 : Nat → Int32) (ax5_14 : Nat) (cx5_14 : ClassId) (fx5_14 : Nat → Int32) (ax5_15 : Nat) (ax5_16 : Nat) (p0 : Int32) (hi_xx5_0 : (0 : Int) ≤ xx5_0.toInt ∧ xx5_0.toInt ≤ (6 : Int)) (hi_xx5_1 : (0 : Int) ≤ xx5_1.toInt ∧ xx5_1.toInt ≤ (262 : Int)) (sz : Nat) : Met l yX5_branchesOf (.code yX5_branchesOf cX5_branchesOf 4 (some .int) :: pw) ({ frames := 2, cells := 0, slots := 0, locals := 42 }) (va_Pc [.ref h0, .int p0] (vPre dC dI [(h0, .inr (5, [.int xx5_0, .int xx5_1, .ref ax5_2, .ref ax5_3, .ref ax5_4, .ref ax5_5, .ref ax5_6, .ref ax5_7, .ref ax5_8, .ref ax5_9, .ref ax5_10, .ref ax5_11, .ref ax5_12, .ref ax5_13, .ref ax5_14, .ref ax5_15, .ref ax5_16])), (ax5_12, .inl (cx5_12, 262, .inl fx5_12)), (ax5_13, .inl (cx5_13, 262, .inl fx5_13)), (ax5_14, .inl (cx5_14, 262, .inl fx5_14))] [(cx5_12, .int), (cx5_13, .int), (cx5_14, .int)] sz)) (va_Qi (fun (r : Int32) (_ : Unit) => True) (fun (_ : Unit) t => vPst dC dI (va_A [(h0, .inr (5, [.int xx5_0, .int xx5_1, .ref ax5_2, .ref ax5_3, .ref ax5_4, .ref ax5_5, .ref ax5_6, .ref ax5_7, .ref ax5_8, .ref ax5_9, .ref ax5_10, .ref ax5_11, .ref ax5_12, .ref ax5_13, .ref ax5_14, .ref ax5_15, .ref ax5_16])), (ax5_12, .inl (cx5_12, 262, .inl fx5_12)), (ax5_13, .inl (cx5_13, 262, .inl fx5_13)), (ax5_14, .inl (cx5_14, 262, .inl fx5_14))] sz) [(h0, .inr (5, [.int xx5_0, .int xx5_1, .ref ax5_2, .ref ax5_3, .ref ax5_4, .ref ax5_5, .ref ax5_6, .ref ax5_7, .ref ax5_8, .ref ax5_9, .ref ax5_10, .ref ax5_11, .ref ax5_12, .ref ax5_13, .ref ax5_14, .ref ax5_15, .ref ax5_16])), (ax5_12, .inl (cx5_12, 262, .inl fx5_12)), (ax5_13, .inl (cx5_13, 262, .inl fx5_13)), (ax5_14, .inl (cx5_14, 262, .inl fx5_14))] [(cx5_12, .int), (cx5_13, .int), (cx5_14, .int)] t) (va_A [(h0, .inr (5, [.int xx5_0, .int xx5_1, .ref ax5_2, .ref ax5_3, .ref ax5_4, .ref ax5_5, .ref ax5_6, .ref ax5_7, .ref ax5_8, .ref ax5_9, .ref ax5_10, .ref ax5_11, .ref ax5_12, .ref ax5_13, .ref ax5_14, .ref ax5_15, .ref ax5_16])), (ax5_12, .inl (cx5_12, 262, .inl fx5_12)), (ax5_13, .inl (cx5_13, 262, .inl fx5_13)), (ax5_14, .inl (cx5_14, 262, .inl fx5_14))] sz)) 0 0 (va_A [(h0, .inr (5, [.int xx5_0, .int xx5_1, .ref ax5_2, .ref ax5_3, .ref ax5_4, .ref ax5_5, .ref ax5_6, .ref ax5_7, .ref ax5_8, .ref ax5_9, .ref ax5_10, .ref ax5_11, .ref ax5_12, .ref ax5_13, .ref ax5_14, .ref ax5_15, .ref ax5_16])), (ax5_12, .inl (cx5_12, 262, .inl fx5_12)), (ax5_13, .inl (cx5_13, 262, .inl fx5_13)), (ax5_14, .inl (cx5_14, 262, .inl fx5_14))] sz) := by
  refine Met.ofW (cc := cX5_branchesOf) (maxL := 4) (ret := (some .int)) (by decide) rfl ?_
  intro p e s m args below meth c s₁ B hml hv
  obtain ⟨rfl, hsz, hP, hK, hD0, hN⟩ := hv
  have hx := B.exec
  have hb := B.bytes
  have hr := B.returns
  have hts := atoms_spec (ws := .code yX5_branchesOf cX5_branchesOf 4 (some .int) :: pw) B.pre
  have hts : ∀ w ∈ pw, w.before _ s = true := fun w h => hts w (List.mem_cons_of_mem _ h)
  have hown : s.vm.findClass RX5 = some m.cls := findClass_of_methodNamed B.named
  have hlocks := B.notSynchronized
  subst hsz
  have hD := hD0.self (sz := s.heap.size)
  generalize hAe : va_A [(h0, .inr (5, [.int xx5_0, .int xx5_1, .ref ax5_2, .ref ax5_3, .ref ax5_4, .ref ax5_5, .ref ax5_6, .ref ax5_7, .ref ax5_8, .ref ax5_9, .ref ax5_10, .ref ax5_11, .ref ax5_12, .ref ax5_13, .ref ax5_14, .ref ax5_15, .ref ax5_16])), (ax5_12, .inl (cx5_12, 262, .inl fx5_12)), (ax5_13, .inl (cx5_13, 262, .inl fx5_13)), (ax5_14, .inl (cx5_14, 262, .inl fx5_14))] s.heap.size = A at hD ⊢
  have hA : ∀ q : Nat, s.heap.size ≤ q → A q := fun q h => by rw [← hAe]; exact Or.inr h
  have hS : va_S A s.heap s.heap [] := va_S.rf
  have hP : va_P (dC, dI) vwCl [(h0, .inr (5, [.int xx5_0, .int xx5_1, .ref ax5_2, .ref ax5_3, .ref ax5_4, .ref ax5_5, .ref ax5_6, .ref ax5_7, .ref ax5_8, .ref ax5_9, .ref ax5_10, .ref ax5_11, .ref ax5_12, .ref ax5_13, .ref ax5_14, .ref ax5_15, .ref ax5_16])), (ax5_12, .inl (cx5_12, 262, .inl fx5_12)), (ax5_13, .inl (cx5_13, 262, .inl fx5_13)), (ax5_14, .inl (cx5_14, 262, .inl fx5_14))] s.heap := hP
  have hl := lv_entry ([.ref h0, .int p0]) (n := 4) (Nat.le_of_ble_eq_true rfl)
  rw [lg_entry_eq]
  generalize (lg_sl ([.ref h0, .int p0]) ++ List.replicate (4 - (lg_sl ([.ref h0, .int p0])).length) Slot.unset).toArray = ls at hl ⊢
  have hl : lv_has ls 4 [(0, .ref h0), (1, .int p0)] := hl
  refine lv_aload_n hx hb dX5_branchesOf_0 rfl (lv_at hl 0 rfl) ?_
  refine lv_iload_n hx hb dX5_branchesOf_1 rfl (lv_at hl 1 rfl) ?_
  have hPc := hP.sub (ws' := [(h0, .inr (5, [.int xx5_0, .int xx5_1, .ref ax5_2, .ref ax5_3, .ref ax5_4, .ref ax5_5, .ref ax5_6, .ref ax5_7, .ref ax5_8, .ref ax5_9, .ref ax5_10, .ref ax5_11, .ref ax5_12, .ref ax5_13, .ref ax5_14, .ref ax5_15, .ref ax5_16])), (ax5_12, .inl (cx5_12, 262, .inl fx5_12))]) [0, 1] rfl
  have hDc := hD.sub (ws' := [(h0, .inr (5, [.int xx5_0, .int xx5_1, .ref ax5_2, .ref ax5_3, .ref ax5_4, .ref ax5_5, .ref ax5_6, .ref ax5_7, .ref ax5_8, .ref ax5_9, .ref ax5_10, .ref ax5_11, .ref ax5_12, .ref ax5_13, .ref ax5_14, .ref ax5_15, .ref ax5_16])), (ax5_12, .inl (cx5_12, 262, .inl fx5_12))]) [0, 1] (by decide) rfl
  have hKc := hK.sub (tys' := [(cx5_12, .int)]) [0] rfl
  have hFc := va_free (wc := [(h0, .inr (5, [.int xx5_0, .int xx5_1, .ref ax5_2, .ref ax5_3, .ref ax5_4, .ref ax5_5, .ref ax5_6, .ref ax5_7, .ref ax5_8, .ref ax5_9, .ref ax5_10, .ref ax5_11, .ref ax5_12, .ref ax5_13, .ref ax5_14, .ref ax5_15, .ref ax5_16])), (ax5_12, .inl (cx5_12, 262, .inl fx5_12))]) hD hS hA [0, 1] rfl
  refine va_calli (va_runV (As := [.int p0]) (rest := []) ⟨hx, hb, hml, hown, hts⟩ (s_X5_sortOf l dC dI h0 xx5_0 xx5_1 ax5_2 ax5_3 ax5_4 ax5_5 ax5_6 ax5_7 ax5_8 ax5_9 ax5_10 ax5_11 ax5_12 cx5_12 fx5_12 ax5_13 ax5_14 ax5_15 ax5_16 p0 (by have a0 := hi_xx5_0.1; have a1 := hi_xx5_0.2; omega) (by have a0 := hi_xx5_1.1; have a1 := hi_xx5_1.2; omega) s.heap.size) (cwV 1 hts (gV mw_15_6 mw_2_13 mw_2_14 mw_0_9 mw_49_6) rfl rfl rfl (by decide +kernel) ⟨(Nat.le_of_ble_eq_true rfl), (Nat.le_of_ble_eq_true rfl)⟩) (vV (ci := 5) (q0 := 0) hKc hPc hDc hN rfl rfl) rfl rfl hl.1 rfl (lv_room (Nat.le_of_ble_eq_true rfl)) dX5_branchesOf_2 ⟨(Nat.le_of_ble_eq_true rfl), (Nat.le_of_ble_eq_true rfl)⟩) hS (fun q _ h => hFc q h) hFc (fun r_1 u t H1 locs ht hvm hw hB hz1 hk1 hS => ?_)
  obtain ⟨hP1, hK1, hD1⟩ := hB
  rw [ht] at hP1
  have hK1 := va_K.moved hvm.symm hK1
  obtain ⟨hP, hD⟩ := va_join (wr := [(ax5_13, .inl (cx5_13, 262, .inl fx5_13)), (ax5_14, .inl (cx5_14, 262, .inl fx5_14))]) (w1 := [(h0, .inr (5, [.int xx5_0, .int xx5_1, .ref ax5_2, .ref ax5_3, .ref ax5_4, .ref ax5_5, .ref ax5_6, .ref ax5_7, .ref ax5_8, .ref ax5_9, .ref ax5_10, .ref ax5_11, .ref ax5_12, .ref ax5_13, .ref ax5_14, .ref ax5_15, .ref ax5_16])), (ax5_12, .inl (cx5_12, 262, .inl fx5_12))]) hP hD [0, 1] [2, 3] rfl rfl (by decide) (by decide) hk1 hFc hP1 hD1
  clear hPc hDc hKc hP1 hK1 hD1 hFc hk1 hz1
  generalize H1 = H at hP hS ⊢
  have hP : va_P (dC, dI) vwCl [(ax5_13, .inl (cx5_13, 262, .inl fx5_13)), (ax5_14, .inl (cx5_14, 262, .inl fx5_14)), (h0, .inr (5, [.int xx5_0, .int xx5_1, .ref ax5_2, .ref ax5_3, .ref ax5_4, .ref ax5_5, .ref ax5_6, .ref ax5_7, .ref ax5_8, .ref ax5_9, .ref ax5_10, .ref ax5_11, .ref ax5_12, .ref ax5_13, .ref ax5_14, .ref ax5_15, .ref ax5_16])), (ax5_12, .inl (cx5_12, 262, .inl fx5_12))] H := hP
  have hD : va_D A [(ax5_13, .inl (cx5_13, 262, .inl fx5_13)), (ax5_14, .inl (cx5_14, 262, .inl fx5_14)), (h0, .inr (5, [.int xx5_0, .int xx5_1, .ref ax5_2, .ref ax5_3, .ref ax5_4, .ref ax5_5, .ref ax5_6, .ref ax5_7, .ref ax5_8, .ref ax5_9, .ref ax5_10, .ref ax5_11, .ref ax5_12, .ref ax5_13, .ref ax5_14, .ref ax5_15, .ref ax5_16])), (ax5_12, .inl (cx5_12, 262, .inl fx5_12))] := hD
  rcases hw with q_2 | rfl
  · refine lv_bipush (v := 8) hx hb dX5_branchesOf_5 (by decide) ?_
    refine lv_icmp_eq (tgt := 12) hx hb dX5_branchesOf_7 (by decide) (fun c_3 => ?_) (fun c_3 => ?_)
    · refine lv_iconst (v := 0) hx hb dX5_branchesOf_12 (by decide) ?_
      refine lv_istore_n (lv' := [(2, .int 0), (0, .ref h0), (1, .int p0)]) hx hb dX5_branchesOf_13 rfl hl (by decide) rfl (fun ls hl => ?_)
      refine lv_aload_n hx hb dX5_branchesOf_14 rfl (lv_at hl 1 rfl) ?_
      refine lv_iload_n hx hb dX5_branchesOf_15 rfl (lv_at hl 2 rfl) ?_
      have hPc := hP.sub (ws' := [(h0, .inr (5, [.int xx5_0, .int xx5_1, .ref ax5_2, .ref ax5_3, .ref ax5_4, .ref ax5_5, .ref ax5_6, .ref ax5_7, .ref ax5_8, .ref ax5_9, .ref ax5_10, .ref ax5_11, .ref ax5_12, .ref ax5_13, .ref ax5_14, .ref ax5_15, .ref ax5_16])), (ax5_13, .inl (cx5_13, 262, .inl fx5_13))]) [2, 0] rfl
      have hDc := hD.sub (ws' := [(h0, .inr (5, [.int xx5_0, .int xx5_1, .ref ax5_2, .ref ax5_3, .ref ax5_4, .ref ax5_5, .ref ax5_6, .ref ax5_7, .ref ax5_8, .ref ax5_9, .ref ax5_10, .ref ax5_11, .ref ax5_12, .ref ax5_13, .ref ax5_14, .ref ax5_15, .ref ax5_16])), (ax5_13, .inl (cx5_13, 262, .inl fx5_13))]) [2, 0] (by decide) rfl
      have hKc := hK.sub (tys' := [(cx5_13, .int)]) [1] rfl
      have hFc := va_free (wc := [(h0, .inr (5, [.int xx5_0, .int xx5_1, .ref ax5_2, .ref ax5_3, .ref ax5_4, .ref ax5_5, .ref ax5_6, .ref ax5_7, .ref ax5_8, .ref ax5_9, .ref ax5_10, .ref ax5_11, .ref ax5_12, .ref ax5_13, .ref ax5_14, .ref ax5_15, .ref ax5_16])), (ax5_13, .inl (cx5_13, 262, .inl fx5_13))]) hD hS hA [2, 0] rfl
      refine va_calli (va_runV (As := [.int p0]) (rest := []) ⟨hx, hb, hml, hown, hts⟩ (s_X5_innerOf l dC dI h0 xx5_0 xx5_1 ax5_2 ax5_3 ax5_4 ax5_5 ax5_6 ax5_7 ax5_8 ax5_9 ax5_10 ax5_11 ax5_12 ax5_13 cx5_13 fx5_13 ax5_14 ax5_15 ax5_16 p0 (by have a0 := hi_xx5_0.1; have a1 := hi_xx5_0.2; omega) (by have a0 := hi_xx5_1.1; have a1 := hi_xx5_1.2; omega) H.size) (cwV 1 hts (gV mw_15_7 mw_2_16 mw_2_17 mw_0_9 mw_49_7) rfl rfl rfl (by decide +kernel) ⟨(Nat.le_of_ble_eq_true rfl), (Nat.le_of_ble_eq_true rfl)⟩) (vV (ci := 5) (q0 := 0) hKc hPc hDc hN rfl rfl) rfl rfl hl.1 rfl (lv_room (Nat.le_of_ble_eq_true rfl)) dX5_branchesOf_16 ⟨(Nat.le_of_ble_eq_true rfl), (Nat.le_of_ble_eq_true rfl)⟩) hS (fun q _ h => hFc q h) hFc (fun r_4 u t H1 locs ht hvm hw hB hz1 hk1 hS => ?_)
      obtain ⟨hP1, hK1, hD1⟩ := hB
      rw [ht] at hP1
      have hK1 := va_K.moved hvm.symm hK1
      obtain ⟨hP, hD⟩ := va_join (wr := [(ax5_14, .inl (cx5_14, 262, .inl fx5_14)), (ax5_12, .inl (cx5_12, 262, .inl fx5_12))]) (w1 := [(h0, .inr (5, [.int xx5_0, .int xx5_1, .ref ax5_2, .ref ax5_3, .ref ax5_4, .ref ax5_5, .ref ax5_6, .ref ax5_7, .ref ax5_8, .ref ax5_9, .ref ax5_10, .ref ax5_11, .ref ax5_12, .ref ax5_13, .ref ax5_14, .ref ax5_15, .ref ax5_16])), (ax5_13, .inl (cx5_13, 262, .inl fx5_13))]) hP hD [2, 0] [1, 3] rfl rfl (by decide) (by decide) hk1 hFc hP1 hD1
      clear hPc hDc hKc hP1 hK1 hD1 hFc hk1 hz1
      generalize H1 = H at hP hS ⊢
      have hP : va_P (dC, dI) vwCl [(ax5_14, .inl (cx5_14, 262, .inl fx5_14)), (ax5_12, .inl (cx5_12, 262, .inl fx5_12)), (h0, .inr (5, [.int xx5_0, .int xx5_1, .ref ax5_2, .ref ax5_3, .ref ax5_4, .ref ax5_5, .ref ax5_6, .ref ax5_7, .ref ax5_8, .ref ax5_9, .ref ax5_10, .ref ax5_11, .ref ax5_12, .ref ax5_13, .ref ax5_14, .ref ax5_15, .ref ax5_16])), (ax5_13, .inl (cx5_13, 262, .inl fx5_13))] H := hP
      have hD : va_D A [(ax5_14, .inl (cx5_14, 262, .inl fx5_14)), (ax5_12, .inl (cx5_12, 262, .inl fx5_12)), (h0, .inr (5, [.int xx5_0, .int xx5_1, .ref ax5_2, .ref ax5_3, .ref ax5_4, .ref ax5_5, .ref ax5_6, .ref ax5_7, .ref ax5_8, .ref ax5_9, .ref ax5_10, .ref ax5_11, .ref ax5_12, .ref ax5_13, .ref ax5_14, .ref ax5_15, .ref ax5_16])), (ax5_13, .inl (cx5_13, 262, .inl fx5_13))] := hD
      rcases hw with q_5 | rfl
      · refine lv_istore_n (lv' := [(3, .int r_4), (2, .int 0), (0, .ref h0), (1, .int p0)]) hx hb dX5_branchesOf_19 rfl hl (by decide) rfl (fun ls hl => ?_)
        exact s_X5_branchesOf_L l dC dI h0 xx5_0 xx5_1 ax5_2 ax5_3 ax5_4 ax5_5 ax5_6 ax5_7 ax5_8 ax5_9 ax5_10 ax5_11 ax5_12 cx5_12 fx5_12 ax5_13 cx5_13 fx5_13 ax5_14 cx5_14 fx5_14 ax5_15 ax5_16 p0 hi_xx5_0 hi_xx5_1 A hx hb hr hml hown hts hlocks hA hN (hK.sub [0, 1, 2] rfl) _ (0 : Int32) r_4 _ _ _ (Nat.lt_succ_self _) ⟨by decide, by decide⟩ (hP.sub [0, 1, 2, 3] rfl) (hD.sub [0, 1, 2, 3] (by decide) rfl) hS (lv_sub hl [0, 1, 2, 3] rfl)
      · refine lv_istore_n (lv' := [(3, .int (-1)), (2, .int 0), (0, .ref h0), (1, .int p0)]) hx hb dX5_branchesOf_19 rfl hl (by decide) rfl (fun ls hl => ?_)
        exact s_X5_branchesOf_L l dC dI h0 xx5_0 xx5_1 ax5_2 ax5_3 ax5_4 ax5_5 ax5_6 ax5_7 ax5_8 ax5_9 ax5_10 ax5_11 ax5_12 cx5_12 fx5_12 ax5_13 cx5_13 fx5_13 ax5_14 cx5_14 fx5_14 ax5_15 ax5_16 p0 hi_xx5_0 hi_xx5_1 A hx hb hr hml hown hts hlocks hA hN (hK.sub [0, 1, 2] rfl) _ (0 : Int32) ((-1) : Int32) _ _ _ (Nat.lt_succ_self _) ⟨by decide, by decide⟩ (hP.sub [0, 1, 2, 3] rfl) (hD.sub [0, 1, 2, 3] (by decide) rfl) hS (lv_sub hl [0, 1, 2, 3] rfl)
    · refine lv_iconst (v := 0) hx hb dX5_branchesOf_10 (by decide) ?_
      have hP9 := hP.sub (ws' := [(h0, .inr (5, [.int xx5_0, .int xx5_1, .ref ax5_2, .ref ax5_3, .ref ax5_4, .ref ax5_5, .ref ax5_6, .ref ax5_7, .ref ax5_8, .ref ax5_9, .ref ax5_10, .ref ax5_11, .ref ax5_12, .ref ax5_13, .ref ax5_14, .ref ax5_15, .ref ax5_16])), (ax5_12, .inl (cx5_12, 262, .inl fx5_12)), (ax5_13, .inl (cx5_13, 262, .inl fx5_13)), (ax5_14, .inl (cx5_14, 262, .inl fx5_14))]) [2, 3, 0, 1] rfl
      have hD9 := hD.sub (ws' := [(h0, .inr (5, [.int xx5_0, .int xx5_1, .ref ax5_2, .ref ax5_3, .ref ax5_4, .ref ax5_5, .ref ax5_6, .ref ax5_7, .ref ax5_8, .ref ax5_9, .ref ax5_10, .ref ax5_11, .ref ax5_12, .ref ax5_13, .ref ax5_14, .ref ax5_15, .ref ax5_16])), (ax5_12, .inl (cx5_12, 262, .inl fx5_12)), (ax5_13, .inl (cx5_13, 262, .inl fx5_13)), (ax5_14, .inl (cx5_14, 262, .inl fx5_14))]) [2, 3, 0, 1] (by decide) rfl
      have hK9 := hK.sub (tys' := [(cx5_12, .int), (cx5_13, .int), (cx5_14, .int)]) [0, 1, 2] rfl
      refine W.widen (k := 0) (n := 0) (Nat.le_of_ble_eq_true rfl) (Nat.le_of_ble_eq_true rfl) ?_
      exact W.iret (v := 0) hx hb hr (fun t ht hW => ⟨⟨0, (), rfl, trivial, by rw [ht]; exact hP9, va_K.moved hW.alike hK9, hD9⟩, hS.F ht⟩) hS.2.2 dX5_branchesOf_11
  · refine lv_bipush (v := 8) hx hb dX5_branchesOf_5 (by decide) ?_
    refine lv_icmp_eq (tgt := 12) hx hb dX5_branchesOf_7 (by decide) (fun h => absurd h (by decide)) (fun _ => ?_)
    refine lv_iconst (v := 0) hx hb dX5_branchesOf_10 (by decide) ?_
    have hP9 := hP.sub (ws' := [(h0, .inr (5, [.int xx5_0, .int xx5_1, .ref ax5_2, .ref ax5_3, .ref ax5_4, .ref ax5_5, .ref ax5_6, .ref ax5_7, .ref ax5_8, .ref ax5_9, .ref ax5_10, .ref ax5_11, .ref ax5_12, .ref ax5_13, .ref ax5_14, .ref ax5_15, .ref ax5_16])), (ax5_12, .inl (cx5_12, 262, .inl fx5_12)), (ax5_13, .inl (cx5_13, 262, .inl fx5_13)), (ax5_14, .inl (cx5_14, 262, .inl fx5_14))]) [2, 3, 0, 1] rfl
    have hD9 := hD.sub (ws' := [(h0, .inr (5, [.int xx5_0, .int xx5_1, .ref ax5_2, .ref ax5_3, .ref ax5_4, .ref ax5_5, .ref ax5_6, .ref ax5_7, .ref ax5_8, .ref ax5_9, .ref ax5_10, .ref ax5_11, .ref ax5_12, .ref ax5_13, .ref ax5_14, .ref ax5_15, .ref ax5_16])), (ax5_12, .inl (cx5_12, 262, .inl fx5_12)), (ax5_13, .inl (cx5_13, 262, .inl fx5_13)), (ax5_14, .inl (cx5_14, 262, .inl fx5_14))]) [2, 3, 0, 1] (by decide) rfl
    have hK9 := hK.sub (tys' := [(cx5_12, .int), (cx5_13, .int), (cx5_14, .int)]) [0, 1, 2] rfl
    refine W.widen (k := 0) (n := 0) (Nat.le_of_ble_eq_true rfl) (Nat.le_of_ble_eq_true rfl) ?_
    exact W.iret (v := 0) hx hb hr (fun t ht hW => ⟨⟨0, (), rfl, trivial, by rw [ht]; exact hP9, va_K.moved hW.alike hK9, hD9⟩, hS.F ht⟩) hS.2.2 dX5_branchesOf_11

set_option maxRecDepth 100000 in
set_option maxHeartbeats 4000000 in
theorem s_X5_branchOf_L {p : Program} {e : Env} {s : State} {m : MethodId} {below : List Frame} {meth : Method} {c : Code} (l : Launch) (dC : Nat → ClassId) (dI : Nat → Nat → Nat) (h0 : Nat) (xx5_0 : Int32) (xx5_1 : Int32) (ax5_2 : Nat) (ax5_3 : Nat) (ax5_4 : Nat) (ax5_5 : Nat) (ax5_6 : Nat) (ax5_7 : Nat) (ax5_8 : Nat) (ax5_9 : Nat) (ax5_10 : Nat) (ax5_11 : Nat) (ax5_12 : Nat) (cx5_12 : ClassId) (fx5_12 : Nat → Int32) (ax5_13 : Nat) (cx5_13 : ClassId) (fx5_13 : Nat → Int32) (ax5_14 : Nat) (cx5_14 : ClassId) (fx5_14 : Nat → Int32) (ax5_15 : Nat) (ax5_16 : Nat) (p0 : Int32) (p1 : Int32) (hi_xx5_0 : (0 : Int) ≤ xx5_0.toInt ∧ xx5_0.toInt ≤ (6 : Int)) (hi_xx5_1 : (0 : Int) ≤ xx5_1.toInt ∧ xx5_1.toInt ≤ (262 : Int)) (A : Nat → Prop) (hx : p.tables.exec = Jvm.exec) (hb : c.code = cX5_branchOf) (hr : meth.sig.returnType = (some .int)) (hml : c.maxLocals = 5) (hown : s.vm.findClass RX5 = some m.cls) (hts : ∀ w ∈ pw, w.before (([.ref h0, .int p0, .int p1] : List Value).toArray) s = true) (hlocks : meth.locks = false) (hA : ∀ q : Nat, s.heap.size ≤ q → A q) (hN : nN s) (hK : va_K (dC, dI) vwCl [(cx5_12, .int), (cx5_13, .int), (cx5_14, .int)] s) : ∀ (n : Nat) (v4 : Int32) (v3 : Int32) (H : Heap) (locs : List Loc) (ls : Array Slot), (4 - v4.toInt).toNat < n → 0 ≤ v4.toInt ∧ v4.toInt ≤ 4 → va_P (dC, dI) vwCl [(ax5_13, .inl (cx5_13, 262, .inl fx5_13)), (ax5_14, .inl (cx5_14, 262, .inl fx5_14)), (h0, .inr (5, [.int xx5_0, .int xx5_1, .ref ax5_2, .ref ax5_3, .ref ax5_4, .ref ax5_5, .ref ax5_6, .ref ax5_7, .ref ax5_8, .ref ax5_9, .ref ax5_10, .ref ax5_11, .ref ax5_12, .ref ax5_13, .ref ax5_14, .ref ax5_15, .ref ax5_16])), (ax5_12, .inl (cx5_12, 262, .inl fx5_12))] H → va_D A [(ax5_13, .inl (cx5_13, 262, .inl fx5_13)), (ax5_14, .inl (cx5_14, 262, .inl fx5_14)), (h0, .inr (5, [.int xx5_0, .int xx5_1, .ref ax5_2, .ref ax5_3, .ref ax5_4, .ref ax5_5, .ref ax5_6, .ref ax5_7, .ref ax5_8, .ref ax5_9, .ref ax5_10, .ref ax5_11, .ref ax5_12, .ref ax5_13, .ref ax5_14, .ref ax5_15, .ref ax5_16])), (ax5_12, .inl (cx5_12, 262, .inl fx5_12))] → va_S A s.heap H locs → lv_has ls 5 [(4, .int v4), (3, .int v3), (0, .ref h0), (1, .int p0), (2, .int p1)] → W p l e ({ frames := 2, cells := 0, slots := 0, locals := 42 } : Room) s m (([.ref h0, .int p0, .int p1] : List Value).toArray) below meth c H locs 0 0 (MQ below (va_Qi (fun (r : Int32) (_ : Unit) => True) (fun (_ : Unit) t => vPst dC dI A [(h0, .inr (5, [.int xx5_0, .int xx5_1, .ref ax5_2, .ref ax5_3, .ref ax5_4, .ref ax5_5, .ref ax5_6, .ref ax5_7, .ref ax5_8, .ref ax5_9, .ref ax5_10, .ref ax5_11, .ref ax5_12, .ref ax5_13, .ref ax5_14, .ref ax5_15, .ref ax5_16])), (ax5_12, .inl (cx5_12, 262, .inl fx5_12)), (ax5_13, .inl (cx5_13, 262, .inl fx5_13)), (ax5_14, .inl (cx5_14, 262, .inl fx5_14))] [(cx5_12, .int), (cx5_13, .int), (cx5_14, .int)] t) A) (([.ref h0, .int p0, .int p1] : List Value).toArray) s 0 0 A) (F0 m 23 ls []) := by
  intro n
  induction n with
  | zero =>
    intro v4 v3 H locs ls hn
    exact absurd hn (Nat.not_lt_zero _)
  | succ n ih =>
    intro v4 v3 H locs ls hn hb_4 hP hD hS hl
    refine lv_iload hx hb dX5_branchOf_23 (lv_at hl 0 rfl) ?_
    refine lv_iload_n hx hb dX5_branchOf_25 rfl (lv_at hl 4 rfl) ?_
    refine lv_icmp_ge (tgt := 47) hx hb dX5_branchOf_26 (by decide) (fun c_101 => ?_) (fun c_101 => ?_)
    · refine lv_iload_n hx hb dX5_branchOf_47 rfl (lv_at hl 1 rfl) ?_
      have hP9 := hP.sub (ws' := [(h0, .inr (5, [.int xx5_0, .int xx5_1, .ref ax5_2, .ref ax5_3, .ref ax5_4, .ref ax5_5, .ref ax5_6, .ref ax5_7, .ref ax5_8, .ref ax5_9, .ref ax5_10, .ref ax5_11, .ref ax5_12, .ref ax5_13, .ref ax5_14, .ref ax5_15, .ref ax5_16])), (ax5_12, .inl (cx5_12, 262, .inl fx5_12)), (ax5_13, .inl (cx5_13, 262, .inl fx5_13)), (ax5_14, .inl (cx5_14, 262, .inl fx5_14))]) [2, 3, 0, 1] rfl
      have hD9 := hD.sub (ws' := [(h0, .inr (5, [.int xx5_0, .int xx5_1, .ref ax5_2, .ref ax5_3, .ref ax5_4, .ref ax5_5, .ref ax5_6, .ref ax5_7, .ref ax5_8, .ref ax5_9, .ref ax5_10, .ref ax5_11, .ref ax5_12, .ref ax5_13, .ref ax5_14, .ref ax5_15, .ref ax5_16])), (ax5_12, .inl (cx5_12, 262, .inl fx5_12)), (ax5_13, .inl (cx5_13, 262, .inl fx5_13)), (ax5_14, .inl (cx5_14, 262, .inl fx5_14))]) [2, 3, 0, 1] (by decide) rfl
      have hK9 := hK.sub (tys' := [(cx5_12, .int), (cx5_13, .int), (cx5_14, .int)]) [0, 1, 2] rfl
      refine W.widen (k := 0) (n := 0) (Nat.le_of_ble_eq_true rfl) (Nat.le_of_ble_eq_true rfl) ?_
      exact W.iret (v := v3) hx hb hr (fun t ht hW => ⟨⟨v3, (), rfl, trivial, by rw [ht]; exact hP9, va_K.moved hW.alike hK9, hD9⟩, hS.F ht⟩) hS.2.2 dX5_branchOf_48
    · refine lv_iload hx hb dX5_branchOf_29 (lv_at hl 0 rfl) ?_
      refine lv_iconst (v := 4) hx hb dX5_branchOf_31 (by decide) ?_
      refine lv_icmp_ge (tgt := 47) hx hb dX5_branchOf_32 (by decide) (fun c_102 => ?_) (fun c_102 => ?_)
      · refine lv_iload_n hx hb dX5_branchOf_47 rfl (lv_at hl 1 rfl) ?_
        have hP9 := hP.sub (ws' := [(h0, .inr (5, [.int xx5_0, .int xx5_1, .ref ax5_2, .ref ax5_3, .ref ax5_4, .ref ax5_5, .ref ax5_6, .ref ax5_7, .ref ax5_8, .ref ax5_9, .ref ax5_10, .ref ax5_11, .ref ax5_12, .ref ax5_13, .ref ax5_14, .ref ax5_15, .ref ax5_16])), (ax5_12, .inl (cx5_12, 262, .inl fx5_12)), (ax5_13, .inl (cx5_13, 262, .inl fx5_13)), (ax5_14, .inl (cx5_14, 262, .inl fx5_14))]) [2, 3, 0, 1] rfl
        have hD9 := hD.sub (ws' := [(h0, .inr (5, [.int xx5_0, .int xx5_1, .ref ax5_2, .ref ax5_3, .ref ax5_4, .ref ax5_5, .ref ax5_6, .ref ax5_7, .ref ax5_8, .ref ax5_9, .ref ax5_10, .ref ax5_11, .ref ax5_12, .ref ax5_13, .ref ax5_14, .ref ax5_15, .ref ax5_16])), (ax5_12, .inl (cx5_12, 262, .inl fx5_12)), (ax5_13, .inl (cx5_13, 262, .inl fx5_13)), (ax5_14, .inl (cx5_14, 262, .inl fx5_14))]) [2, 3, 0, 1] (by decide) rfl
        have hK9 := hK.sub (tys' := [(cx5_12, .int), (cx5_13, .int), (cx5_14, .int)]) [0, 1, 2] rfl
        refine W.widen (k := 0) (n := 0) (Nat.le_of_ble_eq_true rfl) (Nat.le_of_ble_eq_true rfl) ?_
        exact W.iret (v := v3) hx hb hr (fun t ht hW => ⟨⟨v3, (), rfl, trivial, by rw [ht]; exact hP9, va_K.moved hW.alike hK9, hD9⟩, hS.F ht⟩) hS.2.2 dX5_branchOf_48
      · refine lv_aload_n hx hb dX5_branchOf_35 rfl (lv_at hl 2 rfl) ?_
        refine lv_iload_n hx hb dX5_branchOf_36 rfl (lv_at hl 1 rfl) ?_
        have hPc := hP.sub (ws' := [(h0, .inr (5, [.int xx5_0, .int xx5_1, .ref ax5_2, .ref ax5_3, .ref ax5_4, .ref ax5_5, .ref ax5_6, .ref ax5_7, .ref ax5_8, .ref ax5_9, .ref ax5_10, .ref ax5_11, .ref ax5_12, .ref ax5_13, .ref ax5_14, .ref ax5_15, .ref ax5_16])), (ax5_14, .inl (cx5_14, 262, .inl fx5_14))]) [2, 1] rfl
        have hDc := hD.sub (ws' := [(h0, .inr (5, [.int xx5_0, .int xx5_1, .ref ax5_2, .ref ax5_3, .ref ax5_4, .ref ax5_5, .ref ax5_6, .ref ax5_7, .ref ax5_8, .ref ax5_9, .ref ax5_10, .ref ax5_11, .ref ax5_12, .ref ax5_13, .ref ax5_14, .ref ax5_15, .ref ax5_16])), (ax5_14, .inl (cx5_14, 262, .inl fx5_14))]) [2, 1] (by decide) rfl
        have hKc := hK.sub (tys' := [(cx5_14, .int)]) [2] rfl
        have hFc := va_free (wc := [(h0, .inr (5, [.int xx5_0, .int xx5_1, .ref ax5_2, .ref ax5_3, .ref ax5_4, .ref ax5_5, .ref ax5_6, .ref ax5_7, .ref ax5_8, .ref ax5_9, .ref ax5_10, .ref ax5_11, .ref ax5_12, .ref ax5_13, .ref ax5_14, .ref ax5_15, .ref ax5_16])), (ax5_14, .inl (cx5_14, 262, .inl fx5_14))]) hD hS hA [2, 1] rfl
        refine va_calli (va_runV (As := [.int v3]) (rest := []) ⟨hx, hb, hml, hown, hts⟩ (s_X5_branchAfter l dC dI h0 xx5_0 xx5_1 ax5_2 ax5_3 ax5_4 ax5_5 ax5_6 ax5_7 ax5_8 ax5_9 ax5_10 ax5_11 ax5_12 ax5_13 ax5_14 cx5_14 fx5_14 ax5_15 ax5_16 v3 (by have a0 := hi_xx5_0.1; have a1 := hi_xx5_0.2; omega) (by have a0 := hi_xx5_1.1; have a1 := hi_xx5_1.2; omega) H.size) (cwV 1 hts (gV mw_15_8 mw_2_19 mw_2_20 mw_0_9 mw_49_8) rfl rfl rfl (by decide +kernel) ⟨(Nat.le_of_ble_eq_true rfl), (Nat.le_of_ble_eq_true rfl)⟩) (vV (ci := 5) (q0 := 0) hKc hPc hDc hN rfl rfl) rfl rfl hl.1 rfl (lv_room (Nat.le_of_ble_eq_true rfl)) dX5_branchOf_37 ⟨(Nat.le_of_ble_eq_true rfl), (Nat.le_of_ble_eq_true rfl)⟩) hS (fun q _ h => hFc q h) hFc (fun r_103 u t H1 locs ht hvm hw hB hz1 hk1 hS => ?_)
        obtain ⟨hP1, hK1, hD1⟩ := hB
        rw [ht] at hP1
        have hK1 := va_K.moved hvm.symm hK1
        obtain ⟨hP, hD⟩ := va_join (wr := [(ax5_13, .inl (cx5_13, 262, .inl fx5_13)), (ax5_12, .inl (cx5_12, 262, .inl fx5_12))]) (w1 := [(h0, .inr (5, [.int xx5_0, .int xx5_1, .ref ax5_2, .ref ax5_3, .ref ax5_4, .ref ax5_5, .ref ax5_6, .ref ax5_7, .ref ax5_8, .ref ax5_9, .ref ax5_10, .ref ax5_11, .ref ax5_12, .ref ax5_13, .ref ax5_14, .ref ax5_15, .ref ax5_16])), (ax5_14, .inl (cx5_14, 262, .inl fx5_14))]) hP hD [2, 1] [0, 3] rfl rfl (by decide) (by decide) hk1 hFc hP1 hD1
        clear hPc hDc hKc hP1 hK1 hD1 hFc hk1 hz1
        generalize H1 = H at hP hS ⊢
        have hP : va_P (dC, dI) vwCl [(ax5_13, .inl (cx5_13, 262, .inl fx5_13)), (ax5_12, .inl (cx5_12, 262, .inl fx5_12)), (h0, .inr (5, [.int xx5_0, .int xx5_1, .ref ax5_2, .ref ax5_3, .ref ax5_4, .ref ax5_5, .ref ax5_6, .ref ax5_7, .ref ax5_8, .ref ax5_9, .ref ax5_10, .ref ax5_11, .ref ax5_12, .ref ax5_13, .ref ax5_14, .ref ax5_15, .ref ax5_16])), (ax5_14, .inl (cx5_14, 262, .inl fx5_14))] H := hP
        have hD : va_D A [(ax5_13, .inl (cx5_13, 262, .inl fx5_13)), (ax5_12, .inl (cx5_12, 262, .inl fx5_12)), (h0, .inr (5, [.int xx5_0, .int xx5_1, .ref ax5_2, .ref ax5_3, .ref ax5_4, .ref ax5_5, .ref ax5_6, .ref ax5_7, .ref ax5_8, .ref ax5_9, .ref ax5_10, .ref ax5_11, .ref ax5_12, .ref ax5_13, .ref ax5_14, .ref ax5_15, .ref ax5_16])), (ax5_14, .inl (cx5_14, 262, .inl fx5_14))] := hD
        rcases hw with q_104 | rfl
        · refine lv_istore_n (lv' := [(3, .int r_103), (4, .int v4), (0, .ref h0), (1, .int p0), (2, .int p1)]) hx hb dX5_branchOf_40 rfl hl (by decide) rfl (fun ls hl => ?_)
          obtain ⟨x_105, ex_105⟩ : ∃ y : Int32, y = v4 + Int32.ofInt 1 := ⟨_, rfl⟩
          have bx_105 : (1 : Int) ≤ x_105.toInt ∧ x_105.toInt ≤ (4 : Int) := by have r0 := il_rng v4; have a0 := hb_4.1; have a1 := hb_4.2; have a2 := il_nle c_102; have e0 : (4 : Int32).toInt = 4 := (by decide); have k9 : (Int32.ofInt 1).toInt = (1 : Int) := (by decide); rw [ex_105, il_addE (by rw [k9]; omega) (by rw [k9]; omega), k9]; omega
          refine lv_iinc (v := x_105) (lv' := [(4, .int x_105), (3, .int r_103), (0, .ref h0), (1, .int p0), (2, .int p1)]) hx hb dX5_branchOf_41 hl (k := 1) rfl ex_105.symm (by decide) rfl (fun ls hl => ?_)
          refine lv_goto (tgt := 23) hx hb dX5_branchOf_44 (by decide) ?_
          exact ih x_105 r_103 _ _ _ (by have a0 := bx_105.1; have a1 := bx_105.2; have a2 := hb_4.1; have a3 := hb_4.2; have a4 := il_nle c_102; have e0 : (4 : Int32).toInt = 4 := (by decide); have r8 := il_rng v4; have m9 : x_105.toInt = v4.toInt + (1) := (by rw [ex_105]; have k9 : (Int32.ofInt (1)).toInt = (1) := (by decide); rw [il_addE (by rw [k9]; omega) (by rw [k9]; omega), k9]); omega) (by have a0 := bx_105.1; have a1 := bx_105.2; omega) (hP.sub [0, 3, 2, 1] rfl) (hD.sub [0, 3, 2, 1] (by decide) rfl) hS (lv_sub hl [0, 1, 2, 3, 4] rfl)
        · refine lv_istore_n (lv' := [(3, .int (-1)), (4, .int v4), (0, .ref h0), (1, .int p0), (2, .int p1)]) hx hb dX5_branchOf_40 rfl hl (by decide) rfl (fun ls hl => ?_)
          obtain ⟨x_106, ex_106⟩ : ∃ y : Int32, y = v4 + Int32.ofInt 1 := ⟨_, rfl⟩
          have bx_106 : (1 : Int) ≤ x_106.toInt ∧ x_106.toInt ≤ (4 : Int) := by have r0 := il_rng v4; have a0 := hb_4.1; have a1 := hb_4.2; have a2 := il_nle c_102; have e0 : (4 : Int32).toInt = 4 := (by decide); have k9 : (Int32.ofInt 1).toInt = (1 : Int) := (by decide); rw [ex_106, il_addE (by rw [k9]; omega) (by rw [k9]; omega), k9]; omega
          refine lv_iinc (v := x_106) (lv' := [(4, .int x_106), (3, .int (-1)), (0, .ref h0), (1, .int p0), (2, .int p1)]) hx hb dX5_branchOf_41 hl (k := 1) rfl ex_106.symm (by decide) rfl (fun ls hl => ?_)
          refine lv_goto (tgt := 23) hx hb dX5_branchOf_44 (by decide) ?_
          exact ih x_106 ((-1) : Int32) _ _ _ (by have a0 := bx_106.1; have a1 := bx_106.2; have a2 := hb_4.1; have a3 := hb_4.2; have a4 := il_nle c_102; have e0 : (4 : Int32).toInt = 4 := (by decide); have r8 := il_rng v4; have m9 : x_106.toInt = v4.toInt + (1) := (by rw [ex_106]; have k9 : (Int32.ofInt (1)).toInt = (1) := (by decide); rw [il_addE (by rw [k9]; omega) (by rw [k9]; omega), k9]); omega) (by have a0 := bx_106.1; have a1 := bx_106.2; omega) (hP.sub [0, 3, 2, 1] rfl) (hD.sub [0, 3, 2, 1] (by decide) rfl) hS (lv_sub hl [0, 1, 2, 3, 4] rfl)
set_option maxRecDepth 100000 in
set_option maxHeartbeats 4000000 in
theorem s_X5_branchOf (l : Launch) (dC : Nat → ClassId) (dI : Nat → Nat → Nat) (h0 : Nat) (xx5_0 : Int32) (xx5_1 : Int32) (ax5_2 : Nat) (ax5_3 : Nat) (ax5_4 : Nat) (ax5_5 : Nat) (ax5_6 : Nat) (ax5_7 : Nat) (ax5_8 : Nat) (ax5_9 : Nat) (ax5_10 : Nat) (ax5_11 : Nat) (ax5_12 : Nat) (cx5_12 : ClassId) (fx5_12 : Nat → Int32) (ax5_13 : Nat) (cx5_13 : ClassId) (fx5_13 : Nat → Int32) (ax5_14 : Nat) (cx5_14 : ClassId) (fx5_14 : Nat → Int32) (ax5_15 : Nat) (ax5_16 : Nat) (p0 : Int32) (p1 : Int32) (hi_xx5_0 : (0 : Int) ≤ xx5_0.toInt ∧ xx5_0.toInt ≤ (6 : Int)) (hi_xx5_1 : (0 : Int) ≤ xx5_1.toInt ∧ xx5_1.toInt ≤ (262 : Int)) (sz : Nat) : Met l yX5_branchOf (.code yX5_branchOf cX5_branchOf 5 (some .int) :: pw) ({ frames := 2, cells := 0, slots := 0, locals := 42 }) (va_Pc [.ref h0, .int p0, .int p1] (vPre dC dI [(h0, .inr (5, [.int xx5_0, .int xx5_1, .ref ax5_2, .ref ax5_3, .ref ax5_4, .ref ax5_5, .ref ax5_6, .ref ax5_7, .ref ax5_8, .ref ax5_9, .ref ax5_10, .ref ax5_11, .ref ax5_12, .ref ax5_13, .ref ax5_14, .ref ax5_15, .ref ax5_16])), (ax5_12, .inl (cx5_12, 262, .inl fx5_12)), (ax5_13, .inl (cx5_13, 262, .inl fx5_13)), (ax5_14, .inl (cx5_14, 262, .inl fx5_14))] [(cx5_12, .int), (cx5_13, .int), (cx5_14, .int)] sz)) (va_Qi (fun (r : Int32) (_ : Unit) => True) (fun (_ : Unit) t => vPst dC dI (va_A [(h0, .inr (5, [.int xx5_0, .int xx5_1, .ref ax5_2, .ref ax5_3, .ref ax5_4, .ref ax5_5, .ref ax5_6, .ref ax5_7, .ref ax5_8, .ref ax5_9, .ref ax5_10, .ref ax5_11, .ref ax5_12, .ref ax5_13, .ref ax5_14, .ref ax5_15, .ref ax5_16])), (ax5_12, .inl (cx5_12, 262, .inl fx5_12)), (ax5_13, .inl (cx5_13, 262, .inl fx5_13)), (ax5_14, .inl (cx5_14, 262, .inl fx5_14))] sz) [(h0, .inr (5, [.int xx5_0, .int xx5_1, .ref ax5_2, .ref ax5_3, .ref ax5_4, .ref ax5_5, .ref ax5_6, .ref ax5_7, .ref ax5_8, .ref ax5_9, .ref ax5_10, .ref ax5_11, .ref ax5_12, .ref ax5_13, .ref ax5_14, .ref ax5_15, .ref ax5_16])), (ax5_12, .inl (cx5_12, 262, .inl fx5_12)), (ax5_13, .inl (cx5_13, 262, .inl fx5_13)), (ax5_14, .inl (cx5_14, 262, .inl fx5_14))] [(cx5_12, .int), (cx5_13, .int), (cx5_14, .int)] t) (va_A [(h0, .inr (5, [.int xx5_0, .int xx5_1, .ref ax5_2, .ref ax5_3, .ref ax5_4, .ref ax5_5, .ref ax5_6, .ref ax5_7, .ref ax5_8, .ref ax5_9, .ref ax5_10, .ref ax5_11, .ref ax5_12, .ref ax5_13, .ref ax5_14, .ref ax5_15, .ref ax5_16])), (ax5_12, .inl (cx5_12, 262, .inl fx5_12)), (ax5_13, .inl (cx5_13, 262, .inl fx5_13)), (ax5_14, .inl (cx5_14, 262, .inl fx5_14))] sz)) 0 0 (va_A [(h0, .inr (5, [.int xx5_0, .int xx5_1, .ref ax5_2, .ref ax5_3, .ref ax5_4, .ref ax5_5, .ref ax5_6, .ref ax5_7, .ref ax5_8, .ref ax5_9, .ref ax5_10, .ref ax5_11, .ref ax5_12, .ref ax5_13, .ref ax5_14, .ref ax5_15, .ref ax5_16])), (ax5_12, .inl (cx5_12, 262, .inl fx5_12)), (ax5_13, .inl (cx5_13, 262, .inl fx5_13)), (ax5_14, .inl (cx5_14, 262, .inl fx5_14))] sz) := by
  refine Met.ofW (cc := cX5_branchOf) (maxL := 5) (ret := (some .int)) (by decide) rfl ?_
  intro p e s m args below meth c s₁ B hml hv
  obtain ⟨rfl, hsz, hP, hK, hD0, hN⟩ := hv
  have hx := B.exec
  have hb := B.bytes
  have hr := B.returns
  have hts := atoms_spec (ws := .code yX5_branchOf cX5_branchOf 5 (some .int) :: pw) B.pre
  have hts : ∀ w ∈ pw, w.before _ s = true := fun w h => hts w (List.mem_cons_of_mem _ h)
  have hown : s.vm.findClass RX5 = some m.cls := findClass_of_methodNamed B.named
  have hlocks := B.notSynchronized
  subst hsz
  have hD := hD0.self (sz := s.heap.size)
  generalize hAe : va_A [(h0, .inr (5, [.int xx5_0, .int xx5_1, .ref ax5_2, .ref ax5_3, .ref ax5_4, .ref ax5_5, .ref ax5_6, .ref ax5_7, .ref ax5_8, .ref ax5_9, .ref ax5_10, .ref ax5_11, .ref ax5_12, .ref ax5_13, .ref ax5_14, .ref ax5_15, .ref ax5_16])), (ax5_12, .inl (cx5_12, 262, .inl fx5_12)), (ax5_13, .inl (cx5_13, 262, .inl fx5_13)), (ax5_14, .inl (cx5_14, 262, .inl fx5_14))] s.heap.size = A at hD ⊢
  have hA : ∀ q : Nat, s.heap.size ≤ q → A q := fun q h => by rw [← hAe]; exact Or.inr h
  have hS : va_S A s.heap s.heap [] := va_S.rf
  have hP : va_P (dC, dI) vwCl [(h0, .inr (5, [.int xx5_0, .int xx5_1, .ref ax5_2, .ref ax5_3, .ref ax5_4, .ref ax5_5, .ref ax5_6, .ref ax5_7, .ref ax5_8, .ref ax5_9, .ref ax5_10, .ref ax5_11, .ref ax5_12, .ref ax5_13, .ref ax5_14, .ref ax5_15, .ref ax5_16])), (ax5_12, .inl (cx5_12, 262, .inl fx5_12)), (ax5_13, .inl (cx5_13, 262, .inl fx5_13)), (ax5_14, .inl (cx5_14, 262, .inl fx5_14))] s.heap := hP
  have hl := lv_entry ([.ref h0, .int p0, .int p1]) (n := 5) (Nat.le_of_ble_eq_true rfl)
  rw [lg_entry_eq]
  generalize (lg_sl ([.ref h0, .int p0, .int p1]) ++ List.replicate (5 - (lg_sl ([.ref h0, .int p0, .int p1])).length) Slot.unset).toArray = ls at hl ⊢
  have hl : lv_has ls 5 [(0, .ref h0), (1, .int p0), (2, .int p1)] := hl
  refine lv_aload_n hx hb dX5_branchOf_0 rfl (lv_at hl 0 rfl) ?_
  refine lv_iload_n hx hb dX5_branchOf_1 rfl (lv_at hl 1 rfl) ?_
  have hPc := hP.sub (ws' := [(h0, .inr (5, [.int xx5_0, .int xx5_1, .ref ax5_2, .ref ax5_3, .ref ax5_4, .ref ax5_5, .ref ax5_6, .ref ax5_7, .ref ax5_8, .ref ax5_9, .ref ax5_10, .ref ax5_11, .ref ax5_12, .ref ax5_13, .ref ax5_14, .ref ax5_15, .ref ax5_16])), (ax5_12, .inl (cx5_12, 262, .inl fx5_12))]) [0, 1] rfl
  have hDc := hD.sub (ws' := [(h0, .inr (5, [.int xx5_0, .int xx5_1, .ref ax5_2, .ref ax5_3, .ref ax5_4, .ref ax5_5, .ref ax5_6, .ref ax5_7, .ref ax5_8, .ref ax5_9, .ref ax5_10, .ref ax5_11, .ref ax5_12, .ref ax5_13, .ref ax5_14, .ref ax5_15, .ref ax5_16])), (ax5_12, .inl (cx5_12, 262, .inl fx5_12))]) [0, 1] (by decide) rfl
  have hKc := hK.sub (tys' := [(cx5_12, .int)]) [0] rfl
  have hFc := va_free (wc := [(h0, .inr (5, [.int xx5_0, .int xx5_1, .ref ax5_2, .ref ax5_3, .ref ax5_4, .ref ax5_5, .ref ax5_6, .ref ax5_7, .ref ax5_8, .ref ax5_9, .ref ax5_10, .ref ax5_11, .ref ax5_12, .ref ax5_13, .ref ax5_14, .ref ax5_15, .ref ax5_16])), (ax5_12, .inl (cx5_12, 262, .inl fx5_12))]) hD hS hA [0, 1] rfl
  refine va_calli (va_runV (As := [.int p0]) (rest := []) ⟨hx, hb, hml, hown, hts⟩ (s_X5_sortOf l dC dI h0 xx5_0 xx5_1 ax5_2 ax5_3 ax5_4 ax5_5 ax5_6 ax5_7 ax5_8 ax5_9 ax5_10 ax5_11 ax5_12 cx5_12 fx5_12 ax5_13 ax5_14 ax5_15 ax5_16 p0 (by have a0 := hi_xx5_0.1; have a1 := hi_xx5_0.2; omega) (by have a0 := hi_xx5_1.1; have a1 := hi_xx5_1.2; omega) s.heap.size) (cwV 1 hts (gV mw_15_6 mw_2_13 mw_2_14 mw_0_9 mw_49_6) rfl rfl rfl (by decide +kernel) ⟨(Nat.le_of_ble_eq_true rfl), (Nat.le_of_ble_eq_true rfl)⟩) (vV (ci := 5) (q0 := 0) hKc hPc hDc hN rfl rfl) rfl rfl hl.1 rfl (lv_room (Nat.le_of_ble_eq_true rfl)) dX5_branchOf_2 ⟨(Nat.le_of_ble_eq_true rfl), (Nat.le_of_ble_eq_true rfl)⟩) hS (fun q _ h => hFc q h) hFc (fun r_1 u t H1 locs ht hvm hw hB hz1 hk1 hS => ?_)
  obtain ⟨hP1, hK1, hD1⟩ := hB
  rw [ht] at hP1
  have hK1 := va_K.moved hvm.symm hK1
  obtain ⟨hP, hD⟩ := va_join (wr := [(ax5_13, .inl (cx5_13, 262, .inl fx5_13)), (ax5_14, .inl (cx5_14, 262, .inl fx5_14))]) (w1 := [(h0, .inr (5, [.int xx5_0, .int xx5_1, .ref ax5_2, .ref ax5_3, .ref ax5_4, .ref ax5_5, .ref ax5_6, .ref ax5_7, .ref ax5_8, .ref ax5_9, .ref ax5_10, .ref ax5_11, .ref ax5_12, .ref ax5_13, .ref ax5_14, .ref ax5_15, .ref ax5_16])), (ax5_12, .inl (cx5_12, 262, .inl fx5_12))]) hP hD [0, 1] [2, 3] rfl rfl (by decide) (by decide) hk1 hFc hP1 hD1
  clear hPc hDc hKc hP1 hK1 hD1 hFc hk1 hz1
  generalize H1 = H at hP hS ⊢
  have hP : va_P (dC, dI) vwCl [(ax5_13, .inl (cx5_13, 262, .inl fx5_13)), (ax5_14, .inl (cx5_14, 262, .inl fx5_14)), (h0, .inr (5, [.int xx5_0, .int xx5_1, .ref ax5_2, .ref ax5_3, .ref ax5_4, .ref ax5_5, .ref ax5_6, .ref ax5_7, .ref ax5_8, .ref ax5_9, .ref ax5_10, .ref ax5_11, .ref ax5_12, .ref ax5_13, .ref ax5_14, .ref ax5_15, .ref ax5_16])), (ax5_12, .inl (cx5_12, 262, .inl fx5_12))] H := hP
  have hD : va_D A [(ax5_13, .inl (cx5_13, 262, .inl fx5_13)), (ax5_14, .inl (cx5_14, 262, .inl fx5_14)), (h0, .inr (5, [.int xx5_0, .int xx5_1, .ref ax5_2, .ref ax5_3, .ref ax5_4, .ref ax5_5, .ref ax5_6, .ref ax5_7, .ref ax5_8, .ref ax5_9, .ref ax5_10, .ref ax5_11, .ref ax5_12, .ref ax5_13, .ref ax5_14, .ref ax5_15, .ref ax5_16])), (ax5_12, .inl (cx5_12, 262, .inl fx5_12))] := hD
  rcases hw with q_2 | rfl
  · refine lv_bipush (v := 8) hx hb dX5_branchOf_5 (by decide) ?_
    refine lv_icmp_ne (tgt := 18) hx hb dX5_branchOf_7 (by decide) (fun c_3 => ?_) (fun c_3 => ?_)
    · refine lv_iconst (v := (-1)) hx hb dX5_branchOf_18 (by decide) ?_
      refine lv_istore_n (lv' := [(3, .int (-1)), (0, .ref h0), (1, .int p0), (2, .int p1)]) hx hb dX5_branchOf_19 rfl hl (by decide) rfl (fun ls hl => ?_)
      refine lv_iconst (v := 0) hx hb dX5_branchOf_20 (by decide) ?_
      refine lv_istore (lv' := [(4, .int 0), (3, .int (-1)), (0, .ref h0), (1, .int p0), (2, .int p1)]) hx hb dX5_branchOf_21 hl (by decide) rfl (fun ls hl => ?_)
      exact s_X5_branchOf_L l dC dI h0 xx5_0 xx5_1 ax5_2 ax5_3 ax5_4 ax5_5 ax5_6 ax5_7 ax5_8 ax5_9 ax5_10 ax5_11 ax5_12 cx5_12 fx5_12 ax5_13 cx5_13 fx5_13 ax5_14 cx5_14 fx5_14 ax5_15 ax5_16 p0 p1 hi_xx5_0 hi_xx5_1 A hx hb hr hml hown hts hlocks hA hN (hK.sub [0, 1, 2] rfl) _ (0 : Int32) ((-1) : Int32) _ _ _ (Nat.lt_succ_self _) ⟨by decide, by decide⟩ (hP.sub [0, 1, 2, 3] rfl) (hD.sub [0, 1, 2, 3] (by decide) rfl) hS (lv_sub hl [0, 1, 2, 3, 4] rfl)
    · refine lv_aload_n hx hb dX5_branchOf_10 rfl (lv_at hl 0 rfl) ?_
      refine lv_iload_n hx hb dX5_branchOf_11 rfl (lv_at hl 1 rfl) ?_
      have hPc := hP.sub (ws' := [(h0, .inr (5, [.int xx5_0, .int xx5_1, .ref ax5_2, .ref ax5_3, .ref ax5_4, .ref ax5_5, .ref ax5_6, .ref ax5_7, .ref ax5_8, .ref ax5_9, .ref ax5_10, .ref ax5_11, .ref ax5_12, .ref ax5_13, .ref ax5_14, .ref ax5_15, .ref ax5_16])), (ax5_13, .inl (cx5_13, 262, .inl fx5_13))]) [2, 0] rfl
      have hDc := hD.sub (ws' := [(h0, .inr (5, [.int xx5_0, .int xx5_1, .ref ax5_2, .ref ax5_3, .ref ax5_4, .ref ax5_5, .ref ax5_6, .ref ax5_7, .ref ax5_8, .ref ax5_9, .ref ax5_10, .ref ax5_11, .ref ax5_12, .ref ax5_13, .ref ax5_14, .ref ax5_15, .ref ax5_16])), (ax5_13, .inl (cx5_13, 262, .inl fx5_13))]) [2, 0] (by decide) rfl
      have hKc := hK.sub (tys' := [(cx5_13, .int)]) [1] rfl
      have hFc := va_free (wc := [(h0, .inr (5, [.int xx5_0, .int xx5_1, .ref ax5_2, .ref ax5_3, .ref ax5_4, .ref ax5_5, .ref ax5_6, .ref ax5_7, .ref ax5_8, .ref ax5_9, .ref ax5_10, .ref ax5_11, .ref ax5_12, .ref ax5_13, .ref ax5_14, .ref ax5_15, .ref ax5_16])), (ax5_13, .inl (cx5_13, 262, .inl fx5_13))]) hD hS hA [2, 0] rfl
      refine va_calli (va_runV (As := [.int p0]) (rest := []) ⟨hx, hb, hml, hown, hts⟩ (s_X5_innerOf l dC dI h0 xx5_0 xx5_1 ax5_2 ax5_3 ax5_4 ax5_5 ax5_6 ax5_7 ax5_8 ax5_9 ax5_10 ax5_11 ax5_12 ax5_13 cx5_13 fx5_13 ax5_14 ax5_15 ax5_16 p0 (by have a0 := hi_xx5_0.1; have a1 := hi_xx5_0.2; omega) (by have a0 := hi_xx5_1.1; have a1 := hi_xx5_1.2; omega) H.size) (cwV 1 hts (gV mw_15_7 mw_2_16 mw_2_17 mw_0_9 mw_49_7) rfl rfl rfl (by decide +kernel) ⟨(Nat.le_of_ble_eq_true rfl), (Nat.le_of_ble_eq_true rfl)⟩) (vV (ci := 5) (q0 := 0) hKc hPc hDc hN rfl rfl) rfl rfl hl.1 rfl (lv_room (Nat.le_of_ble_eq_true rfl)) dX5_branchOf_12 ⟨(Nat.le_of_ble_eq_true rfl), (Nat.le_of_ble_eq_true rfl)⟩) hS (fun q _ h => hFc q h) hFc (fun r_4 u t H1 locs ht hvm hw hB hz1 hk1 hS => ?_)
      obtain ⟨hP1, hK1, hD1⟩ := hB
      rw [ht] at hP1
      have hK1 := va_K.moved hvm.symm hK1
      obtain ⟨hP, hD⟩ := va_join (wr := [(ax5_14, .inl (cx5_14, 262, .inl fx5_14)), (ax5_12, .inl (cx5_12, 262, .inl fx5_12))]) (w1 := [(h0, .inr (5, [.int xx5_0, .int xx5_1, .ref ax5_2, .ref ax5_3, .ref ax5_4, .ref ax5_5, .ref ax5_6, .ref ax5_7, .ref ax5_8, .ref ax5_9, .ref ax5_10, .ref ax5_11, .ref ax5_12, .ref ax5_13, .ref ax5_14, .ref ax5_15, .ref ax5_16])), (ax5_13, .inl (cx5_13, 262, .inl fx5_13))]) hP hD [2, 0] [1, 3] rfl rfl (by decide) (by decide) hk1 hFc hP1 hD1
      clear hPc hDc hKc hP1 hK1 hD1 hFc hk1 hz1
      generalize H1 = H at hP hS ⊢
      have hP : va_P (dC, dI) vwCl [(ax5_14, .inl (cx5_14, 262, .inl fx5_14)), (ax5_12, .inl (cx5_12, 262, .inl fx5_12)), (h0, .inr (5, [.int xx5_0, .int xx5_1, .ref ax5_2, .ref ax5_3, .ref ax5_4, .ref ax5_5, .ref ax5_6, .ref ax5_7, .ref ax5_8, .ref ax5_9, .ref ax5_10, .ref ax5_11, .ref ax5_12, .ref ax5_13, .ref ax5_14, .ref ax5_15, .ref ax5_16])), (ax5_13, .inl (cx5_13, 262, .inl fx5_13))] H := hP
      have hD : va_D A [(ax5_14, .inl (cx5_14, 262, .inl fx5_14)), (ax5_12, .inl (cx5_12, 262, .inl fx5_12)), (h0, .inr (5, [.int xx5_0, .int xx5_1, .ref ax5_2, .ref ax5_3, .ref ax5_4, .ref ax5_5, .ref ax5_6, .ref ax5_7, .ref ax5_8, .ref ax5_9, .ref ax5_10, .ref ax5_11, .ref ax5_12, .ref ax5_13, .ref ax5_14, .ref ax5_15, .ref ax5_16])), (ax5_13, .inl (cx5_13, 262, .inl fx5_13))] := hD
      rcases hw with q_5 | rfl
      · refine lv_goto (tgt := 19) hx hb dX5_branchOf_15 (by decide) ?_
        refine lv_istore_n (lv' := [(3, .int r_4), (0, .ref h0), (1, .int p0), (2, .int p1)]) hx hb dX5_branchOf_19 rfl hl (by decide) rfl (fun ls hl => ?_)
        refine lv_iconst (v := 0) hx hb dX5_branchOf_20 (by decide) ?_
        refine lv_istore (lv' := [(4, .int 0), (3, .int r_4), (0, .ref h0), (1, .int p0), (2, .int p1)]) hx hb dX5_branchOf_21 hl (by decide) rfl (fun ls hl => ?_)
        exact s_X5_branchOf_L l dC dI h0 xx5_0 xx5_1 ax5_2 ax5_3 ax5_4 ax5_5 ax5_6 ax5_7 ax5_8 ax5_9 ax5_10 ax5_11 ax5_12 cx5_12 fx5_12 ax5_13 cx5_13 fx5_13 ax5_14 cx5_14 fx5_14 ax5_15 ax5_16 p0 p1 hi_xx5_0 hi_xx5_1 A hx hb hr hml hown hts hlocks hA hN (hK.sub [0, 1, 2] rfl) _ (0 : Int32) r_4 _ _ _ (Nat.lt_succ_self _) ⟨by decide, by decide⟩ (hP.sub [3, 0, 2, 1] rfl) (hD.sub [3, 0, 2, 1] (by decide) rfl) hS (lv_sub hl [0, 1, 2, 3, 4] rfl)
      · refine lv_goto (tgt := 19) hx hb dX5_branchOf_15 (by decide) ?_
        refine lv_istore_n (lv' := [(3, .int (-1)), (0, .ref h0), (1, .int p0), (2, .int p1)]) hx hb dX5_branchOf_19 rfl hl (by decide) rfl (fun ls hl => ?_)
        refine lv_iconst (v := 0) hx hb dX5_branchOf_20 (by decide) ?_
        refine lv_istore (lv' := [(4, .int 0), (3, .int (-1)), (0, .ref h0), (1, .int p0), (2, .int p1)]) hx hb dX5_branchOf_21 hl (by decide) rfl (fun ls hl => ?_)
        exact s_X5_branchOf_L l dC dI h0 xx5_0 xx5_1 ax5_2 ax5_3 ax5_4 ax5_5 ax5_6 ax5_7 ax5_8 ax5_9 ax5_10 ax5_11 ax5_12 cx5_12 fx5_12 ax5_13 cx5_13 fx5_13 ax5_14 cx5_14 fx5_14 ax5_15 ax5_16 p0 p1 hi_xx5_0 hi_xx5_1 A hx hb hr hml hown hts hlocks hA hN (hK.sub [0, 1, 2] rfl) _ (0 : Int32) ((-1) : Int32) _ _ _ (Nat.lt_succ_self _) ⟨by decide, by decide⟩ (hP.sub [3, 0, 2, 1] rfl) (hD.sub [3, 0, 2, 1] (by decide) rfl) hS (lv_sub hl [0, 1, 2, 3, 4] rfl)
  · refine lv_bipush (v := 8) hx hb dX5_branchOf_5 (by decide) ?_
    refine lv_icmp_ne (tgt := 18) hx hb dX5_branchOf_7 (by decide) (fun _ => ?_) (fun h => absurd h (by decide))
    refine lv_iconst (v := (-1)) hx hb dX5_branchOf_18 (by decide) ?_
    refine lv_istore_n (lv' := [(3, .int (-1)), (0, .ref h0), (1, .int p0), (2, .int p1)]) hx hb dX5_branchOf_19 rfl hl (by decide) rfl (fun ls hl => ?_)
    refine lv_iconst (v := 0) hx hb dX5_branchOf_20 (by decide) ?_
    refine lv_istore (lv' := [(4, .int 0), (3, .int (-1)), (0, .ref h0), (1, .int p0), (2, .int p1)]) hx hb dX5_branchOf_21 hl (by decide) rfl (fun ls hl => ?_)
    exact s_X5_branchOf_L l dC dI h0 xx5_0 xx5_1 ax5_2 ax5_3 ax5_4 ax5_5 ax5_6 ax5_7 ax5_8 ax5_9 ax5_10 ax5_11 ax5_12 cx5_12 fx5_12 ax5_13 cx5_13 fx5_13 ax5_14 cx5_14 fx5_14 ax5_15 ax5_16 p0 p1 hi_xx5_0 hi_xx5_1 A hx hb hr hml hown hts hlocks hA hN (hK.sub [0, 1, 2] rfl) _ (0 : Int32) ((-1) : Int32) _ _ _ (Nat.lt_succ_self _) ⟨by decide, by decide⟩ (hP.sub [0, 1, 2, 3] rfl) (hD.sub [0, 1, 2, 3] (by decide) rfl) hS (lv_sub hl [0, 1, 2, 3, 4] rfl)

set_option maxRecDepth 100000 in
set_option maxHeartbeats 4000000 in
theorem s_X5_firstChoice (l : Launch) (dC : Nat → ClassId) (dI : Nat → Nat → Nat) (h0 : Nat) (xx5_0 : Int32) (xx5_1 : Int32) (ax5_2 : Nat) (ax5_3 : Nat) (ax5_4 : Nat) (ax5_5 : Nat) (ax5_6 : Nat) (ax5_7 : Nat) (ax5_8 : Nat) (ax5_9 : Nat) (ax5_10 : Nat) (ax5_11 : Nat) (ax5_12 : Nat) (cx5_12 : ClassId) (fx5_12 : Nat → Int32) (ax5_13 : Nat) (cx5_13 : ClassId) (fx5_13 : Nat → Int32) (ax5_14 : Nat) (ax5_15 : Nat) (ax5_16 : Nat) (p0 : Int32) (hi_xx5_0 : (0 : Int) ≤ xx5_0.toInt ∧ xx5_0.toInt ≤ (6 : Int)) (hi_xx5_1 : (0 : Int) ≤ xx5_1.toInt ∧ xx5_1.toInt ≤ (262 : Int)) (sz : Nat) : Met l yX5_firstChoice (.code yX5_firstChoice cX5_firstChoice 2 (some .int) :: pw) ({ frames := 2, cells := 0, slots := 0, locals := 42 }) (va_Pc [.ref h0, .int p0] (vPre dC dI [(h0, .inr (5, [.int xx5_0, .int xx5_1, .ref ax5_2, .ref ax5_3, .ref ax5_4, .ref ax5_5, .ref ax5_6, .ref ax5_7, .ref ax5_8, .ref ax5_9, .ref ax5_10, .ref ax5_11, .ref ax5_12, .ref ax5_13, .ref ax5_14, .ref ax5_15, .ref ax5_16])), (ax5_12, .inl (cx5_12, 262, .inl fx5_12)), (ax5_13, .inl (cx5_13, 262, .inl fx5_13))] [(cx5_12, .int), (cx5_13, .int)] sz)) (va_Qi (fun (r : Int32) (_ : Unit) => (r = (fx5_13 p0.toNatClampNeg)) ∨ (r = p0) ∨ (r = (-1))) (fun (_ : Unit) t => vPst dC dI (va_A [(h0, .inr (5, [.int xx5_0, .int xx5_1, .ref ax5_2, .ref ax5_3, .ref ax5_4, .ref ax5_5, .ref ax5_6, .ref ax5_7, .ref ax5_8, .ref ax5_9, .ref ax5_10, .ref ax5_11, .ref ax5_12, .ref ax5_13, .ref ax5_14, .ref ax5_15, .ref ax5_16])), (ax5_12, .inl (cx5_12, 262, .inl fx5_12)), (ax5_13, .inl (cx5_13, 262, .inl fx5_13))] sz) [(h0, .inr (5, [.int xx5_0, .int xx5_1, .ref ax5_2, .ref ax5_3, .ref ax5_4, .ref ax5_5, .ref ax5_6, .ref ax5_7, .ref ax5_8, .ref ax5_9, .ref ax5_10, .ref ax5_11, .ref ax5_12, .ref ax5_13, .ref ax5_14, .ref ax5_15, .ref ax5_16])), (ax5_12, .inl (cx5_12, 262, .inl fx5_12)), (ax5_13, .inl (cx5_13, 262, .inl fx5_13))] [(cx5_12, .int), (cx5_13, .int)] t) (va_A [(h0, .inr (5, [.int xx5_0, .int xx5_1, .ref ax5_2, .ref ax5_3, .ref ax5_4, .ref ax5_5, .ref ax5_6, .ref ax5_7, .ref ax5_8, .ref ax5_9, .ref ax5_10, .ref ax5_11, .ref ax5_12, .ref ax5_13, .ref ax5_14, .ref ax5_15, .ref ax5_16])), (ax5_12, .inl (cx5_12, 262, .inl fx5_12)), (ax5_13, .inl (cx5_13, 262, .inl fx5_13))] sz)) 0 0 (va_A [(h0, .inr (5, [.int xx5_0, .int xx5_1, .ref ax5_2, .ref ax5_3, .ref ax5_4, .ref ax5_5, .ref ax5_6, .ref ax5_7, .ref ax5_8, .ref ax5_9, .ref ax5_10, .ref ax5_11, .ref ax5_12, .ref ax5_13, .ref ax5_14, .ref ax5_15, .ref ax5_16])), (ax5_12, .inl (cx5_12, 262, .inl fx5_12)), (ax5_13, .inl (cx5_13, 262, .inl fx5_13))] sz) := by
  refine Met.ofW (cc := cX5_firstChoice) (maxL := 2) (ret := (some .int)) (by decide) rfl ?_
  intro p e s m args below meth c s₁ B hml hv
  obtain ⟨rfl, hsz, hP, hK, hD0, hN⟩ := hv
  have hx := B.exec
  have hb := B.bytes
  have hr := B.returns
  have hts := atoms_spec (ws := .code yX5_firstChoice cX5_firstChoice 2 (some .int) :: pw) B.pre
  have hts : ∀ w ∈ pw, w.before _ s = true := fun w h => hts w (List.mem_cons_of_mem _ h)
  have hown : s.vm.findClass RX5 = some m.cls := findClass_of_methodNamed B.named
  have hlocks := B.notSynchronized
  subst hsz
  have hD := hD0.self (sz := s.heap.size)
  generalize hAe : va_A [(h0, .inr (5, [.int xx5_0, .int xx5_1, .ref ax5_2, .ref ax5_3, .ref ax5_4, .ref ax5_5, .ref ax5_6, .ref ax5_7, .ref ax5_8, .ref ax5_9, .ref ax5_10, .ref ax5_11, .ref ax5_12, .ref ax5_13, .ref ax5_14, .ref ax5_15, .ref ax5_16])), (ax5_12, .inl (cx5_12, 262, .inl fx5_12)), (ax5_13, .inl (cx5_13, 262, .inl fx5_13))] s.heap.size = A at hD ⊢
  have hA : ∀ q : Nat, s.heap.size ≤ q → A q := fun q h => by rw [← hAe]; exact Or.inr h
  have hS : va_S A s.heap s.heap [] := va_S.rf
  have hP : va_P (dC, dI) vwCl [(h0, .inr (5, [.int xx5_0, .int xx5_1, .ref ax5_2, .ref ax5_3, .ref ax5_4, .ref ax5_5, .ref ax5_6, .ref ax5_7, .ref ax5_8, .ref ax5_9, .ref ax5_10, .ref ax5_11, .ref ax5_12, .ref ax5_13, .ref ax5_14, .ref ax5_15, .ref ax5_16])), (ax5_12, .inl (cx5_12, 262, .inl fx5_12)), (ax5_13, .inl (cx5_13, 262, .inl fx5_13))] s.heap := hP
  have hl := lv_entry ([.ref h0, .int p0]) (n := 2) (Nat.le_of_ble_eq_true rfl)
  rw [lg_entry_eq]
  generalize (lg_sl ([.ref h0, .int p0]) ++ List.replicate (2 - (lg_sl ([.ref h0, .int p0])).length) Slot.unset).toArray = ls at hl ⊢
  have hl : lv_has ls 2 [(0, .ref h0), (1, .int p0)] := hl
  refine lv_aload_n hx hb dX5_firstChoice_0 rfl (lv_at hl 0 rfl) ?_
  refine lv_iload_n hx hb dX5_firstChoice_1 rfl (lv_at hl 1 rfl) ?_
  have hPc := hP.sub (ws' := [(h0, .inr (5, [.int xx5_0, .int xx5_1, .ref ax5_2, .ref ax5_3, .ref ax5_4, .ref ax5_5, .ref ax5_6, .ref ax5_7, .ref ax5_8, .ref ax5_9, .ref ax5_10, .ref ax5_11, .ref ax5_12, .ref ax5_13, .ref ax5_14, .ref ax5_15, .ref ax5_16])), (ax5_12, .inl (cx5_12, 262, .inl fx5_12))]) [0, 1] rfl
  have hDc := hD.sub (ws' := [(h0, .inr (5, [.int xx5_0, .int xx5_1, .ref ax5_2, .ref ax5_3, .ref ax5_4, .ref ax5_5, .ref ax5_6, .ref ax5_7, .ref ax5_8, .ref ax5_9, .ref ax5_10, .ref ax5_11, .ref ax5_12, .ref ax5_13, .ref ax5_14, .ref ax5_15, .ref ax5_16])), (ax5_12, .inl (cx5_12, 262, .inl fx5_12))]) [0, 1] (by decide) rfl
  have hKc := hK.sub (tys' := [(cx5_12, .int)]) [0] rfl
  have hFc := va_free (wc := [(h0, .inr (5, [.int xx5_0, .int xx5_1, .ref ax5_2, .ref ax5_3, .ref ax5_4, .ref ax5_5, .ref ax5_6, .ref ax5_7, .ref ax5_8, .ref ax5_9, .ref ax5_10, .ref ax5_11, .ref ax5_12, .ref ax5_13, .ref ax5_14, .ref ax5_15, .ref ax5_16])), (ax5_12, .inl (cx5_12, 262, .inl fx5_12))]) hD hS hA [0, 1] rfl
  refine va_calli (va_runV (As := [.int p0]) (rest := []) ⟨hx, hb, hml, hown, hts⟩ (s_X5_sortOf l dC dI h0 xx5_0 xx5_1 ax5_2 ax5_3 ax5_4 ax5_5 ax5_6 ax5_7 ax5_8 ax5_9 ax5_10 ax5_11 ax5_12 cx5_12 fx5_12 ax5_13 ax5_14 ax5_15 ax5_16 p0 (by have a0 := hi_xx5_0.1; have a1 := hi_xx5_0.2; omega) (by have a0 := hi_xx5_1.1; have a1 := hi_xx5_1.2; omega) s.heap.size) (cwV 1 hts (gV mw_15_6 mw_2_13 mw_2_14 mw_0_9 mw_49_6) rfl rfl rfl (by decide +kernel) ⟨(Nat.le_of_ble_eq_true rfl), (Nat.le_of_ble_eq_true rfl)⟩) (vV (ci := 5) (q0 := 0) hKc hPc hDc hN rfl rfl) rfl rfl hl.1 rfl (lv_room (Nat.le_of_ble_eq_true rfl)) dX5_firstChoice_2 ⟨(Nat.le_of_ble_eq_true rfl), (Nat.le_of_ble_eq_true rfl)⟩) hS (fun q _ h => hFc q h) hFc (fun r_1 u t H1 locs ht hvm hw hB hz1 hk1 hS => ?_)
  obtain ⟨hP1, hK1, hD1⟩ := hB
  rw [ht] at hP1
  have hK1 := va_K.moved hvm.symm hK1
  obtain ⟨hP, hD⟩ := va_join (wr := [(ax5_13, .inl (cx5_13, 262, .inl fx5_13))]) (w1 := [(h0, .inr (5, [.int xx5_0, .int xx5_1, .ref ax5_2, .ref ax5_3, .ref ax5_4, .ref ax5_5, .ref ax5_6, .ref ax5_7, .ref ax5_8, .ref ax5_9, .ref ax5_10, .ref ax5_11, .ref ax5_12, .ref ax5_13, .ref ax5_14, .ref ax5_15, .ref ax5_16])), (ax5_12, .inl (cx5_12, 262, .inl fx5_12))]) hP hD [0, 1] [2] rfl rfl (by decide) (by decide) hk1 hFc hP1 hD1
  clear hPc hDc hKc hP1 hK1 hD1 hFc hk1 hz1
  generalize H1 = H at hP hS ⊢
  have hP : va_P (dC, dI) vwCl [(ax5_13, .inl (cx5_13, 262, .inl fx5_13)), (h0, .inr (5, [.int xx5_0, .int xx5_1, .ref ax5_2, .ref ax5_3, .ref ax5_4, .ref ax5_5, .ref ax5_6, .ref ax5_7, .ref ax5_8, .ref ax5_9, .ref ax5_10, .ref ax5_11, .ref ax5_12, .ref ax5_13, .ref ax5_14, .ref ax5_15, .ref ax5_16])), (ax5_12, .inl (cx5_12, 262, .inl fx5_12))] H := hP
  have hD : va_D A [(ax5_13, .inl (cx5_13, 262, .inl fx5_13)), (h0, .inr (5, [.int xx5_0, .int xx5_1, .ref ax5_2, .ref ax5_3, .ref ax5_4, .ref ax5_5, .ref ax5_6, .ref ax5_7, .ref ax5_8, .ref ax5_9, .ref ax5_10, .ref ax5_11, .ref ax5_12, .ref ax5_13, .ref ax5_14, .ref ax5_15, .ref ax5_16])), (ax5_12, .inl (cx5_12, 262, .inl fx5_12))] := hD
  rcases hw with q_2 | rfl
  · refine lv_bipush (v := 8) hx hb dX5_firstChoice_5 (by decide) ?_
    refine lv_icmp_ne (tgt := 18) hx hb dX5_firstChoice_7 (by decide) (fun c_3 => ?_) (fun c_3 => ?_)
    · refine lv_iload_n hx hb dX5_firstChoice_18 rfl (lv_at hl 1 rfl) ?_
      have hP9 := hP.sub (ws' := [(h0, .inr (5, [.int xx5_0, .int xx5_1, .ref ax5_2, .ref ax5_3, .ref ax5_4, .ref ax5_5, .ref ax5_6, .ref ax5_7, .ref ax5_8, .ref ax5_9, .ref ax5_10, .ref ax5_11, .ref ax5_12, .ref ax5_13, .ref ax5_14, .ref ax5_15, .ref ax5_16])), (ax5_12, .inl (cx5_12, 262, .inl fx5_12)), (ax5_13, .inl (cx5_13, 262, .inl fx5_13))]) [1, 2, 0] rfl
      have hD9 := hD.sub (ws' := [(h0, .inr (5, [.int xx5_0, .int xx5_1, .ref ax5_2, .ref ax5_3, .ref ax5_4, .ref ax5_5, .ref ax5_6, .ref ax5_7, .ref ax5_8, .ref ax5_9, .ref ax5_10, .ref ax5_11, .ref ax5_12, .ref ax5_13, .ref ax5_14, .ref ax5_15, .ref ax5_16])), (ax5_12, .inl (cx5_12, 262, .inl fx5_12)), (ax5_13, .inl (cx5_13, 262, .inl fx5_13))]) [1, 2, 0] (by decide) rfl
      have hK9 := hK.sub (tys' := [(cx5_12, .int), (cx5_13, .int)]) [0, 1] rfl
      refine W.widen (k := 0) (n := 0) (Nat.le_of_ble_eq_true rfl) (Nat.le_of_ble_eq_true rfl) ?_
      exact W.iret (v := p0) hx hb hr (fun t ht hW => ⟨⟨p0, (), rfl, Or.inr (Or.inl (rfl)), by rw [ht]; exact hP9, va_K.moved hW.alike hK9, hD9⟩, hS.F ht⟩) hS.2.2 dX5_firstChoice_19
    · refine lv_aload_n hx hb dX5_firstChoice_10 rfl (lv_at hl 0 rfl) ?_
      refine lv_iload_n hx hb dX5_firstChoice_11 rfl (lv_at hl 1 rfl) ?_
      have hPc := hP.sub (ws' := [(h0, .inr (5, [.int xx5_0, .int xx5_1, .ref ax5_2, .ref ax5_3, .ref ax5_4, .ref ax5_5, .ref ax5_6, .ref ax5_7, .ref ax5_8, .ref ax5_9, .ref ax5_10, .ref ax5_11, .ref ax5_12, .ref ax5_13, .ref ax5_14, .ref ax5_15, .ref ax5_16])), (ax5_13, .inl (cx5_13, 262, .inl fx5_13))]) [1, 0] rfl
      have hDc := hD.sub (ws' := [(h0, .inr (5, [.int xx5_0, .int xx5_1, .ref ax5_2, .ref ax5_3, .ref ax5_4, .ref ax5_5, .ref ax5_6, .ref ax5_7, .ref ax5_8, .ref ax5_9, .ref ax5_10, .ref ax5_11, .ref ax5_12, .ref ax5_13, .ref ax5_14, .ref ax5_15, .ref ax5_16])), (ax5_13, .inl (cx5_13, 262, .inl fx5_13))]) [1, 0] (by decide) rfl
      have hKc := hK.sub (tys' := [(cx5_13, .int)]) [1] rfl
      have hFc := va_free (wc := [(h0, .inr (5, [.int xx5_0, .int xx5_1, .ref ax5_2, .ref ax5_3, .ref ax5_4, .ref ax5_5, .ref ax5_6, .ref ax5_7, .ref ax5_8, .ref ax5_9, .ref ax5_10, .ref ax5_11, .ref ax5_12, .ref ax5_13, .ref ax5_14, .ref ax5_15, .ref ax5_16])), (ax5_13, .inl (cx5_13, 262, .inl fx5_13))]) hD hS hA [1, 0] rfl
      refine va_calli (va_runV (As := [.int p0]) (rest := []) ⟨hx, hb, hml, hown, hts⟩ (s_X5_innerOf l dC dI h0 xx5_0 xx5_1 ax5_2 ax5_3 ax5_4 ax5_5 ax5_6 ax5_7 ax5_8 ax5_9 ax5_10 ax5_11 ax5_12 ax5_13 cx5_13 fx5_13 ax5_14 ax5_15 ax5_16 p0 (by have a0 := hi_xx5_0.1; have a1 := hi_xx5_0.2; omega) (by have a0 := hi_xx5_1.1; have a1 := hi_xx5_1.2; omega) H.size) (cwV 1 hts (gV mw_15_7 mw_2_16 mw_2_17 mw_0_9 mw_49_7) rfl rfl rfl (by decide +kernel) ⟨(Nat.le_of_ble_eq_true rfl), (Nat.le_of_ble_eq_true rfl)⟩) (vV (ci := 5) (q0 := 0) hKc hPc hDc hN rfl rfl) rfl rfl hl.1 rfl (lv_room (Nat.le_of_ble_eq_true rfl)) dX5_firstChoice_12 ⟨(Nat.le_of_ble_eq_true rfl), (Nat.le_of_ble_eq_true rfl)⟩) hS (fun q _ h => hFc q h) hFc (fun r_4 u t H1 locs ht hvm hw hB hz1 hk1 hS => ?_)
      obtain ⟨hP1, hK1, hD1⟩ := hB
      rw [ht] at hP1
      have hK1 := va_K.moved hvm.symm hK1
      obtain ⟨hP, hD⟩ := va_join (wr := [(ax5_12, .inl (cx5_12, 262, .inl fx5_12))]) (w1 := [(h0, .inr (5, [.int xx5_0, .int xx5_1, .ref ax5_2, .ref ax5_3, .ref ax5_4, .ref ax5_5, .ref ax5_6, .ref ax5_7, .ref ax5_8, .ref ax5_9, .ref ax5_10, .ref ax5_11, .ref ax5_12, .ref ax5_13, .ref ax5_14, .ref ax5_15, .ref ax5_16])), (ax5_13, .inl (cx5_13, 262, .inl fx5_13))]) hP hD [1, 0] [2] rfl rfl (by decide) (by decide) hk1 hFc hP1 hD1
      clear hPc hDc hKc hP1 hK1 hD1 hFc hk1 hz1
      generalize H1 = H at hP hS ⊢
      have hP : va_P (dC, dI) vwCl [(ax5_12, .inl (cx5_12, 262, .inl fx5_12)), (h0, .inr (5, [.int xx5_0, .int xx5_1, .ref ax5_2, .ref ax5_3, .ref ax5_4, .ref ax5_5, .ref ax5_6, .ref ax5_7, .ref ax5_8, .ref ax5_9, .ref ax5_10, .ref ax5_11, .ref ax5_12, .ref ax5_13, .ref ax5_14, .ref ax5_15, .ref ax5_16])), (ax5_13, .inl (cx5_13, 262, .inl fx5_13))] H := hP
      have hD : va_D A [(ax5_12, .inl (cx5_12, 262, .inl fx5_12)), (h0, .inr (5, [.int xx5_0, .int xx5_1, .ref ax5_2, .ref ax5_3, .ref ax5_4, .ref ax5_5, .ref ax5_6, .ref ax5_7, .ref ax5_8, .ref ax5_9, .ref ax5_10, .ref ax5_11, .ref ax5_12, .ref ax5_13, .ref ax5_14, .ref ax5_15, .ref ax5_16])), (ax5_13, .inl (cx5_13, 262, .inl fx5_13))] := hD
      rcases hw with q_5 | rfl
      · refine lv_goto (tgt := 19) hx hb dX5_firstChoice_15 (by decide) ?_
        have hP9 := hP.sub (ws' := [(h0, .inr (5, [.int xx5_0, .int xx5_1, .ref ax5_2, .ref ax5_3, .ref ax5_4, .ref ax5_5, .ref ax5_6, .ref ax5_7, .ref ax5_8, .ref ax5_9, .ref ax5_10, .ref ax5_11, .ref ax5_12, .ref ax5_13, .ref ax5_14, .ref ax5_15, .ref ax5_16])), (ax5_12, .inl (cx5_12, 262, .inl fx5_12)), (ax5_13, .inl (cx5_13, 262, .inl fx5_13))]) [1, 0, 2] rfl
        have hD9 := hD.sub (ws' := [(h0, .inr (5, [.int xx5_0, .int xx5_1, .ref ax5_2, .ref ax5_3, .ref ax5_4, .ref ax5_5, .ref ax5_6, .ref ax5_7, .ref ax5_8, .ref ax5_9, .ref ax5_10, .ref ax5_11, .ref ax5_12, .ref ax5_13, .ref ax5_14, .ref ax5_15, .ref ax5_16])), (ax5_12, .inl (cx5_12, 262, .inl fx5_12)), (ax5_13, .inl (cx5_13, 262, .inl fx5_13))]) [1, 0, 2] (by decide) rfl
        have hK9 := hK.sub (tys' := [(cx5_12, .int), (cx5_13, .int)]) [0, 1] rfl
        refine W.widen (k := 0) (n := 0) (Nat.le_of_ble_eq_true rfl) (Nat.le_of_ble_eq_true rfl) ?_
        exact W.iret (v := r_4) hx hb hr (fun t ht hW => ⟨⟨r_4, (), rfl, Or.inl ((by rw [q_5])), by rw [ht]; exact hP9, va_K.moved hW.alike hK9, hD9⟩, hS.F ht⟩) hS.2.2 dX5_firstChoice_19
      · refine lv_goto (tgt := 19) hx hb dX5_firstChoice_15 (by decide) ?_
        have hP9 := hP.sub (ws' := [(h0, .inr (5, [.int xx5_0, .int xx5_1, .ref ax5_2, .ref ax5_3, .ref ax5_4, .ref ax5_5, .ref ax5_6, .ref ax5_7, .ref ax5_8, .ref ax5_9, .ref ax5_10, .ref ax5_11, .ref ax5_12, .ref ax5_13, .ref ax5_14, .ref ax5_15, .ref ax5_16])), (ax5_12, .inl (cx5_12, 262, .inl fx5_12)), (ax5_13, .inl (cx5_13, 262, .inl fx5_13))]) [1, 0, 2] rfl
        have hD9 := hD.sub (ws' := [(h0, .inr (5, [.int xx5_0, .int xx5_1, .ref ax5_2, .ref ax5_3, .ref ax5_4, .ref ax5_5, .ref ax5_6, .ref ax5_7, .ref ax5_8, .ref ax5_9, .ref ax5_10, .ref ax5_11, .ref ax5_12, .ref ax5_13, .ref ax5_14, .ref ax5_15, .ref ax5_16])), (ax5_12, .inl (cx5_12, 262, .inl fx5_12)), (ax5_13, .inl (cx5_13, 262, .inl fx5_13))]) [1, 0, 2] (by decide) rfl
        have hK9 := hK.sub (tys' := [(cx5_12, .int), (cx5_13, .int)]) [0, 1] rfl
        refine W.widen (k := 0) (n := 0) (Nat.le_of_ble_eq_true rfl) (Nat.le_of_ble_eq_true rfl) ?_
        exact W.iret (v := (-1)) hx hb hr (fun t ht hW => ⟨⟨(-1), (), rfl, Or.inr (Or.inr (rfl)), by rw [ht]; exact hP9, va_K.moved hW.alike hK9, hD9⟩, hS.F ht⟩) hS.2.2 dX5_firstChoice_19
  · refine lv_bipush (v := 8) hx hb dX5_firstChoice_5 (by decide) ?_
    refine lv_icmp_ne (tgt := 18) hx hb dX5_firstChoice_7 (by decide) (fun _ => ?_) (fun h => absurd h (by decide))
    refine lv_iload_n hx hb dX5_firstChoice_18 rfl (lv_at hl 1 rfl) ?_
    have hP9 := hP.sub (ws' := [(h0, .inr (5, [.int xx5_0, .int xx5_1, .ref ax5_2, .ref ax5_3, .ref ax5_4, .ref ax5_5, .ref ax5_6, .ref ax5_7, .ref ax5_8, .ref ax5_9, .ref ax5_10, .ref ax5_11, .ref ax5_12, .ref ax5_13, .ref ax5_14, .ref ax5_15, .ref ax5_16])), (ax5_12, .inl (cx5_12, 262, .inl fx5_12)), (ax5_13, .inl (cx5_13, 262, .inl fx5_13))]) [1, 2, 0] rfl
    have hD9 := hD.sub (ws' := [(h0, .inr (5, [.int xx5_0, .int xx5_1, .ref ax5_2, .ref ax5_3, .ref ax5_4, .ref ax5_5, .ref ax5_6, .ref ax5_7, .ref ax5_8, .ref ax5_9, .ref ax5_10, .ref ax5_11, .ref ax5_12, .ref ax5_13, .ref ax5_14, .ref ax5_15, .ref ax5_16])), (ax5_12, .inl (cx5_12, 262, .inl fx5_12)), (ax5_13, .inl (cx5_13, 262, .inl fx5_13))]) [1, 2, 0] (by decide) rfl
    have hK9 := hK.sub (tys' := [(cx5_12, .int), (cx5_13, .int)]) [0, 1] rfl
    refine W.widen (k := 0) (n := 0) (Nat.le_of_ble_eq_true rfl) (Nat.le_of_ble_eq_true rfl) ?_
    exact W.iret (v := p0) hx hb hr (fun t ht hW => ⟨⟨p0, (), rfl, Or.inr (Or.inl (rfl)), by rw [ht]; exact hP9, va_K.moved hW.alike hK9, hD9⟩, hS.F ht⟩) hS.2.2 dX5_firstChoice_19

set_option maxRecDepth 100000 in
set_option maxHeartbeats 4000000 in
theorem s_X5_addType (l : Launch) (dC : Nat → ClassId) (dI : Nat → Nat → Nat) (h0 : Nat) (xx5_0 : Int32) (xx5_1 : Int32) (ax5_2 : Nat) (ax5_3 : Nat) (ax5_4 : Nat) (ax5_5 : Nat) (ax5_6 : Nat) (ax5_7 : Nat) (ax5_8 : Nat) (ax5_9 : Nat) (ax5_10 : Nat) (ax5_11 : Nat) (ax5_12 : Nat) (cx5_12 : ClassId) (fx5_12 : Nat → Int32) (ax5_13 : Nat) (cx5_13 : ClassId) (fx5_13 : Nat → Int32) (ax5_14 : Nat) (cx5_14 : ClassId) (fx5_14 : Nat → Int32) (ax5_15 : Nat) (cx5_15 : ClassId) (fx5_15 : Nat → Int64) (ax5_16 : Nat) (cx5_16 : ClassId) (fx5_16 : Nat → Int32) (p0 : Int32) (hi_xx5_0 : (0 : Int) ≤ xx5_0.toInt ∧ xx5_0.toInt ≤ (6 : Int)) (hi_xx5_1 : (0 : Int) ≤ xx5_1.toInt ∧ xx5_1.toInt ≤ (262 : Int)) (sz : Nat) : Met l yX5_addType (.code yX5_addType cX5_addType 3 (some .int) :: pw) ({ frames := 0, cells := 0, slots := 0, locals := 0 }) (va_Pc [.ref h0, .int p0] (vPre dC dI [(h0, .inr (5, [.int xx5_0, .int xx5_1, .ref ax5_2, .ref ax5_3, .ref ax5_4, .ref ax5_5, .ref ax5_6, .ref ax5_7, .ref ax5_8, .ref ax5_9, .ref ax5_10, .ref ax5_11, .ref ax5_12, .ref ax5_13, .ref ax5_14, .ref ax5_15, .ref ax5_16])), (ax5_12, .inl (cx5_12, 262, .inl fx5_12)), (ax5_13, .inl (cx5_13, 262, .inl fx5_13)), (ax5_14, .inl (cx5_14, 262, .inl fx5_14)), (ax5_15, .inl (cx5_15, 262, .inr (.inl fx5_15))), (ax5_16, .inl (cx5_16, 262, .inl fx5_16))] [(cx5_12, .int), (cx5_13, .int), (cx5_14, .int), (cx5_15, .long), (cx5_16, .int)] sz)) (va_Qi (fun (r : Int32) (_ : Unit) => (r = xx5_1 ∧ xx5_1 < 262) ∨ (r = (-1) ∧ ¬ xx5_1 < 262)) (fun (_ : Unit) t => ∃ (y0_1 : Int32), ((0 : Int) ≤ y0_1.toInt ∧ y0_1.toInt ≤ 262) ∧ ∃ (z1 : Nat → Int32), ∃ (z2 : Nat → Int32), ∃ (z3 : Nat → Int32), ∃ (z4 : Nat → Int64), ∃ (z5 : Nat → Int32), vPst dC dI (va_A [(h0, .inr (5, [.int xx5_0, .int xx5_1, .ref ax5_2, .ref ax5_3, .ref ax5_4, .ref ax5_5, .ref ax5_6, .ref ax5_7, .ref ax5_8, .ref ax5_9, .ref ax5_10, .ref ax5_11, .ref ax5_12, .ref ax5_13, .ref ax5_14, .ref ax5_15, .ref ax5_16])), (ax5_12, .inl (cx5_12, 262, .inl fx5_12)), (ax5_13, .inl (cx5_13, 262, .inl fx5_13)), (ax5_14, .inl (cx5_14, 262, .inl fx5_14)), (ax5_15, .inl (cx5_15, 262, .inr (.inl fx5_15))), (ax5_16, .inl (cx5_16, 262, .inl fx5_16))] sz) [(h0, .inr (5, [.int xx5_0, .int y0_1, .ref ax5_2, .ref ax5_3, .ref ax5_4, .ref ax5_5, .ref ax5_6, .ref ax5_7, .ref ax5_8, .ref ax5_9, .ref ax5_10, .ref ax5_11, .ref ax5_12, .ref ax5_13, .ref ax5_14, .ref ax5_15, .ref ax5_16])), (ax5_12, .inl (cx5_12, 262, .inl z1)), (ax5_13, .inl (cx5_13, 262, .inl z2)), (ax5_14, .inl (cx5_14, 262, .inl z3)), (ax5_15, .inl (cx5_15, 262, .inr (.inl z4))), (ax5_16, .inl (cx5_16, 262, .inl z5))] [(cx5_12, .int), (cx5_13, .int), (cx5_14, .int), (cx5_15, .long), (cx5_16, .int)] t) (va_A [(h0, .inr (5, [.int xx5_0, .int xx5_1, .ref ax5_2, .ref ax5_3, .ref ax5_4, .ref ax5_5, .ref ax5_6, .ref ax5_7, .ref ax5_8, .ref ax5_9, .ref ax5_10, .ref ax5_11, .ref ax5_12, .ref ax5_13, .ref ax5_14, .ref ax5_15, .ref ax5_16])), (ax5_12, .inl (cx5_12, 262, .inl fx5_12)), (ax5_13, .inl (cx5_13, 262, .inl fx5_13)), (ax5_14, .inl (cx5_14, 262, .inl fx5_14)), (ax5_15, .inl (cx5_15, 262, .inr (.inl fx5_15))), (ax5_16, .inl (cx5_16, 262, .inl fx5_16))] sz)) 0 0 (va_A [(h0, .inr (5, [.int xx5_0, .int xx5_1, .ref ax5_2, .ref ax5_3, .ref ax5_4, .ref ax5_5, .ref ax5_6, .ref ax5_7, .ref ax5_8, .ref ax5_9, .ref ax5_10, .ref ax5_11, .ref ax5_12, .ref ax5_13, .ref ax5_14, .ref ax5_15, .ref ax5_16])), (ax5_12, .inl (cx5_12, 262, .inl fx5_12)), (ax5_13, .inl (cx5_13, 262, .inl fx5_13)), (ax5_14, .inl (cx5_14, 262, .inl fx5_14)), (ax5_15, .inl (cx5_15, 262, .inr (.inl fx5_15))), (ax5_16, .inl (cx5_16, 262, .inl fx5_16))] sz) := by
  refine Met.ofW (cc := cX5_addType) (maxL := 3) (ret := (some .int)) (by decide) rfl ?_
  intro p e s m args below meth c s₁ B hml hv
  obtain ⟨rfl, hsz, hP, hK, hD0, hN⟩ := hv
  have hx := B.exec
  have hb := B.bytes
  have hr := B.returns
  have hts := atoms_spec (ws := .code yX5_addType cX5_addType 3 (some .int) :: pw) B.pre
  have hts : ∀ w ∈ pw, w.before _ s = true := fun w h => hts w (List.mem_cons_of_mem _ h)
  have hown : s.vm.findClass RX5 = some m.cls := findClass_of_methodNamed B.named
  have hlocks := B.notSynchronized
  subst hsz
  have hD := hD0.self (sz := s.heap.size)
  generalize hAe : va_A [(h0, .inr (5, [.int xx5_0, .int xx5_1, .ref ax5_2, .ref ax5_3, .ref ax5_4, .ref ax5_5, .ref ax5_6, .ref ax5_7, .ref ax5_8, .ref ax5_9, .ref ax5_10, .ref ax5_11, .ref ax5_12, .ref ax5_13, .ref ax5_14, .ref ax5_15, .ref ax5_16])), (ax5_12, .inl (cx5_12, 262, .inl fx5_12)), (ax5_13, .inl (cx5_13, 262, .inl fx5_13)), (ax5_14, .inl (cx5_14, 262, .inl fx5_14)), (ax5_15, .inl (cx5_15, 262, .inr (.inl fx5_15))), (ax5_16, .inl (cx5_16, 262, .inl fx5_16))] s.heap.size = A at hD ⊢
  have hA : ∀ q : Nat, s.heap.size ≤ q → A q := fun q h => by rw [← hAe]; exact Or.inr h
  have hS : va_S A s.heap s.heap [] := va_S.rf
  have hP : va_P (dC, dI) vwCl [(h0, .inr (5, [.int xx5_0, .int xx5_1, .ref ax5_2, .ref ax5_3, .ref ax5_4, .ref ax5_5, .ref ax5_6, .ref ax5_7, .ref ax5_8, .ref ax5_9, .ref ax5_10, .ref ax5_11, .ref ax5_12, .ref ax5_13, .ref ax5_14, .ref ax5_15, .ref ax5_16])), (ax5_12, .inl (cx5_12, 262, .inl fx5_12)), (ax5_13, .inl (cx5_13, 262, .inl fx5_13)), (ax5_14, .inl (cx5_14, 262, .inl fx5_14)), (ax5_15, .inl (cx5_15, 262, .inr (.inl fx5_15))), (ax5_16, .inl (cx5_16, 262, .inl fx5_16))] s.heap := hP
  have hl := lv_entry ([.ref h0, .int p0]) (n := 3) (Nat.le_of_ble_eq_true rfl)
  rw [lg_entry_eq]
  generalize (lg_sl ([.ref h0, .int p0]) ++ List.replicate (3 - (lg_sl ([.ref h0, .int p0])).length) Slot.unset).toArray = ls at hl ⊢
  have hl : lv_has ls 3 [(0, .ref h0), (1, .int p0)] := hl
  refine lv_aload_n hx hb dX5_addType_0 rfl (lv_at hl 0 rfl) ?_
  refine va_get (D := (dC, dI)) (ci := 5) (v := .int xx5_1) (C := RX5) (T := TX5) (N := 17) hx hb hts inlX5 hown hK hP 0 rfl rfl 1 (by decide) (hts (.fieldLink RX5 15 "ShapeReader$Shapes" "typeCount" "I") mw_14_13) (fun _ h9 => h9) rfl dX5_addType_1 ?_
  refine lv_sipush (v := 262) hx hb dX5_addType_4 (by decide) ?_
  refine lv_icmp_lt (tgt := 12) hx hb dX5_addType_7 (by decide) (fun c_1 => ?_) (fun c_1 => ?_)
  · refine lv_aload_n hx hb dX5_addType_12 rfl (lv_at hl 0 rfl) ?_
    refine va_get (D := (dC, dI)) (ci := 5) (v := .int xx5_1) (C := RX5) (T := TX5) (N := 17) hx hb hts inlX5 hown hK hP 0 rfl rfl 1 (by decide) (hts (.fieldLink RX5 15 "ShapeReader$Shapes" "typeCount" "I") mw_14_13) (fun _ h9 => h9) rfl dX5_addType_13 ?_
    refine lv_istore_n (lv' := [(2, .int xx5_1), (0, .ref h0), (1, .int p0)]) hx hb dX5_addType_16 rfl hl (by decide) rfl (fun ls hl => ?_)
    refine lv_aload_n hx hb dX5_addType_17 rfl (lv_at hl 1 rfl) ?_
    refine va_get (D := (dC, dI)) (ci := 5) (v := .ref ax5_12) (C := RX5) (T := TX5) (N := 17) hx hb hts inlX5 hown hK hP 0 rfl rfl 12 (by decide) (hts (.fieldLink RX5 50 "ShapeReader$Shapes" "sorts" "[I") mw_14_24) (fun _ h9 => h9) rfl dX5_addType_18 ?_
    refine lv_iload_n hx hb dX5_addType_21 rfl (lv_at hl 0 rfl) ?_
    refine lv_iload_n hx hb dX5_addType_22 rfl (lv_at hl 2 rfl) ?_
    refine va_iast hx hb hK hP hD hS 1 0 rfl rfl (vp_in_iff.mpr (by have a0 := hi_xx5_1.1; have a1 := hi_xx5_1.2; have a2 := il_lt c_1; have e0 : (262 : Int32).toInt = 262 := (by decide); omega)) dX5_addType_23 (fun H locs hP hD hS => ?_)
    obtain ⟨f_2, hP, hD⟩ : ∃ f_2 : Nat → Int32, va_P (dC, dI) vwCl [(h0, .inr (5, [.int xx5_0, .int xx5_1, .ref ax5_2, .ref ax5_3, .ref ax5_4, .ref ax5_5, .ref ax5_6, .ref ax5_7, .ref ax5_8, .ref ax5_9, .ref ax5_10, .ref ax5_11, .ref ax5_12, .ref ax5_13, .ref ax5_14, .ref ax5_15, .ref ax5_16])), (ax5_12, .inl (cx5_12, 262, .inl f_2)), (ax5_13, .inl (cx5_13, 262, .inl fx5_13)), (ax5_14, .inl (cx5_14, 262, .inl fx5_14)), (ax5_15, .inl (cx5_15, 262, .inr (.inl fx5_15))), (ax5_16, .inl (cx5_16, 262, .inl fx5_16))] H ∧ va_D A [(h0, .inr (5, [.int xx5_0, .int xx5_1, .ref ax5_2, .ref ax5_3, .ref ax5_4, .ref ax5_5, .ref ax5_6, .ref ax5_7, .ref ax5_8, .ref ax5_9, .ref ax5_10, .ref ax5_11, .ref ax5_12, .ref ax5_13, .ref ax5_14, .ref ax5_15, .ref ax5_16])), (ax5_12, .inl (cx5_12, 262, .inl f_2)), (ax5_13, .inl (cx5_13, 262, .inl fx5_13)), (ax5_14, .inl (cx5_14, 262, .inl fx5_14)), (ax5_15, .inl (cx5_15, 262, .inr (.inl fx5_15))), (ax5_16, .inl (cx5_16, 262, .inl fx5_16))] := ⟨_, hP, hD⟩
    refine lv_aload_n hx hb dX5_addType_24 rfl (lv_at hl 1 rfl) ?_
    refine va_get (D := (dC, dI)) (ci := 5) (v := .ref ax5_13) (C := RX5) (T := TX5) (N := 17) hx hb hts inlX5 hown hK hP 0 rfl rfl 13 (by decide) (hts (.fieldLink RX5 53 "ShapeReader$Shapes" "inners" "[I") mw_14_25) (fun _ h9 => h9) rfl dX5_addType_25 ?_
    refine lv_iload_n hx hb dX5_addType_28 rfl (lv_at hl 0 rfl) ?_
    refine lv_iconst (v := (-1)) hx hb dX5_addType_29 (by decide) ?_
    refine va_iast hx hb hK hP hD hS 2 1 rfl rfl (vp_in_iff.mpr (by have a0 := hi_xx5_1.1; have a1 := hi_xx5_1.2; have a2 := il_lt c_1; have e0 : (262 : Int32).toInt = 262 := (by decide); omega)) dX5_addType_30 (fun H locs hP hD hS => ?_)
    obtain ⟨f_3, hP, hD⟩ : ∃ f_3 : Nat → Int32, va_P (dC, dI) vwCl [(h0, .inr (5, [.int xx5_0, .int xx5_1, .ref ax5_2, .ref ax5_3, .ref ax5_4, .ref ax5_5, .ref ax5_6, .ref ax5_7, .ref ax5_8, .ref ax5_9, .ref ax5_10, .ref ax5_11, .ref ax5_12, .ref ax5_13, .ref ax5_14, .ref ax5_15, .ref ax5_16])), (ax5_12, .inl (cx5_12, 262, .inl f_2)), (ax5_13, .inl (cx5_13, 262, .inl f_3)), (ax5_14, .inl (cx5_14, 262, .inl fx5_14)), (ax5_15, .inl (cx5_15, 262, .inr (.inl fx5_15))), (ax5_16, .inl (cx5_16, 262, .inl fx5_16))] H ∧ va_D A [(h0, .inr (5, [.int xx5_0, .int xx5_1, .ref ax5_2, .ref ax5_3, .ref ax5_4, .ref ax5_5, .ref ax5_6, .ref ax5_7, .ref ax5_8, .ref ax5_9, .ref ax5_10, .ref ax5_11, .ref ax5_12, .ref ax5_13, .ref ax5_14, .ref ax5_15, .ref ax5_16])), (ax5_12, .inl (cx5_12, 262, .inl f_2)), (ax5_13, .inl (cx5_13, 262, .inl f_3)), (ax5_14, .inl (cx5_14, 262, .inl fx5_14)), (ax5_15, .inl (cx5_15, 262, .inr (.inl fx5_15))), (ax5_16, .inl (cx5_16, 262, .inl fx5_16))] := ⟨_, hP, hD⟩
    refine lv_aload_n hx hb dX5_addType_31 rfl (lv_at hl 1 rfl) ?_
    refine va_get (D := (dC, dI)) (ci := 5) (v := .ref ax5_14) (C := RX5) (T := TX5) (N := 17) hx hb hts inlX5 hown hK hP 0 rfl rfl 14 (by decide) (hts (.fieldLink RX5 56 "ShapeReader$Shapes" "nextBranches" "[I") mw_14_26) (fun _ h9 => h9) rfl dX5_addType_32 ?_
    refine lv_iload_n hx hb dX5_addType_35 rfl (lv_at hl 0 rfl) ?_
    refine lv_iconst (v := (-1)) hx hb dX5_addType_36 (by decide) ?_
    refine va_iast hx hb hK hP hD hS 3 2 rfl rfl (vp_in_iff.mpr (by have a0 := hi_xx5_1.1; have a1 := hi_xx5_1.2; have a2 := il_lt c_1; have e0 : (262 : Int32).toInt = 262 := (by decide); omega)) dX5_addType_37 (fun H locs hP hD hS => ?_)
    obtain ⟨f_4, hP, hD⟩ : ∃ f_4 : Nat → Int32, va_P (dC, dI) vwCl [(h0, .inr (5, [.int xx5_0, .int xx5_1, .ref ax5_2, .ref ax5_3, .ref ax5_4, .ref ax5_5, .ref ax5_6, .ref ax5_7, .ref ax5_8, .ref ax5_9, .ref ax5_10, .ref ax5_11, .ref ax5_12, .ref ax5_13, .ref ax5_14, .ref ax5_15, .ref ax5_16])), (ax5_12, .inl (cx5_12, 262, .inl f_2)), (ax5_13, .inl (cx5_13, 262, .inl f_3)), (ax5_14, .inl (cx5_14, 262, .inl f_4)), (ax5_15, .inl (cx5_15, 262, .inr (.inl fx5_15))), (ax5_16, .inl (cx5_16, 262, .inl fx5_16))] H ∧ va_D A [(h0, .inr (5, [.int xx5_0, .int xx5_1, .ref ax5_2, .ref ax5_3, .ref ax5_4, .ref ax5_5, .ref ax5_6, .ref ax5_7, .ref ax5_8, .ref ax5_9, .ref ax5_10, .ref ax5_11, .ref ax5_12, .ref ax5_13, .ref ax5_14, .ref ax5_15, .ref ax5_16])), (ax5_12, .inl (cx5_12, 262, .inl f_2)), (ax5_13, .inl (cx5_13, 262, .inl f_3)), (ax5_14, .inl (cx5_14, 262, .inl f_4)), (ax5_15, .inl (cx5_15, 262, .inr (.inl fx5_15))), (ax5_16, .inl (cx5_16, 262, .inl fx5_16))] := ⟨_, hP, hD⟩
    refine lv_aload_n hx hb dX5_addType_38 rfl (lv_at hl 1 rfl) ?_
    refine va_get (D := (dC, dI)) (ci := 5) (v := .ref ax5_15) (C := RX5) (T := TX5) (N := 17) hx hb hts inlX5 hown hK hP 0 rfl rfl 15 (by decide) (hts (.fieldLink RX5 59 "ShapeReader$Shapes" "askedNames" "[J") mw_14_27) (fun _ h9 => h9) rfl dX5_addType_39 ?_
    refine lv_iload_n hx hb dX5_addType_42 rfl (lv_at hl 0 rfl) ?_
    refine lv_lconst (v := 0) hx hb dX5_addType_43 (by decide) ?_
    refine va_last hx hb hK hP hD hS 4 3 rfl rfl (vp_in_iff.mpr (by have a0 := hi_xx5_1.1; have a1 := hi_xx5_1.2; have a2 := il_lt c_1; have e0 : (262 : Int32).toInt = 262 := (by decide); omega)) dX5_addType_44 (fun H locs hP hD hS => ?_)
    obtain ⟨f_5, hP, hD⟩ : ∃ f_5 : Nat → Int64, va_P (dC, dI) vwCl [(h0, .inr (5, [.int xx5_0, .int xx5_1, .ref ax5_2, .ref ax5_3, .ref ax5_4, .ref ax5_5, .ref ax5_6, .ref ax5_7, .ref ax5_8, .ref ax5_9, .ref ax5_10, .ref ax5_11, .ref ax5_12, .ref ax5_13, .ref ax5_14, .ref ax5_15, .ref ax5_16])), (ax5_12, .inl (cx5_12, 262, .inl f_2)), (ax5_13, .inl (cx5_13, 262, .inl f_3)), (ax5_14, .inl (cx5_14, 262, .inl f_4)), (ax5_15, .inl (cx5_15, 262, .inr (.inl f_5))), (ax5_16, .inl (cx5_16, 262, .inl fx5_16))] H ∧ va_D A [(h0, .inr (5, [.int xx5_0, .int xx5_1, .ref ax5_2, .ref ax5_3, .ref ax5_4, .ref ax5_5, .ref ax5_6, .ref ax5_7, .ref ax5_8, .ref ax5_9, .ref ax5_10, .ref ax5_11, .ref ax5_12, .ref ax5_13, .ref ax5_14, .ref ax5_15, .ref ax5_16])), (ax5_12, .inl (cx5_12, 262, .inl f_2)), (ax5_13, .inl (cx5_13, 262, .inl f_3)), (ax5_14, .inl (cx5_14, 262, .inl f_4)), (ax5_15, .inl (cx5_15, 262, .inr (.inl f_5))), (ax5_16, .inl (cx5_16, 262, .inl fx5_16))] := ⟨_, hP, hD⟩
    refine lv_aload_n hx hb dX5_addType_45 rfl (lv_at hl 1 rfl) ?_
    refine va_get (D := (dC, dI)) (ci := 5) (v := .ref ax5_16) (C := RX5) (T := TX5) (N := 17) hx hb hts inlX5 hown hK hP 0 rfl rfl 16 (by decide) (hts (.fieldLink RX5 62 "ShapeReader$Shapes" "askedPlaces" "[I") mw_14_28) (fun _ h9 => h9) rfl dX5_addType_46 ?_
    refine lv_iload_n hx hb dX5_addType_49 rfl (lv_at hl 0 rfl) ?_
    refine lv_iconst (v := 0) hx hb dX5_addType_50 (by decide) ?_
    refine va_iast hx hb hK hP hD hS 5 4 rfl rfl (vp_in_iff.mpr (by have a0 := hi_xx5_1.1; have a1 := hi_xx5_1.2; have a2 := il_lt c_1; have e0 : (262 : Int32).toInt = 262 := (by decide); omega)) dX5_addType_51 (fun H locs hP hD hS => ?_)
    obtain ⟨f_6, hP, hD⟩ : ∃ f_6 : Nat → Int32, va_P (dC, dI) vwCl [(h0, .inr (5, [.int xx5_0, .int xx5_1, .ref ax5_2, .ref ax5_3, .ref ax5_4, .ref ax5_5, .ref ax5_6, .ref ax5_7, .ref ax5_8, .ref ax5_9, .ref ax5_10, .ref ax5_11, .ref ax5_12, .ref ax5_13, .ref ax5_14, .ref ax5_15, .ref ax5_16])), (ax5_12, .inl (cx5_12, 262, .inl f_2)), (ax5_13, .inl (cx5_13, 262, .inl f_3)), (ax5_14, .inl (cx5_14, 262, .inl f_4)), (ax5_15, .inl (cx5_15, 262, .inr (.inl f_5))), (ax5_16, .inl (cx5_16, 262, .inl f_6))] H ∧ va_D A [(h0, .inr (5, [.int xx5_0, .int xx5_1, .ref ax5_2, .ref ax5_3, .ref ax5_4, .ref ax5_5, .ref ax5_6, .ref ax5_7, .ref ax5_8, .ref ax5_9, .ref ax5_10, .ref ax5_11, .ref ax5_12, .ref ax5_13, .ref ax5_14, .ref ax5_15, .ref ax5_16])), (ax5_12, .inl (cx5_12, 262, .inl f_2)), (ax5_13, .inl (cx5_13, 262, .inl f_3)), (ax5_14, .inl (cx5_14, 262, .inl f_4)), (ax5_15, .inl (cx5_15, 262, .inr (.inl f_5))), (ax5_16, .inl (cx5_16, 262, .inl f_6))] := ⟨_, hP, hD⟩
    refine lv_aload_n hx hb dX5_addType_52 rfl (lv_at hl 1 rfl) ?_
    refine lv_dup hx hb dX5_addType_53 rfl ?_
    refine va_get (D := (dC, dI)) (ci := 5) (v := .int xx5_1) (C := RX5) (T := TX5) (N := 17) hx hb hts inlX5 hown hK hP 0 rfl rfl 1 (by decide) (hts (.fieldLink RX5 15 "ShapeReader$Shapes" "typeCount" "I") mw_14_13) (fun _ h9 => h9) rfl dX5_addType_54 ?_
    refine lv_iconst (v := 1) hx hb dX5_addType_57 (by decide) ?_
    refine lv_iadd hx hb dX5_addType_58 ?_
    refine lv_topi (fun x_7 ex_7 => ?_)
    have bx_7 : (1 : Int) ≤ x_7.toInt ∧ x_7.toInt ≤ (262 : Int) := by have r0 := il_rng xx5_1; have a0 := hi_xx5_1.1; have a1 := hi_xx5_1.2; have a2 := il_lt c_1; have e0 : (1 : Int32).toInt = 1 := (by decide); have e1 : (262 : Int32).toInt = 262 := (by decide); rw [ex_7, il_addE (by omega) (by omega)]; omega
    refine va_put (D := (dC, dI)) (ci := 5) (v := .int x_7) (ty := .int) (C := RX5) (T := TX5) (N := 17) hx hb hts inlX5 tyX5 tyX5_ok nmX5 hown hK hP hD hS 0 rfl rfl 1 (by decide) (hts (.fieldLink RX5 15 "ShapeReader$Shapes" "typeCount" "I") mw_14_13) (fun _ h9 => h9) rfl (by decide +kernel) rfl rfl (Nat.le_of_ble_eq_true rfl) dX5_addType_59 (fun H locs hP hD hS => ?_)
    have hP : va_P (dC, dI) vwCl [(h0, .inr (5, [.int xx5_0, .int x_7, .ref ax5_2, .ref ax5_3, .ref ax5_4, .ref ax5_5, .ref ax5_6, .ref ax5_7, .ref ax5_8, .ref ax5_9, .ref ax5_10, .ref ax5_11, .ref ax5_12, .ref ax5_13, .ref ax5_14, .ref ax5_15, .ref ax5_16])), (ax5_12, .inl (cx5_12, 262, .inl f_2)), (ax5_13, .inl (cx5_13, 262, .inl f_3)), (ax5_14, .inl (cx5_14, 262, .inl f_4)), (ax5_15, .inl (cx5_15, 262, .inr (.inl f_5))), (ax5_16, .inl (cx5_16, 262, .inl f_6))] H := hP
    have hD : va_D A [(h0, .inr (5, [.int xx5_0, .int x_7, .ref ax5_2, .ref ax5_3, .ref ax5_4, .ref ax5_5, .ref ax5_6, .ref ax5_7, .ref ax5_8, .ref ax5_9, .ref ax5_10, .ref ax5_11, .ref ax5_12, .ref ax5_13, .ref ax5_14, .ref ax5_15, .ref ax5_16])), (ax5_12, .inl (cx5_12, 262, .inl f_2)), (ax5_13, .inl (cx5_13, 262, .inl f_3)), (ax5_14, .inl (cx5_14, 262, .inl f_4)), (ax5_15, .inl (cx5_15, 262, .inr (.inl f_5))), (ax5_16, .inl (cx5_16, 262, .inl f_6))] := hD
    refine lv_iload_n hx hb dX5_addType_62 rfl (lv_at hl 0 rfl) ?_
    have hP9 := hP.sub (ws' := [(h0, .inr (5, [.int xx5_0, .int x_7, .ref ax5_2, .ref ax5_3, .ref ax5_4, .ref ax5_5, .ref ax5_6, .ref ax5_7, .ref ax5_8, .ref ax5_9, .ref ax5_10, .ref ax5_11, .ref ax5_12, .ref ax5_13, .ref ax5_14, .ref ax5_15, .ref ax5_16])), (ax5_12, .inl (cx5_12, 262, .inl f_2)), (ax5_13, .inl (cx5_13, 262, .inl f_3)), (ax5_14, .inl (cx5_14, 262, .inl f_4)), (ax5_15, .inl (cx5_15, 262, .inr (.inl f_5))), (ax5_16, .inl (cx5_16, 262, .inl f_6))]) [0, 1, 2, 3, 4, 5] rfl
    have hD9 := hD.sub (ws' := [(h0, .inr (5, [.int xx5_0, .int x_7, .ref ax5_2, .ref ax5_3, .ref ax5_4, .ref ax5_5, .ref ax5_6, .ref ax5_7, .ref ax5_8, .ref ax5_9, .ref ax5_10, .ref ax5_11, .ref ax5_12, .ref ax5_13, .ref ax5_14, .ref ax5_15, .ref ax5_16])), (ax5_12, .inl (cx5_12, 262, .inl f_2)), (ax5_13, .inl (cx5_13, 262, .inl f_3)), (ax5_14, .inl (cx5_14, 262, .inl f_4)), (ax5_15, .inl (cx5_15, 262, .inr (.inl f_5))), (ax5_16, .inl (cx5_16, 262, .inl f_6))]) [0, 1, 2, 3, 4, 5] (by decide) rfl
    have hK9 := hK.sub (tys' := [(cx5_12, .int), (cx5_13, .int), (cx5_14, .int), (cx5_15, .long), (cx5_16, .int)]) [0, 1, 2, 3, 4] rfl
    refine W.widen (k := 0) (n := 0) (Nat.le_of_ble_eq_true rfl) (Nat.le_of_ble_eq_true rfl) ?_
    exact W.iret (v := xx5_1) hx hb hr (fun t ht hW => ⟨⟨xx5_1, (), rfl, Or.inl (⟨rfl, c_1⟩), x_7, (by have a0 := bx_7.1; have a1 := bx_7.2; omega), f_2, f_3, f_4, f_5, f_6, by rw [ht]; exact hP9, va_K.moved hW.alike hK9, hD9⟩, hS.F ht⟩) hS.2.2 dX5_addType_63
  · refine lv_iconst (v := (-1)) hx hb dX5_addType_10 (by decide) ?_
    have hP9 := hP.sub (ws' := [(h0, .inr (5, [.int xx5_0, .int xx5_1, .ref ax5_2, .ref ax5_3, .ref ax5_4, .ref ax5_5, .ref ax5_6, .ref ax5_7, .ref ax5_8, .ref ax5_9, .ref ax5_10, .ref ax5_11, .ref ax5_12, .ref ax5_13, .ref ax5_14, .ref ax5_15, .ref ax5_16])), (ax5_12, .inl (cx5_12, 262, .inl fx5_12)), (ax5_13, .inl (cx5_13, 262, .inl fx5_13)), (ax5_14, .inl (cx5_14, 262, .inl fx5_14)), (ax5_15, .inl (cx5_15, 262, .inr (.inl fx5_15))), (ax5_16, .inl (cx5_16, 262, .inl fx5_16))]) [0, 1, 2, 3, 4, 5] rfl
    have hD9 := hD.sub (ws' := [(h0, .inr (5, [.int xx5_0, .int xx5_1, .ref ax5_2, .ref ax5_3, .ref ax5_4, .ref ax5_5, .ref ax5_6, .ref ax5_7, .ref ax5_8, .ref ax5_9, .ref ax5_10, .ref ax5_11, .ref ax5_12, .ref ax5_13, .ref ax5_14, .ref ax5_15, .ref ax5_16])), (ax5_12, .inl (cx5_12, 262, .inl fx5_12)), (ax5_13, .inl (cx5_13, 262, .inl fx5_13)), (ax5_14, .inl (cx5_14, 262, .inl fx5_14)), (ax5_15, .inl (cx5_15, 262, .inr (.inl fx5_15))), (ax5_16, .inl (cx5_16, 262, .inl fx5_16))]) [0, 1, 2, 3, 4, 5] (by decide) rfl
    have hK9 := hK.sub (tys' := [(cx5_12, .int), (cx5_13, .int), (cx5_14, .int), (cx5_15, .long), (cx5_16, .int)]) [0, 1, 2, 3, 4] rfl
    refine W.widen (k := 0) (n := 0) (Nat.le_of_ble_eq_true rfl) (Nat.le_of_ble_eq_true rfl) ?_
    exact W.iret (v := (-1)) hx hb hr (fun t ht hW => ⟨⟨(-1), (), rfl, Or.inr (⟨rfl, c_1⟩), xx5_1, (by have a0 := hi_xx5_1.1; have a1 := hi_xx5_1.2; have a2 := il_nlt c_1; have e0 : (262 : Int32).toInt = 262 := (by decide); omega), fx5_12, fx5_13, fx5_14, fx5_15, fx5_16, by rw [ht]; exact hP9, va_K.moved hW.alike hK9, hD9⟩, hS.F ht⟩) hS.2.2 dX5_addType_11

set_option maxRecDepth 100000 in
set_option maxHeartbeats 4000000 in
theorem s_X5_addRecord (l : Launch) (dC : Nat → ClassId) (dI : Nat → Nat → Nat) (h0 : Nat) (xx5_0 : Int32) (xx5_1 : Int32) (ax5_2 : Nat) (cx5_2 : ClassId) (fx5_2 : Nat → Int32) (ax5_3 : Nat) (ax5_4 : Nat) (cx5_4 : ClassId) (fx5_4 : Nat → Int32) (ax5_5 : Nat) (cx5_5 : ClassId) (fx5_5 : Nat → Int64) (ax5_6 : Nat) (cx5_6 : ClassId) (fx5_6 : Nat → Int32) (ax5_7 : Nat) (ax5_8 : Nat) (ax5_9 : Nat) (ax5_10 : Nat) (ax5_11 : Nat) (ax5_12 : Nat) (ax5_13 : Nat) (ax5_14 : Nat) (ax5_15 : Nat) (ax5_16 : Nat) (p0 : Int32) (p1 : Int64) (hi_xx5_0 : (0 : Int) ≤ xx5_0.toInt ∧ xx5_0.toInt ≤ (6 : Int)) (hi_xx5_1 : (0 : Int) ≤ xx5_1.toInt ∧ xx5_1.toInt ≤ (262 : Int)) (sz : Nat) : Met l yX5_addRecord (.code yX5_addRecord cX5_addRecord 5 none :: pw) ({ frames := 1, cells := 0, slots := 0, locals := 21 }) (va_Pc [.ref h0, .int p0, .long p1] (vPre dC dI [(h0, .inr (5, [.int xx5_0, .int xx5_1, .ref ax5_2, .ref ax5_3, .ref ax5_4, .ref ax5_5, .ref ax5_6, .ref ax5_7, .ref ax5_8, .ref ax5_9, .ref ax5_10, .ref ax5_11, .ref ax5_12, .ref ax5_13, .ref ax5_14, .ref ax5_15, .ref ax5_16])), (ax5_2, .inl (cx5_2, 6, .inl fx5_2)), (ax5_4, .inl (cx5_4, 36, .inl fx5_4)), (ax5_5, .inl (cx5_5, 36, .inr (.inl fx5_5))), (ax5_6, .inl (cx5_6, 36, .inl fx5_6))] [(cx5_2, .int), (cx5_4, .int), (cx5_5, .long), (cx5_6, .int)] sz)) (va_Qv (fun (_ : Unit) => True) (fun (_ : Unit) t => ∃ (z1 : Nat → Int32), ∃ (z2 : Nat → Int32), ∃ (z3 : Nat → Int64), ∃ (z4 : Nat → Int32), vPst dC dI (va_A [(h0, .inr (5, [.int xx5_0, .int xx5_1, .ref ax5_2, .ref ax5_3, .ref ax5_4, .ref ax5_5, .ref ax5_6, .ref ax5_7, .ref ax5_8, .ref ax5_9, .ref ax5_10, .ref ax5_11, .ref ax5_12, .ref ax5_13, .ref ax5_14, .ref ax5_15, .ref ax5_16])), (ax5_2, .inl (cx5_2, 6, .inl fx5_2)), (ax5_4, .inl (cx5_4, 36, .inl fx5_4)), (ax5_5, .inl (cx5_5, 36, .inr (.inl fx5_5))), (ax5_6, .inl (cx5_6, 36, .inl fx5_6))] sz) [(h0, .inr (5, [.int xx5_0, .int xx5_1, .ref ax5_2, .ref ax5_3, .ref ax5_4, .ref ax5_5, .ref ax5_6, .ref ax5_7, .ref ax5_8, .ref ax5_9, .ref ax5_10, .ref ax5_11, .ref ax5_12, .ref ax5_13, .ref ax5_14, .ref ax5_15, .ref ax5_16])), (ax5_2, .inl (cx5_2, 6, .inl z1)), (ax5_4, .inl (cx5_4, 36, .inl z2)), (ax5_5, .inl (cx5_5, 36, .inr (.inl z3))), (ax5_6, .inl (cx5_6, 36, .inl z4))] [(cx5_2, .int), (cx5_4, .int), (cx5_5, .long), (cx5_6, .int)] t) (va_A [(h0, .inr (5, [.int xx5_0, .int xx5_1, .ref ax5_2, .ref ax5_3, .ref ax5_4, .ref ax5_5, .ref ax5_6, .ref ax5_7, .ref ax5_8, .ref ax5_9, .ref ax5_10, .ref ax5_11, .ref ax5_12, .ref ax5_13, .ref ax5_14, .ref ax5_15, .ref ax5_16])), (ax5_2, .inl (cx5_2, 6, .inl fx5_2)), (ax5_4, .inl (cx5_4, 36, .inl fx5_4)), (ax5_5, .inl (cx5_5, 36, .inr (.inl fx5_5))), (ax5_6, .inl (cx5_6, 36, .inl fx5_6))] sz)) 0 0 (va_A [(h0, .inr (5, [.int xx5_0, .int xx5_1, .ref ax5_2, .ref ax5_3, .ref ax5_4, .ref ax5_5, .ref ax5_6, .ref ax5_7, .ref ax5_8, .ref ax5_9, .ref ax5_10, .ref ax5_11, .ref ax5_12, .ref ax5_13, .ref ax5_14, .ref ax5_15, .ref ax5_16])), (ax5_2, .inl (cx5_2, 6, .inl fx5_2)), (ax5_4, .inl (cx5_4, 36, .inl fx5_4)), (ax5_5, .inl (cx5_5, 36, .inr (.inl fx5_5))), (ax5_6, .inl (cx5_6, 36, .inl fx5_6))] sz) := by
  refine Met.ofW (cc := cX5_addRecord) (maxL := 5) (ret := none) (by decide) rfl ?_
  intro p e s m args below meth c s₁ B hml hv
  obtain ⟨rfl, hsz, hP, hK, hD0, hN⟩ := hv
  have hx := B.exec
  have hb := B.bytes
  have hr := B.returns
  have hts := atoms_spec (ws := .code yX5_addRecord cX5_addRecord 5 none :: pw) B.pre
  have hts : ∀ w ∈ pw, w.before _ s = true := fun w h => hts w (List.mem_cons_of_mem _ h)
  have hown : s.vm.findClass RX5 = some m.cls := findClass_of_methodNamed B.named
  have hlocks := B.notSynchronized
  subst hsz
  have hD := hD0.self (sz := s.heap.size)
  generalize hAe : va_A [(h0, .inr (5, [.int xx5_0, .int xx5_1, .ref ax5_2, .ref ax5_3, .ref ax5_4, .ref ax5_5, .ref ax5_6, .ref ax5_7, .ref ax5_8, .ref ax5_9, .ref ax5_10, .ref ax5_11, .ref ax5_12, .ref ax5_13, .ref ax5_14, .ref ax5_15, .ref ax5_16])), (ax5_2, .inl (cx5_2, 6, .inl fx5_2)), (ax5_4, .inl (cx5_4, 36, .inl fx5_4)), (ax5_5, .inl (cx5_5, 36, .inr (.inl fx5_5))), (ax5_6, .inl (cx5_6, 36, .inl fx5_6))] s.heap.size = A at hD ⊢
  have hA : ∀ q : Nat, s.heap.size ≤ q → A q := fun q h => by rw [← hAe]; exact Or.inr h
  have hS : va_S A s.heap s.heap [] := va_S.rf
  have hP : va_P (dC, dI) vwCl [(h0, .inr (5, [.int xx5_0, .int xx5_1, .ref ax5_2, .ref ax5_3, .ref ax5_4, .ref ax5_5, .ref ax5_6, .ref ax5_7, .ref ax5_8, .ref ax5_9, .ref ax5_10, .ref ax5_11, .ref ax5_12, .ref ax5_13, .ref ax5_14, .ref ax5_15, .ref ax5_16])), (ax5_2, .inl (cx5_2, 6, .inl fx5_2)), (ax5_4, .inl (cx5_4, 36, .inl fx5_4)), (ax5_5, .inl (cx5_5, 36, .inr (.inl fx5_5))), (ax5_6, .inl (cx5_6, 36, .inl fx5_6))] s.heap := hP
  have hl := lv_entry ([.ref h0, .int p0, .long p1]) (n := 5) (Nat.le_of_ble_eq_true rfl)
  rw [lg_entry_eq]
  generalize (lg_sl ([.ref h0, .int p0, .long p1]) ++ List.replicate (5 - (lg_sl ([.ref h0, .int p0, .long p1])).length) Slot.unset).toArray = ls at hl ⊢
  have hl : lv_has ls 5 [(0, .ref h0), (1, .int p0), (2, .long p1)] := hl
  refine lv_iload_n hx hb dX5_addRecord_0 rfl (lv_at hl 1 rfl) ?_
  refine lv_bipush (v := 6) hx hb dX5_addRecord_1 (by decide) ?_
  refine lv_imul hx hb dX5_addRecord_3 ?_
  refine lv_topi (fun x_1 ex_1 => ?_)
  refine lv_aload_n hx hb dX5_addRecord_4 rfl (lv_at hl 0 rfl) ?_
  refine lv_iload_n hx hb dX5_addRecord_5 rfl (lv_at hl 1 rfl) ?_
  have hPc := hP.sub (ws' := [(h0, .inr (5, [.int xx5_0, .int xx5_1, .ref ax5_2, .ref ax5_3, .ref ax5_4, .ref ax5_5, .ref ax5_6, .ref ax5_7, .ref ax5_8, .ref ax5_9, .ref ax5_10, .ref ax5_11, .ref ax5_12, .ref ax5_13, .ref ax5_14, .ref ax5_15, .ref ax5_16])), (ax5_2, .inl (cx5_2, 6, .inl fx5_2))]) [0, 1] rfl
  have hDc := hD.sub (ws' := [(h0, .inr (5, [.int xx5_0, .int xx5_1, .ref ax5_2, .ref ax5_3, .ref ax5_4, .ref ax5_5, .ref ax5_6, .ref ax5_7, .ref ax5_8, .ref ax5_9, .ref ax5_10, .ref ax5_11, .ref ax5_12, .ref ax5_13, .ref ax5_14, .ref ax5_15, .ref ax5_16])), (ax5_2, .inl (cx5_2, 6, .inl fx5_2))]) [0, 1] (by decide) rfl
  have hKc := hK.sub (tys' := [(cx5_2, .int)]) [0] rfl
  have hFc := va_free (wc := [(h0, .inr (5, [.int xx5_0, .int xx5_1, .ref ax5_2, .ref ax5_3, .ref ax5_4, .ref ax5_5, .ref ax5_6, .ref ax5_7, .ref ax5_8, .ref ax5_9, .ref ax5_10, .ref ax5_11, .ref ax5_12, .ref ax5_13, .ref ax5_14, .ref ax5_15, .ref ax5_16])), (ax5_2, .inl (cx5_2, 6, .inl fx5_2))]) hD hS hA [0, 1] rfl
  refine va_calli (va_runV (As := [.int p0]) (rest := [.int x_1]) ⟨hx, hb, hml, hown, hts⟩ (s_X5_recordsOf l dC dI h0 xx5_0 xx5_1 ax5_2 cx5_2 fx5_2 ax5_3 ax5_4 ax5_5 ax5_6 ax5_7 ax5_8 ax5_9 ax5_10 ax5_11 ax5_12 ax5_13 ax5_14 ax5_15 ax5_16 p0 (by have a0 := hi_xx5_0.1; have a1 := hi_xx5_0.2; omega) (by have a0 := hi_xx5_1.1; have a1 := hi_xx5_1.2; omega) s.heap.size) (cwV 1 hts (gV mw_15_10 mw_1_13 mw_1_14 mw_0_9 mw_48_27) rfl rfl rfl (by decide +kernel) ⟨(Nat.le_of_ble_eq_true rfl), (Nat.le_of_ble_eq_true rfl)⟩) (vV (ci := 5) (q0 := 0) hKc hPc hDc hN rfl rfl) rfl rfl hl.1 rfl (lv_room (Nat.le_of_ble_eq_true rfl)) dX5_addRecord_6 ⟨(Nat.le_of_ble_eq_true rfl), (Nat.le_of_ble_eq_true rfl)⟩) hS (fun q _ h => hFc q h) hFc (fun r_2 u t H1 locs ht hvm hw hB hz1 hk1 hS => ?_)
  obtain ⟨hP1, hK1, hD1⟩ := hB
  rw [ht] at hP1
  have hK1 := va_K.moved hvm.symm hK1
  obtain ⟨hP, hD⟩ := va_join (wr := [(ax5_4, .inl (cx5_4, 36, .inl fx5_4)), (ax5_5, .inl (cx5_5, 36, .inr (.inl fx5_5))), (ax5_6, .inl (cx5_6, 36, .inl fx5_6))]) (w1 := [(h0, .inr (5, [.int xx5_0, .int xx5_1, .ref ax5_2, .ref ax5_3, .ref ax5_4, .ref ax5_5, .ref ax5_6, .ref ax5_7, .ref ax5_8, .ref ax5_9, .ref ax5_10, .ref ax5_11, .ref ax5_12, .ref ax5_13, .ref ax5_14, .ref ax5_15, .ref ax5_16])), (ax5_2, .inl (cx5_2, 6, .inl fx5_2))]) hP hD [0, 1] [2, 3, 4] rfl rfl (by decide) (by decide) hk1 hFc hP1 hD1
  clear hPc hDc hKc hP1 hK1 hD1 hFc hk1 hz1
  generalize H1 = H at hP hS ⊢
  have hP : va_P (dC, dI) vwCl [(ax5_4, .inl (cx5_4, 36, .inl fx5_4)), (ax5_5, .inl (cx5_5, 36, .inr (.inl fx5_5))), (ax5_6, .inl (cx5_6, 36, .inl fx5_6)), (h0, .inr (5, [.int xx5_0, .int xx5_1, .ref ax5_2, .ref ax5_3, .ref ax5_4, .ref ax5_5, .ref ax5_6, .ref ax5_7, .ref ax5_8, .ref ax5_9, .ref ax5_10, .ref ax5_11, .ref ax5_12, .ref ax5_13, .ref ax5_14, .ref ax5_15, .ref ax5_16])), (ax5_2, .inl (cx5_2, 6, .inl fx5_2))] H := hP
  have hD : va_D A [(ax5_4, .inl (cx5_4, 36, .inl fx5_4)), (ax5_5, .inl (cx5_5, 36, .inr (.inl fx5_5))), (ax5_6, .inl (cx5_6, 36, .inl fx5_6)), (h0, .inr (5, [.int xx5_0, .int xx5_1, .ref ax5_2, .ref ax5_3, .ref ax5_4, .ref ax5_5, .ref ax5_6, .ref ax5_7, .ref ax5_8, .ref ax5_9, .ref ax5_10, .ref ax5_11, .ref ax5_12, .ref ax5_13, .ref ax5_14, .ref ax5_15, .ref ax5_16])), (ax5_2, .inl (cx5_2, 6, .inl fx5_2))] := hD
  rcases hw with ⟨q_5, g_3, g_4⟩ | rfl
  · refine lv_iadd hx hb dX5_addRecord_9 ?_
    refine lv_topi (fun x_6 ex_6 => ?_)
    refine lv_istore (lv' := [(4, .int x_6), (0, .ref h0), (1, .int p0), (2, .long p1)]) hx hb dX5_addRecord_10 hl (by decide) rfl (fun ls hl => ?_)
    refine lv_iload_n hx hb dX5_addRecord_12 rfl (lv_at hl 2 rfl) ?_
    refine lv_if_lt (tgt := 64) hx hb dX5_addRecord_13 (by decide) (fun c_7 => False.elim (by have a0 := il_nlt g_3; have a1 := il_nle g_4; have a2 := il_lt c_7; have e0 : (0 : Int32).toInt = 0 := (by decide); have e1 : (6 : Int32).toInt = 6 := (by decide); omega)) (fun c_7 => ?_)
    refine lv_iload_n hx hb dX5_addRecord_16 rfl (lv_at hl 2 rfl) ?_
    refine lv_bipush (v := 6) hx hb dX5_addRecord_17 (by decide) ?_
    refine lv_icmp_ge (tgt := 64) hx hb dX5_addRecord_19 (by decide) (fun c_8 => False.elim (by have a0 := il_nlt g_3; have a1 := il_nle g_4; have a2 := il_nlt c_7; have a3 := il_le c_8; have e0 : (0 : Int32).toInt = 0 := (by decide); have e1 : (6 : Int32).toInt = 6 := (by decide); omega)) (fun c_8 => ?_)
    refine lv_iload hx hb dX5_addRecord_22 (lv_at hl 0 rfl) ?_
    have hPc := hP.sub (ws' := []) [] rfl
    have hDc := hD.sub (ws' := []) [] (by decide) rfl
    have hKc := hK.sub (tys' := []) [] rfl
    have hFc := va_free (wc := []) hD hS hA [] rfl
    refine va_calli (va_runS (As := [.int x_6]) (rest := []) ⟨hx, hb, hml, hown, hts⟩ (s_X5_isRecord l dC dI x_6 H.size) (va_cwS 1 hts (gS mw_14_29 mw_15_0 mw_0_9 mw_48_24) rfl rfl rfl (by decide +kernel) ⟨(Nat.le_of_ble_eq_true rfl), (Nat.le_of_ble_eq_true rfl)⟩) (vS hKc hPc hDc hN) rfl rfl hl.1 rfl (lv_room (Nat.le_of_ble_eq_true rfl)) dX5_addRecord_24 ⟨(Nat.le_of_ble_eq_true rfl), (Nat.le_of_ble_eq_true rfl)⟩) hS (fun q _ h => hFc q h) hFc (fun r_9 u t H1 locs ht hvm hw hB hz1 hk1 hS => ?_)
    obtain ⟨hP1, hK1, hD1⟩ := hB
    rw [ht] at hP1
    have hK1 := va_K.moved hvm.symm hK1
    obtain ⟨hP, hD⟩ := va_join (wr := [(ax5_4, .inl (cx5_4, 36, .inl fx5_4)), (ax5_5, .inl (cx5_5, 36, .inr (.inl fx5_5))), (ax5_6, .inl (cx5_6, 36, .inl fx5_6)), (h0, .inr (5, [.int xx5_0, .int xx5_1, .ref ax5_2, .ref ax5_3, .ref ax5_4, .ref ax5_5, .ref ax5_6, .ref ax5_7, .ref ax5_8, .ref ax5_9, .ref ax5_10, .ref ax5_11, .ref ax5_12, .ref ax5_13, .ref ax5_14, .ref ax5_15, .ref ax5_16])), (ax5_2, .inl (cx5_2, 6, .inl fx5_2))]) (w1 := []) hP hD [] [0, 1, 2, 3, 4] rfl rfl (by decide) (by decide) hk1 hFc hP1 hD1
    clear hPc hDc hKc hP1 hK1 hD1 hFc hk1 hz1
    generalize H1 = H at hP hS ⊢
    have hP : va_P (dC, dI) vwCl [(ax5_4, .inl (cx5_4, 36, .inl fx5_4)), (ax5_5, .inl (cx5_5, 36, .inr (.inl fx5_5))), (ax5_6, .inl (cx5_6, 36, .inl fx5_6)), (h0, .inr (5, [.int xx5_0, .int xx5_1, .ref ax5_2, .ref ax5_3, .ref ax5_4, .ref ax5_5, .ref ax5_6, .ref ax5_7, .ref ax5_8, .ref ax5_9, .ref ax5_10, .ref ax5_11, .ref ax5_12, .ref ax5_13, .ref ax5_14, .ref ax5_15, .ref ax5_16])), (ax5_2, .inl (cx5_2, 6, .inl fx5_2))] H := hP
    have hD : va_D A [(ax5_4, .inl (cx5_4, 36, .inl fx5_4)), (ax5_5, .inl (cx5_5, 36, .inr (.inl fx5_5))), (ax5_6, .inl (cx5_6, 36, .inl fx5_6)), (h0, .inr (5, [.int xx5_0, .int xx5_1, .ref ax5_2, .ref ax5_3, .ref ax5_4, .ref ax5_5, .ref ax5_6, .ref ax5_7, .ref ax5_8, .ref ax5_9, .ref ax5_10, .ref ax5_11, .ref ax5_12, .ref ax5_13, .ref ax5_14, .ref ax5_15, .ref ax5_16])), (ax5_2, .inl (cx5_2, 6, .inl fx5_2))] := hD
    rcases hw with rfl | ⟨rfl, g_10, g_11⟩
    · refine lv_if_eq (tgt := 64) hx hb dX5_addRecord_27 (by decide) (fun _ => ?_) (fun h => absurd (by decide) h)
      have hP9 := hP.sub (ws' := [(h0, .inr (5, [.int xx5_0, .int xx5_1, .ref ax5_2, .ref ax5_3, .ref ax5_4, .ref ax5_5, .ref ax5_6, .ref ax5_7, .ref ax5_8, .ref ax5_9, .ref ax5_10, .ref ax5_11, .ref ax5_12, .ref ax5_13, .ref ax5_14, .ref ax5_15, .ref ax5_16])), (ax5_2, .inl (cx5_2, 6, .inl fx5_2)), (ax5_4, .inl (cx5_4, 36, .inl fx5_4)), (ax5_5, .inl (cx5_5, 36, .inr (.inl fx5_5))), (ax5_6, .inl (cx5_6, 36, .inl fx5_6))]) [3, 4, 0, 1, 2] rfl
      have hD9 := hD.sub (ws' := [(h0, .inr (5, [.int xx5_0, .int xx5_1, .ref ax5_2, .ref ax5_3, .ref ax5_4, .ref ax5_5, .ref ax5_6, .ref ax5_7, .ref ax5_8, .ref ax5_9, .ref ax5_10, .ref ax5_11, .ref ax5_12, .ref ax5_13, .ref ax5_14, .ref ax5_15, .ref ax5_16])), (ax5_2, .inl (cx5_2, 6, .inl fx5_2)), (ax5_4, .inl (cx5_4, 36, .inl fx5_4)), (ax5_5, .inl (cx5_5, 36, .inr (.inl fx5_5))), (ax5_6, .inl (cx5_6, 36, .inl fx5_6))]) [3, 4, 0, 1, 2] (by decide) rfl
      have hK9 := hK.sub (tys' := [(cx5_2, .int), (cx5_4, .int), (cx5_5, .long), (cx5_6, .int)]) [0, 1, 2, 3] rfl
      refine W.widen (k := 0) (n := 0) (Nat.le_of_ble_eq_true rfl) (Nat.le_of_ble_eq_true rfl) ?_
      exact W.vret hx hb hr (fun t ht hW => ⟨⟨(), rfl, trivial, fx5_2, fx5_4, fx5_5, fx5_6, by rw [ht]; exact hP9, va_K.moved hW.alike hK9, hD9⟩, hS.F ht⟩) hS.2.2 dX5_addRecord_64
    · refine lv_if_eq (tgt := 64) hx hb dX5_addRecord_27 (by decide) (fun h => absurd h (by decide)) (fun _ => ?_)
      refine lv_aload_n hx hb dX5_addRecord_30 rfl (lv_at hl 1 rfl) ?_
      refine va_get (D := (dC, dI)) (ci := 5) (v := .ref ax5_5) (C := RX5) (T := TX5) (N := 17) hx hb hts inlX5 hown hK hP 3 rfl rfl 5 (by decide) (hts (.fieldLink RX5 28 "ShapeReader$Shapes" "recordNames" "[J") mw_14_17) (fun _ h9 => h9) rfl dX5_addRecord_31 ?_
      refine lv_iload hx hb dX5_addRecord_34 (lv_at hl 0 rfl) ?_
      refine lv_lload_n hx hb dX5_addRecord_36 rfl (lv_at hl 3 rfl) ?_
      refine va_last hx hb hK hP hD hS 1 2 rfl rfl (vp_in_iff.mpr (by have a0 := il_nlt g_10; have a1 := il_nle g_11; have e0 : (0 : Int32).toInt = 0 := (by decide); have e1 : (36 : Int32).toInt = 36 := (by decide); omega)) dX5_addRecord_37 (fun H locs hP hD hS => ?_)
      obtain ⟨f_14, hP, hD⟩ : ∃ f_14 : Nat → Int64, va_P (dC, dI) vwCl [(ax5_4, .inl (cx5_4, 36, .inl fx5_4)), (ax5_5, .inl (cx5_5, 36, .inr (.inl f_14))), (ax5_6, .inl (cx5_6, 36, .inl fx5_6)), (h0, .inr (5, [.int xx5_0, .int xx5_1, .ref ax5_2, .ref ax5_3, .ref ax5_4, .ref ax5_5, .ref ax5_6, .ref ax5_7, .ref ax5_8, .ref ax5_9, .ref ax5_10, .ref ax5_11, .ref ax5_12, .ref ax5_13, .ref ax5_14, .ref ax5_15, .ref ax5_16])), (ax5_2, .inl (cx5_2, 6, .inl fx5_2))] H ∧ va_D A [(ax5_4, .inl (cx5_4, 36, .inl fx5_4)), (ax5_5, .inl (cx5_5, 36, .inr (.inl f_14))), (ax5_6, .inl (cx5_6, 36, .inl fx5_6)), (h0, .inr (5, [.int xx5_0, .int xx5_1, .ref ax5_2, .ref ax5_3, .ref ax5_4, .ref ax5_5, .ref ax5_6, .ref ax5_7, .ref ax5_8, .ref ax5_9, .ref ax5_10, .ref ax5_11, .ref ax5_12, .ref ax5_13, .ref ax5_14, .ref ax5_15, .ref ax5_16])), (ax5_2, .inl (cx5_2, 6, .inl fx5_2))] := ⟨_, hP, hD⟩
      refine lv_aload_n hx hb dX5_addRecord_38 rfl (lv_at hl 1 rfl) ?_
      refine va_get (D := (dC, dI)) (ci := 5) (v := .ref ax5_4) (C := RX5) (T := TX5) (N := 17) hx hb hts inlX5 hown hK hP 3 rfl rfl 4 (by decide) (hts (.fieldLink RX5 25 "ShapeReader$Shapes" "fieldCounts" "[I") mw_14_16) (fun _ h9 => h9) rfl dX5_addRecord_39 ?_
      refine lv_iload hx hb dX5_addRecord_42 (lv_at hl 0 rfl) ?_
      refine lv_iconst (v := 0) hx hb dX5_addRecord_44 (by decide) ?_
      refine va_iast hx hb hK hP hD hS 0 1 rfl rfl (vp_in_iff.mpr (by have a0 := il_nlt g_10; have a1 := il_nle g_11; have e0 : (0 : Int32).toInt = 0 := (by decide); have e1 : (36 : Int32).toInt = 36 := (by decide); omega)) dX5_addRecord_45 (fun H locs hP hD hS => ?_)
      obtain ⟨f_15, hP, hD⟩ : ∃ f_15 : Nat → Int32, va_P (dC, dI) vwCl [(ax5_4, .inl (cx5_4, 36, .inl f_15)), (ax5_5, .inl (cx5_5, 36, .inr (.inl f_14))), (ax5_6, .inl (cx5_6, 36, .inl fx5_6)), (h0, .inr (5, [.int xx5_0, .int xx5_1, .ref ax5_2, .ref ax5_3, .ref ax5_4, .ref ax5_5, .ref ax5_6, .ref ax5_7, .ref ax5_8, .ref ax5_9, .ref ax5_10, .ref ax5_11, .ref ax5_12, .ref ax5_13, .ref ax5_14, .ref ax5_15, .ref ax5_16])), (ax5_2, .inl (cx5_2, 6, .inl fx5_2))] H ∧ va_D A [(ax5_4, .inl (cx5_4, 36, .inl f_15)), (ax5_5, .inl (cx5_5, 36, .inr (.inl f_14))), (ax5_6, .inl (cx5_6, 36, .inl fx5_6)), (h0, .inr (5, [.int xx5_0, .int xx5_1, .ref ax5_2, .ref ax5_3, .ref ax5_4, .ref ax5_5, .ref ax5_6, .ref ax5_7, .ref ax5_8, .ref ax5_9, .ref ax5_10, .ref ax5_11, .ref ax5_12, .ref ax5_13, .ref ax5_14, .ref ax5_15, .ref ax5_16])), (ax5_2, .inl (cx5_2, 6, .inl fx5_2))] := ⟨_, hP, hD⟩
      refine lv_aload_n hx hb dX5_addRecord_46 rfl (lv_at hl 1 rfl) ?_
      refine va_get (D := (dC, dI)) (ci := 5) (v := .ref ax5_6) (C := RX5) (T := TX5) (N := 17) hx hb hts inlX5 hown hK hP 3 rfl rfl 6 (by decide) (hts (.fieldLink RX5 32 "ShapeReader$Shapes" "elseBits" "[I") mw_14_18) (fun _ h9 => h9) rfl dX5_addRecord_47 ?_
      refine lv_iload hx hb dX5_addRecord_50 (lv_at hl 0 rfl) ?_
      refine lv_iconst (v := 0) hx hb dX5_addRecord_52 (by decide) ?_
      refine va_iast hx hb hK hP hD hS 2 3 rfl rfl (vp_in_iff.mpr (by have a0 := il_nlt g_10; have a1 := il_nle g_11; have e0 : (0 : Int32).toInt = 0 := (by decide); have e1 : (36 : Int32).toInt = 36 := (by decide); omega)) dX5_addRecord_53 (fun H locs hP hD hS => ?_)
      obtain ⟨f_16, hP, hD⟩ : ∃ f_16 : Nat → Int32, va_P (dC, dI) vwCl [(ax5_4, .inl (cx5_4, 36, .inl f_15)), (ax5_5, .inl (cx5_5, 36, .inr (.inl f_14))), (ax5_6, .inl (cx5_6, 36, .inl f_16)), (h0, .inr (5, [.int xx5_0, .int xx5_1, .ref ax5_2, .ref ax5_3, .ref ax5_4, .ref ax5_5, .ref ax5_6, .ref ax5_7, .ref ax5_8, .ref ax5_9, .ref ax5_10, .ref ax5_11, .ref ax5_12, .ref ax5_13, .ref ax5_14, .ref ax5_15, .ref ax5_16])), (ax5_2, .inl (cx5_2, 6, .inl fx5_2))] H ∧ va_D A [(ax5_4, .inl (cx5_4, 36, .inl f_15)), (ax5_5, .inl (cx5_5, 36, .inr (.inl f_14))), (ax5_6, .inl (cx5_6, 36, .inl f_16)), (h0, .inr (5, [.int xx5_0, .int xx5_1, .ref ax5_2, .ref ax5_3, .ref ax5_4, .ref ax5_5, .ref ax5_6, .ref ax5_7, .ref ax5_8, .ref ax5_9, .ref ax5_10, .ref ax5_11, .ref ax5_12, .ref ax5_13, .ref ax5_14, .ref ax5_15, .ref ax5_16])), (ax5_2, .inl (cx5_2, 6, .inl fx5_2))] := ⟨_, hP, hD⟩
      refine lv_aload_n hx hb dX5_addRecord_54 rfl (lv_at hl 1 rfl) ?_
      refine va_get (D := (dC, dI)) (ci := 5) (v := .ref ax5_2) (C := RX5) (T := TX5) (N := 17) hx hb hts inlX5 hown hK hP 3 rfl rfl 2 (by decide) (hts (.fieldLink RX5 18 "ShapeReader$Shapes" "recordCounts" "[I") mw_14_14) (fun _ h9 => h9) rfl dX5_addRecord_55 ?_
      refine lv_iload_n hx hb dX5_addRecord_58 rfl (lv_at hl 2 rfl) ?_
      refine lv_dup2_11 hx hb dX5_addRecord_59 rfl rfl ?_
      refine va_iald hx hb hK hP 4 0 rfl rfl (vp_in_iff.mpr (by have a0 := il_nlt g_3; have a1 := il_nle g_4; have a2 := il_nlt c_7; have a3 := il_nle c_8; have e0 : (0 : Int32).toInt = 0 := (by decide); have e1 : (6 : Int32).toInt = 6 := (by decide); omega)) dX5_addRecord_60 ?_
      refine lv_topi (fun x_17 ex_17 => ?_)
      refine lv_iconst (v := 1) hx hb dX5_addRecord_61 (by decide) ?_
      refine lv_iadd hx hb dX5_addRecord_62 ?_
      refine lv_topi (fun x_18 ex_18 => ?_)
      refine va_iast hx hb hK hP hD hS 4 0 rfl rfl (vp_in_iff.mpr (by have a0 := il_nlt g_3; have a1 := il_nle g_4; have a2 := il_nlt c_7; have a3 := il_nle c_8; have e0 : (0 : Int32).toInt = 0 := (by decide); have e1 : (6 : Int32).toInt = 6 := (by decide); omega)) dX5_addRecord_63 (fun H locs hP hD hS => ?_)
      obtain ⟨f_19, hP, hD⟩ : ∃ f_19 : Nat → Int32, va_P (dC, dI) vwCl [(ax5_4, .inl (cx5_4, 36, .inl f_15)), (ax5_5, .inl (cx5_5, 36, .inr (.inl f_14))), (ax5_6, .inl (cx5_6, 36, .inl f_16)), (h0, .inr (5, [.int xx5_0, .int xx5_1, .ref ax5_2, .ref ax5_3, .ref ax5_4, .ref ax5_5, .ref ax5_6, .ref ax5_7, .ref ax5_8, .ref ax5_9, .ref ax5_10, .ref ax5_11, .ref ax5_12, .ref ax5_13, .ref ax5_14, .ref ax5_15, .ref ax5_16])), (ax5_2, .inl (cx5_2, 6, .inl f_19))] H ∧ va_D A [(ax5_4, .inl (cx5_4, 36, .inl f_15)), (ax5_5, .inl (cx5_5, 36, .inr (.inl f_14))), (ax5_6, .inl (cx5_6, 36, .inl f_16)), (h0, .inr (5, [.int xx5_0, .int xx5_1, .ref ax5_2, .ref ax5_3, .ref ax5_4, .ref ax5_5, .ref ax5_6, .ref ax5_7, .ref ax5_8, .ref ax5_9, .ref ax5_10, .ref ax5_11, .ref ax5_12, .ref ax5_13, .ref ax5_14, .ref ax5_15, .ref ax5_16])), (ax5_2, .inl (cx5_2, 6, .inl f_19))] := ⟨_, hP, hD⟩
      have hP9 := hP.sub (ws' := [(h0, .inr (5, [.int xx5_0, .int xx5_1, .ref ax5_2, .ref ax5_3, .ref ax5_4, .ref ax5_5, .ref ax5_6, .ref ax5_7, .ref ax5_8, .ref ax5_9, .ref ax5_10, .ref ax5_11, .ref ax5_12, .ref ax5_13, .ref ax5_14, .ref ax5_15, .ref ax5_16])), (ax5_2, .inl (cx5_2, 6, .inl f_19)), (ax5_4, .inl (cx5_4, 36, .inl f_15)), (ax5_5, .inl (cx5_5, 36, .inr (.inl f_14))), (ax5_6, .inl (cx5_6, 36, .inl f_16))]) [3, 4, 0, 1, 2] rfl
      have hD9 := hD.sub (ws' := [(h0, .inr (5, [.int xx5_0, .int xx5_1, .ref ax5_2, .ref ax5_3, .ref ax5_4, .ref ax5_5, .ref ax5_6, .ref ax5_7, .ref ax5_8, .ref ax5_9, .ref ax5_10, .ref ax5_11, .ref ax5_12, .ref ax5_13, .ref ax5_14, .ref ax5_15, .ref ax5_16])), (ax5_2, .inl (cx5_2, 6, .inl f_19)), (ax5_4, .inl (cx5_4, 36, .inl f_15)), (ax5_5, .inl (cx5_5, 36, .inr (.inl f_14))), (ax5_6, .inl (cx5_6, 36, .inl f_16))]) [3, 4, 0, 1, 2] (by decide) rfl
      have hK9 := hK.sub (tys' := [(cx5_2, .int), (cx5_4, .int), (cx5_5, .long), (cx5_6, .int)]) [0, 1, 2, 3] rfl
      refine W.widen (k := 0) (n := 0) (Nat.le_of_ble_eq_true rfl) (Nat.le_of_ble_eq_true rfl) ?_
      exact W.vret hx hb hr (fun t ht hW => ⟨⟨(), rfl, trivial, f_19, f_15, f_14, f_16, by rw [ht]; exact hP9, va_K.moved hW.alike hK9, hD9⟩, hS.F ht⟩) hS.2.2 dX5_addRecord_64
  · refine lv_iadd hx hb dX5_addRecord_9 ?_
    refine lv_topi (fun x_20 ex_20 => ?_)
    have bx_20 : ((-2147483648) : Int) ≤ x_20.toInt ∧ x_20.toInt ≤ (2147483647 : Int) := by have r0 := il_rng x_1; have e0 : (0 : Int32).toInt = 0 := (by decide); rw [ex_20, il_addE (by omega) (by omega)]; omega
    refine lv_istore (lv' := [(4, .int x_20), (0, .ref h0), (1, .int p0), (2, .long p1)]) hx hb dX5_addRecord_10 hl (by decide) rfl (fun ls hl => ?_)
    refine lv_iload_n hx hb dX5_addRecord_12 rfl (lv_at hl 2 rfl) ?_
    refine lv_if_lt (tgt := 64) hx hb dX5_addRecord_13 (by decide) (fun c_21 => ?_) (fun c_21 => ?_)
    · have hP9 := hP.sub (ws' := [(h0, .inr (5, [.int xx5_0, .int xx5_1, .ref ax5_2, .ref ax5_3, .ref ax5_4, .ref ax5_5, .ref ax5_6, .ref ax5_7, .ref ax5_8, .ref ax5_9, .ref ax5_10, .ref ax5_11, .ref ax5_12, .ref ax5_13, .ref ax5_14, .ref ax5_15, .ref ax5_16])), (ax5_2, .inl (cx5_2, 6, .inl fx5_2)), (ax5_4, .inl (cx5_4, 36, .inl fx5_4)), (ax5_5, .inl (cx5_5, 36, .inr (.inl fx5_5))), (ax5_6, .inl (cx5_6, 36, .inl fx5_6))]) [3, 4, 0, 1, 2] rfl
      have hD9 := hD.sub (ws' := [(h0, .inr (5, [.int xx5_0, .int xx5_1, .ref ax5_2, .ref ax5_3, .ref ax5_4, .ref ax5_5, .ref ax5_6, .ref ax5_7, .ref ax5_8, .ref ax5_9, .ref ax5_10, .ref ax5_11, .ref ax5_12, .ref ax5_13, .ref ax5_14, .ref ax5_15, .ref ax5_16])), (ax5_2, .inl (cx5_2, 6, .inl fx5_2)), (ax5_4, .inl (cx5_4, 36, .inl fx5_4)), (ax5_5, .inl (cx5_5, 36, .inr (.inl fx5_5))), (ax5_6, .inl (cx5_6, 36, .inl fx5_6))]) [3, 4, 0, 1, 2] (by decide) rfl
      have hK9 := hK.sub (tys' := [(cx5_2, .int), (cx5_4, .int), (cx5_5, .long), (cx5_6, .int)]) [0, 1, 2, 3] rfl
      refine W.widen (k := 0) (n := 0) (Nat.le_of_ble_eq_true rfl) (Nat.le_of_ble_eq_true rfl) ?_
      exact W.vret hx hb hr (fun t ht hW => ⟨⟨(), rfl, trivial, fx5_2, fx5_4, fx5_5, fx5_6, by rw [ht]; exact hP9, va_K.moved hW.alike hK9, hD9⟩, hS.F ht⟩) hS.2.2 dX5_addRecord_64
    · refine lv_iload_n hx hb dX5_addRecord_16 rfl (lv_at hl 2 rfl) ?_
      refine lv_bipush (v := 6) hx hb dX5_addRecord_17 (by decide) ?_
      refine lv_icmp_ge (tgt := 64) hx hb dX5_addRecord_19 (by decide) (fun c_22 => ?_) (fun c_22 => ?_)
      · have hP9 := hP.sub (ws' := [(h0, .inr (5, [.int xx5_0, .int xx5_1, .ref ax5_2, .ref ax5_3, .ref ax5_4, .ref ax5_5, .ref ax5_6, .ref ax5_7, .ref ax5_8, .ref ax5_9, .ref ax5_10, .ref ax5_11, .ref ax5_12, .ref ax5_13, .ref ax5_14, .ref ax5_15, .ref ax5_16])), (ax5_2, .inl (cx5_2, 6, .inl fx5_2)), (ax5_4, .inl (cx5_4, 36, .inl fx5_4)), (ax5_5, .inl (cx5_5, 36, .inr (.inl fx5_5))), (ax5_6, .inl (cx5_6, 36, .inl fx5_6))]) [3, 4, 0, 1, 2] rfl
        have hD9 := hD.sub (ws' := [(h0, .inr (5, [.int xx5_0, .int xx5_1, .ref ax5_2, .ref ax5_3, .ref ax5_4, .ref ax5_5, .ref ax5_6, .ref ax5_7, .ref ax5_8, .ref ax5_9, .ref ax5_10, .ref ax5_11, .ref ax5_12, .ref ax5_13, .ref ax5_14, .ref ax5_15, .ref ax5_16])), (ax5_2, .inl (cx5_2, 6, .inl fx5_2)), (ax5_4, .inl (cx5_4, 36, .inl fx5_4)), (ax5_5, .inl (cx5_5, 36, .inr (.inl fx5_5))), (ax5_6, .inl (cx5_6, 36, .inl fx5_6))]) [3, 4, 0, 1, 2] (by decide) rfl
        have hK9 := hK.sub (tys' := [(cx5_2, .int), (cx5_4, .int), (cx5_5, .long), (cx5_6, .int)]) [0, 1, 2, 3] rfl
        refine W.widen (k := 0) (n := 0) (Nat.le_of_ble_eq_true rfl) (Nat.le_of_ble_eq_true rfl) ?_
        exact W.vret hx hb hr (fun t ht hW => ⟨⟨(), rfl, trivial, fx5_2, fx5_4, fx5_5, fx5_6, by rw [ht]; exact hP9, va_K.moved hW.alike hK9, hD9⟩, hS.F ht⟩) hS.2.2 dX5_addRecord_64
      · refine lv_iload hx hb dX5_addRecord_22 (lv_at hl 0 rfl) ?_
        have hPc := hP.sub (ws' := []) [] rfl
        have hDc := hD.sub (ws' := []) [] (by decide) rfl
        have hKc := hK.sub (tys' := []) [] rfl
        have hFc := va_free (wc := []) hD hS hA [] rfl
        refine va_calli (va_runS (As := [.int x_20]) (rest := []) ⟨hx, hb, hml, hown, hts⟩ (s_X5_isRecord l dC dI x_20 H.size) (va_cwS 1 hts (gS mw_14_29 mw_15_0 mw_0_9 mw_48_24) rfl rfl rfl (by decide +kernel) ⟨(Nat.le_of_ble_eq_true rfl), (Nat.le_of_ble_eq_true rfl)⟩) (vS hKc hPc hDc hN) rfl rfl hl.1 rfl (lv_room (Nat.le_of_ble_eq_true rfl)) dX5_addRecord_24 ⟨(Nat.le_of_ble_eq_true rfl), (Nat.le_of_ble_eq_true rfl)⟩) hS (fun q _ h => hFc q h) hFc (fun r_23 u t H1 locs ht hvm hw hB hz1 hk1 hS => ?_)
        obtain ⟨hP1, hK1, hD1⟩ := hB
        rw [ht] at hP1
        have hK1 := va_K.moved hvm.symm hK1
        obtain ⟨hP, hD⟩ := va_join (wr := [(ax5_4, .inl (cx5_4, 36, .inl fx5_4)), (ax5_5, .inl (cx5_5, 36, .inr (.inl fx5_5))), (ax5_6, .inl (cx5_6, 36, .inl fx5_6)), (h0, .inr (5, [.int xx5_0, .int xx5_1, .ref ax5_2, .ref ax5_3, .ref ax5_4, .ref ax5_5, .ref ax5_6, .ref ax5_7, .ref ax5_8, .ref ax5_9, .ref ax5_10, .ref ax5_11, .ref ax5_12, .ref ax5_13, .ref ax5_14, .ref ax5_15, .ref ax5_16])), (ax5_2, .inl (cx5_2, 6, .inl fx5_2))]) (w1 := []) hP hD [] [0, 1, 2, 3, 4] rfl rfl (by decide) (by decide) hk1 hFc hP1 hD1
        clear hPc hDc hKc hP1 hK1 hD1 hFc hk1 hz1
        generalize H1 = H at hP hS ⊢
        have hP : va_P (dC, dI) vwCl [(ax5_4, .inl (cx5_4, 36, .inl fx5_4)), (ax5_5, .inl (cx5_5, 36, .inr (.inl fx5_5))), (ax5_6, .inl (cx5_6, 36, .inl fx5_6)), (h0, .inr (5, [.int xx5_0, .int xx5_1, .ref ax5_2, .ref ax5_3, .ref ax5_4, .ref ax5_5, .ref ax5_6, .ref ax5_7, .ref ax5_8, .ref ax5_9, .ref ax5_10, .ref ax5_11, .ref ax5_12, .ref ax5_13, .ref ax5_14, .ref ax5_15, .ref ax5_16])), (ax5_2, .inl (cx5_2, 6, .inl fx5_2))] H := hP
        have hD : va_D A [(ax5_4, .inl (cx5_4, 36, .inl fx5_4)), (ax5_5, .inl (cx5_5, 36, .inr (.inl fx5_5))), (ax5_6, .inl (cx5_6, 36, .inl fx5_6)), (h0, .inr (5, [.int xx5_0, .int xx5_1, .ref ax5_2, .ref ax5_3, .ref ax5_4, .ref ax5_5, .ref ax5_6, .ref ax5_7, .ref ax5_8, .ref ax5_9, .ref ax5_10, .ref ax5_11, .ref ax5_12, .ref ax5_13, .ref ax5_14, .ref ax5_15, .ref ax5_16])), (ax5_2, .inl (cx5_2, 6, .inl fx5_2))] := hD
        rcases hw with rfl | ⟨rfl, g_24, g_25⟩
        · refine lv_if_eq (tgt := 64) hx hb dX5_addRecord_27 (by decide) (fun _ => ?_) (fun h => absurd (by decide) h)
          have hP9 := hP.sub (ws' := [(h0, .inr (5, [.int xx5_0, .int xx5_1, .ref ax5_2, .ref ax5_3, .ref ax5_4, .ref ax5_5, .ref ax5_6, .ref ax5_7, .ref ax5_8, .ref ax5_9, .ref ax5_10, .ref ax5_11, .ref ax5_12, .ref ax5_13, .ref ax5_14, .ref ax5_15, .ref ax5_16])), (ax5_2, .inl (cx5_2, 6, .inl fx5_2)), (ax5_4, .inl (cx5_4, 36, .inl fx5_4)), (ax5_5, .inl (cx5_5, 36, .inr (.inl fx5_5))), (ax5_6, .inl (cx5_6, 36, .inl fx5_6))]) [3, 4, 0, 1, 2] rfl
          have hD9 := hD.sub (ws' := [(h0, .inr (5, [.int xx5_0, .int xx5_1, .ref ax5_2, .ref ax5_3, .ref ax5_4, .ref ax5_5, .ref ax5_6, .ref ax5_7, .ref ax5_8, .ref ax5_9, .ref ax5_10, .ref ax5_11, .ref ax5_12, .ref ax5_13, .ref ax5_14, .ref ax5_15, .ref ax5_16])), (ax5_2, .inl (cx5_2, 6, .inl fx5_2)), (ax5_4, .inl (cx5_4, 36, .inl fx5_4)), (ax5_5, .inl (cx5_5, 36, .inr (.inl fx5_5))), (ax5_6, .inl (cx5_6, 36, .inl fx5_6))]) [3, 4, 0, 1, 2] (by decide) rfl
          have hK9 := hK.sub (tys' := [(cx5_2, .int), (cx5_4, .int), (cx5_5, .long), (cx5_6, .int)]) [0, 1, 2, 3] rfl
          refine W.widen (k := 0) (n := 0) (Nat.le_of_ble_eq_true rfl) (Nat.le_of_ble_eq_true rfl) ?_
          exact W.vret hx hb hr (fun t ht hW => ⟨⟨(), rfl, trivial, fx5_2, fx5_4, fx5_5, fx5_6, by rw [ht]; exact hP9, va_K.moved hW.alike hK9, hD9⟩, hS.F ht⟩) hS.2.2 dX5_addRecord_64
        · refine lv_if_eq (tgt := 64) hx hb dX5_addRecord_27 (by decide) (fun h => absurd h (by decide)) (fun _ => ?_)
          refine lv_aload_n hx hb dX5_addRecord_30 rfl (lv_at hl 1 rfl) ?_
          refine va_get (D := (dC, dI)) (ci := 5) (v := .ref ax5_5) (C := RX5) (T := TX5) (N := 17) hx hb hts inlX5 hown hK hP 3 rfl rfl 5 (by decide) (hts (.fieldLink RX5 28 "ShapeReader$Shapes" "recordNames" "[J") mw_14_17) (fun _ h9 => h9) rfl dX5_addRecord_31 ?_
          refine lv_iload hx hb dX5_addRecord_34 (lv_at hl 0 rfl) ?_
          refine lv_lload_n hx hb dX5_addRecord_36 rfl (lv_at hl 3 rfl) ?_
          refine va_last hx hb hK hP hD hS 1 2 rfl rfl (vp_in_iff.mpr (by have a0 := bx_20.1; have a1 := bx_20.2; have a2 := il_nlt g_24; have a3 := il_nle g_25; have e0 : (0 : Int32).toInt = 0 := (by decide); have e1 : (36 : Int32).toInt = 36 := (by decide); omega)) dX5_addRecord_37 (fun H locs hP hD hS => ?_)
          obtain ⟨f_28, hP, hD⟩ : ∃ f_28 : Nat → Int64, va_P (dC, dI) vwCl [(ax5_4, .inl (cx5_4, 36, .inl fx5_4)), (ax5_5, .inl (cx5_5, 36, .inr (.inl f_28))), (ax5_6, .inl (cx5_6, 36, .inl fx5_6)), (h0, .inr (5, [.int xx5_0, .int xx5_1, .ref ax5_2, .ref ax5_3, .ref ax5_4, .ref ax5_5, .ref ax5_6, .ref ax5_7, .ref ax5_8, .ref ax5_9, .ref ax5_10, .ref ax5_11, .ref ax5_12, .ref ax5_13, .ref ax5_14, .ref ax5_15, .ref ax5_16])), (ax5_2, .inl (cx5_2, 6, .inl fx5_2))] H ∧ va_D A [(ax5_4, .inl (cx5_4, 36, .inl fx5_4)), (ax5_5, .inl (cx5_5, 36, .inr (.inl f_28))), (ax5_6, .inl (cx5_6, 36, .inl fx5_6)), (h0, .inr (5, [.int xx5_0, .int xx5_1, .ref ax5_2, .ref ax5_3, .ref ax5_4, .ref ax5_5, .ref ax5_6, .ref ax5_7, .ref ax5_8, .ref ax5_9, .ref ax5_10, .ref ax5_11, .ref ax5_12, .ref ax5_13, .ref ax5_14, .ref ax5_15, .ref ax5_16])), (ax5_2, .inl (cx5_2, 6, .inl fx5_2))] := ⟨_, hP, hD⟩
          refine lv_aload_n hx hb dX5_addRecord_38 rfl (lv_at hl 1 rfl) ?_
          refine va_get (D := (dC, dI)) (ci := 5) (v := .ref ax5_4) (C := RX5) (T := TX5) (N := 17) hx hb hts inlX5 hown hK hP 3 rfl rfl 4 (by decide) (hts (.fieldLink RX5 25 "ShapeReader$Shapes" "fieldCounts" "[I") mw_14_16) (fun _ h9 => h9) rfl dX5_addRecord_39 ?_
          refine lv_iload hx hb dX5_addRecord_42 (lv_at hl 0 rfl) ?_
          refine lv_iconst (v := 0) hx hb dX5_addRecord_44 (by decide) ?_
          refine va_iast hx hb hK hP hD hS 0 1 rfl rfl (vp_in_iff.mpr (by have a0 := bx_20.1; have a1 := bx_20.2; have a2 := il_nlt g_24; have a3 := il_nle g_25; have e0 : (0 : Int32).toInt = 0 := (by decide); have e1 : (36 : Int32).toInt = 36 := (by decide); omega)) dX5_addRecord_45 (fun H locs hP hD hS => ?_)
          obtain ⟨f_29, hP, hD⟩ : ∃ f_29 : Nat → Int32, va_P (dC, dI) vwCl [(ax5_4, .inl (cx5_4, 36, .inl f_29)), (ax5_5, .inl (cx5_5, 36, .inr (.inl f_28))), (ax5_6, .inl (cx5_6, 36, .inl fx5_6)), (h0, .inr (5, [.int xx5_0, .int xx5_1, .ref ax5_2, .ref ax5_3, .ref ax5_4, .ref ax5_5, .ref ax5_6, .ref ax5_7, .ref ax5_8, .ref ax5_9, .ref ax5_10, .ref ax5_11, .ref ax5_12, .ref ax5_13, .ref ax5_14, .ref ax5_15, .ref ax5_16])), (ax5_2, .inl (cx5_2, 6, .inl fx5_2))] H ∧ va_D A [(ax5_4, .inl (cx5_4, 36, .inl f_29)), (ax5_5, .inl (cx5_5, 36, .inr (.inl f_28))), (ax5_6, .inl (cx5_6, 36, .inl fx5_6)), (h0, .inr (5, [.int xx5_0, .int xx5_1, .ref ax5_2, .ref ax5_3, .ref ax5_4, .ref ax5_5, .ref ax5_6, .ref ax5_7, .ref ax5_8, .ref ax5_9, .ref ax5_10, .ref ax5_11, .ref ax5_12, .ref ax5_13, .ref ax5_14, .ref ax5_15, .ref ax5_16])), (ax5_2, .inl (cx5_2, 6, .inl fx5_2))] := ⟨_, hP, hD⟩
          refine lv_aload_n hx hb dX5_addRecord_46 rfl (lv_at hl 1 rfl) ?_
          refine va_get (D := (dC, dI)) (ci := 5) (v := .ref ax5_6) (C := RX5) (T := TX5) (N := 17) hx hb hts inlX5 hown hK hP 3 rfl rfl 6 (by decide) (hts (.fieldLink RX5 32 "ShapeReader$Shapes" "elseBits" "[I") mw_14_18) (fun _ h9 => h9) rfl dX5_addRecord_47 ?_
          refine lv_iload hx hb dX5_addRecord_50 (lv_at hl 0 rfl) ?_
          refine lv_iconst (v := 0) hx hb dX5_addRecord_52 (by decide) ?_
          refine va_iast hx hb hK hP hD hS 2 3 rfl rfl (vp_in_iff.mpr (by have a0 := bx_20.1; have a1 := bx_20.2; have a2 := il_nlt g_24; have a3 := il_nle g_25; have e0 : (0 : Int32).toInt = 0 := (by decide); have e1 : (36 : Int32).toInt = 36 := (by decide); omega)) dX5_addRecord_53 (fun H locs hP hD hS => ?_)
          obtain ⟨f_30, hP, hD⟩ : ∃ f_30 : Nat → Int32, va_P (dC, dI) vwCl [(ax5_4, .inl (cx5_4, 36, .inl f_29)), (ax5_5, .inl (cx5_5, 36, .inr (.inl f_28))), (ax5_6, .inl (cx5_6, 36, .inl f_30)), (h0, .inr (5, [.int xx5_0, .int xx5_1, .ref ax5_2, .ref ax5_3, .ref ax5_4, .ref ax5_5, .ref ax5_6, .ref ax5_7, .ref ax5_8, .ref ax5_9, .ref ax5_10, .ref ax5_11, .ref ax5_12, .ref ax5_13, .ref ax5_14, .ref ax5_15, .ref ax5_16])), (ax5_2, .inl (cx5_2, 6, .inl fx5_2))] H ∧ va_D A [(ax5_4, .inl (cx5_4, 36, .inl f_29)), (ax5_5, .inl (cx5_5, 36, .inr (.inl f_28))), (ax5_6, .inl (cx5_6, 36, .inl f_30)), (h0, .inr (5, [.int xx5_0, .int xx5_1, .ref ax5_2, .ref ax5_3, .ref ax5_4, .ref ax5_5, .ref ax5_6, .ref ax5_7, .ref ax5_8, .ref ax5_9, .ref ax5_10, .ref ax5_11, .ref ax5_12, .ref ax5_13, .ref ax5_14, .ref ax5_15, .ref ax5_16])), (ax5_2, .inl (cx5_2, 6, .inl fx5_2))] := ⟨_, hP, hD⟩
          refine lv_aload_n hx hb dX5_addRecord_54 rfl (lv_at hl 1 rfl) ?_
          refine va_get (D := (dC, dI)) (ci := 5) (v := .ref ax5_2) (C := RX5) (T := TX5) (N := 17) hx hb hts inlX5 hown hK hP 3 rfl rfl 2 (by decide) (hts (.fieldLink RX5 18 "ShapeReader$Shapes" "recordCounts" "[I") mw_14_14) (fun _ h9 => h9) rfl dX5_addRecord_55 ?_
          refine lv_iload_n hx hb dX5_addRecord_58 rfl (lv_at hl 2 rfl) ?_
          refine lv_dup2_11 hx hb dX5_addRecord_59 rfl rfl ?_
          refine va_iald hx hb hK hP 4 0 rfl rfl (vp_in_iff.mpr (by have a0 := il_nlt c_21; have a1 := il_nle c_22; have e0 : (0 : Int32).toInt = 0 := (by decide); have e1 : (6 : Int32).toInt = 6 := (by decide); omega)) dX5_addRecord_60 ?_
          refine lv_topi (fun x_31 ex_31 => ?_)
          refine lv_iconst (v := 1) hx hb dX5_addRecord_61 (by decide) ?_
          refine lv_iadd hx hb dX5_addRecord_62 ?_
          refine lv_topi (fun x_32 ex_32 => ?_)
          refine va_iast hx hb hK hP hD hS 4 0 rfl rfl (vp_in_iff.mpr (by have a0 := il_nlt c_21; have a1 := il_nle c_22; have e0 : (0 : Int32).toInt = 0 := (by decide); have e1 : (6 : Int32).toInt = 6 := (by decide); omega)) dX5_addRecord_63 (fun H locs hP hD hS => ?_)
          obtain ⟨f_33, hP, hD⟩ : ∃ f_33 : Nat → Int32, va_P (dC, dI) vwCl [(ax5_4, .inl (cx5_4, 36, .inl f_29)), (ax5_5, .inl (cx5_5, 36, .inr (.inl f_28))), (ax5_6, .inl (cx5_6, 36, .inl f_30)), (h0, .inr (5, [.int xx5_0, .int xx5_1, .ref ax5_2, .ref ax5_3, .ref ax5_4, .ref ax5_5, .ref ax5_6, .ref ax5_7, .ref ax5_8, .ref ax5_9, .ref ax5_10, .ref ax5_11, .ref ax5_12, .ref ax5_13, .ref ax5_14, .ref ax5_15, .ref ax5_16])), (ax5_2, .inl (cx5_2, 6, .inl f_33))] H ∧ va_D A [(ax5_4, .inl (cx5_4, 36, .inl f_29)), (ax5_5, .inl (cx5_5, 36, .inr (.inl f_28))), (ax5_6, .inl (cx5_6, 36, .inl f_30)), (h0, .inr (5, [.int xx5_0, .int xx5_1, .ref ax5_2, .ref ax5_3, .ref ax5_4, .ref ax5_5, .ref ax5_6, .ref ax5_7, .ref ax5_8, .ref ax5_9, .ref ax5_10, .ref ax5_11, .ref ax5_12, .ref ax5_13, .ref ax5_14, .ref ax5_15, .ref ax5_16])), (ax5_2, .inl (cx5_2, 6, .inl f_33))] := ⟨_, hP, hD⟩
          have hP9 := hP.sub (ws' := [(h0, .inr (5, [.int xx5_0, .int xx5_1, .ref ax5_2, .ref ax5_3, .ref ax5_4, .ref ax5_5, .ref ax5_6, .ref ax5_7, .ref ax5_8, .ref ax5_9, .ref ax5_10, .ref ax5_11, .ref ax5_12, .ref ax5_13, .ref ax5_14, .ref ax5_15, .ref ax5_16])), (ax5_2, .inl (cx5_2, 6, .inl f_33)), (ax5_4, .inl (cx5_4, 36, .inl f_29)), (ax5_5, .inl (cx5_5, 36, .inr (.inl f_28))), (ax5_6, .inl (cx5_6, 36, .inl f_30))]) [3, 4, 0, 1, 2] rfl
          have hD9 := hD.sub (ws' := [(h0, .inr (5, [.int xx5_0, .int xx5_1, .ref ax5_2, .ref ax5_3, .ref ax5_4, .ref ax5_5, .ref ax5_6, .ref ax5_7, .ref ax5_8, .ref ax5_9, .ref ax5_10, .ref ax5_11, .ref ax5_12, .ref ax5_13, .ref ax5_14, .ref ax5_15, .ref ax5_16])), (ax5_2, .inl (cx5_2, 6, .inl f_33)), (ax5_4, .inl (cx5_4, 36, .inl f_29)), (ax5_5, .inl (cx5_5, 36, .inr (.inl f_28))), (ax5_6, .inl (cx5_6, 36, .inl f_30))]) [3, 4, 0, 1, 2] (by decide) rfl
          have hK9 := hK.sub (tys' := [(cx5_2, .int), (cx5_4, .int), (cx5_5, .long), (cx5_6, .int)]) [0, 1, 2, 3] rfl
          refine W.widen (k := 0) (n := 0) (Nat.le_of_ble_eq_true rfl) (Nat.le_of_ble_eq_true rfl) ?_
          exact W.vret hx hb hr (fun t ht hW => ⟨⟨(), rfl, trivial, f_33, f_29, f_28, f_30, by rw [ht]; exact hP9, va_K.moved hW.alike hK9, hD9⟩, hS.F ht⟩) hS.2.2 dX5_addRecord_64
