theorem dX10_plans_0 : decode cX10_plans 0 = .ok (.iload_n 1, 1) := by decide +kernel
theorem dX10_plans_1 : decode cX10_plans 1 = .ok (.ifCond .lt 11, 3) := by decide +kernel
theorem dX10_plans_4 : decode cX10_plans 4 = .ok (.iload_n 1, 1) := by decide +kernel
theorem dX10_plans_5 : decode cX10_plans 5 = .ok (.aload_n 0, 1) := by decide +kernel
theorem dX10_plans_6 : decode cX10_plans 6 = .ok (.getfield 13, 3) := by decide +kernel
theorem dX10_plans_9 : decode cX10_plans 9 = .ok (.if_icmp .le 5, 3) := by decide +kernel
theorem dX10_plans_12 : decode cX10_plans 12 = .ok (.iconst (-1), 1) := by decide +kernel
theorem dX10_plans_13 : decode cX10_plans 13 = .ok (.ireturn, 1) := by decide +kernel
theorem dX10_plans_14 : decode cX10_plans 14 = .ok (.aload_n 0, 1) := by decide +kernel
theorem dX10_plans_15 : decode cX10_plans 15 = .ok (.iconst 0, 1) := by decide +kernel
theorem dX10_plans_16 : decode cX10_plans 16 = .ok (.putfield 13, 3) := by decide +kernel
theorem dX10_plans_19 : decode cX10_plans 19 = .ok (.aload_n 0, 1) := by decide +kernel
theorem dX10_plans_20 : decode cX10_plans 20 = .ok (.getfield 22, 3) := by decide +kernel
theorem dX10_plans_23 : decode cX10_plans 23 = .ok (.iload_n 1, 1) := by decide +kernel
theorem dX10_plans_24 : decode cX10_plans 24 = .ok (.invokevirtual 114, 3) := by decide +kernel
theorem dX10_plans_27 : decode cX10_plans 27 = .ok (.aload_n 0, 1) := by decide +kernel
theorem dX10_plans_28 : decode cX10_plans 28 = .ok (.getfield 41, 3) := by decide +kernel
theorem dX10_plans_31 : decode cX10_plans 31 = .ok (.invokevirtual 117, 3) := by decide +kernel
theorem dX10_plans_34 : decode cX10_plans 34 = .ok (.ifCond .ne 11, 3) := by decide +kernel
theorem dX10_plans_37 : decode cX10_plans 37 = .ok (.aload_n 0, 1) := by decide +kernel
theorem dX10_plans_38 : decode cX10_plans 38 = .ok (.getfield 22, 3) := by decide +kernel
theorem dX10_plans_41 : decode cX10_plans 41 = .ok (.invokevirtual 121, 3) := by decide +kernel
theorem dX10_plans_44 : decode cX10_plans 44 = .ok (.ireturn, 1) := by decide +kernel
theorem dX10_plans_45 : decode cX10_plans 45 = .ok (.aload_n 0, 1) := by decide +kernel
theorem dX10_plans_46 : decode cX10_plans 46 = .ok (.getfield 29, 3) := by decide +kernel
theorem dX10_plans_49 : decode cX10_plans 49 = .ok (.aload_n 0, 1) := by decide +kernel
theorem dX10_plans_50 : decode cX10_plans 50 = .ok (.getfield 33, 3) := by decide +kernel
theorem dX10_plans_53 : decode cX10_plans 53 = .ok (.invokevirtual 125, 3) := by decide +kernel
theorem dX10_plans_56 : decode cX10_plans 56 = .ok (.aload_n 0, 1) := by decide +kernel
theorem dX10_plans_57 : decode cX10_plans 57 = .ok (.getfield 29, 3) := by decide +kernel
theorem dX10_plans_60 : decode cX10_plans 60 = .ok (.invokevirtual 128, 3) := by decide +kernel
theorem dX10_plans_63 : decode cX10_plans 63 = .ok (.aload_n 0, 1) := by decide +kernel
theorem dX10_plans_64 : decode cX10_plans 64 = .ok (.getfield 48, 3) := by decide +kernel
theorem dX10_plans_67 : decode cX10_plans 67 = .ok (.invokevirtual 131, 3) := by decide +kernel
theorem dX10_plans_70 : decode cX10_plans 70 = .ok (.aload_n 0, 1) := by decide +kernel
theorem dX10_plans_71 : decode cX10_plans 71 = .ok (.getfield 57, 3) := by decide +kernel
theorem dX10_plans_74 : decode cX10_plans 74 = .ok (.invokevirtual 134, 3) := by decide +kernel
theorem dX10_plans_77 : decode cX10_plans 77 = .ok (.aload_n 0, 1) := by decide +kernel
theorem dX10_plans_78 : decode cX10_plans 78 = .ok (.getfield 64, 3) := by decide +kernel
theorem dX10_plans_81 : decode cX10_plans 81 = .ok (.invokevirtual 135, 3) := by decide +kernel
theorem dX10_plans_84 : decode cX10_plans 84 = .ok (.aload_n 0, 1) := by decide +kernel
theorem dX10_plans_85 : decode cX10_plans 85 = .ok (.getfield 73, 3) := by decide +kernel
theorem dX10_plans_88 : decode cX10_plans 88 = .ok (.invokevirtual 136, 3) := by decide +kernel
theorem dX10_plans_91 : decode cX10_plans 91 = .ok (.aload_n 0, 1) := by decide +kernel
theorem dX10_plans_92 : decode cX10_plans 92 = .ok (.getfield 29, 3) := by decide +kernel
theorem dX10_plans_95 : decode cX10_plans 95 = .ok (.getfield 137, 3) := by decide +kernel
theorem dX10_plans_98 : decode cX10_plans 98 = .ok (.ireturn, 1) := by decide +kernel
theorem dX10_read_0 : decode cX10_read 0 = .ok (.aload_n 0, 1) := by decide +kernel
theorem dX10_read_1 : decode cX10_read 1 = .ok (.getfield 48, 3) := by decide +kernel
theorem dX10_read_4 : decode cX10_read 4 = .ok (.iload_n 1, 1) := by decide +kernel
theorem dX10_read_5 : decode cX10_read 5 = .ok (.invokevirtual 205, 3) := by decide +kernel
theorem dX10_read_8 : decode cX10_read 8 = .ok (.ifCond .eq 11, 3) := by decide +kernel
theorem dX10_read_11 : decode cX10_read 11 = .ok (.aload_n 0, 1) := by decide +kernel
theorem dX10_read_12 : decode cX10_read 12 = .ok (.iload_n 2, 1) := by decide +kernel
theorem dX10_read_13 : decode cX10_read 13 = .ok (.invokevirtual 144, 3) := by decide +kernel
theorem dX10_read_16 : decode cX10_read 16 = .ok (.ifCond .ne 5, 3) := by decide +kernel
theorem dX10_read_19 : decode cX10_read 19 = .ok (.iconst (-1), 1) := by decide +kernel
theorem dX10_read_20 : decode cX10_read 20 = .ok (.ireturn, 1) := by decide +kernel
theorem dX10_read_21 : decode cX10_read 21 = .ok (.aload_n 0, 1) := by decide +kernel
theorem dX10_read_22 : decode cX10_read 22 = .ok (.getfield 64, 3) := by decide +kernel
theorem dX10_read_25 : decode cX10_read 25 = .ok (.aload_n 0, 1) := by decide +kernel
theorem dX10_read_26 : decode cX10_read 26 = .ok (.getfield 48, 3) := by decide +kernel
theorem dX10_read_29 : decode cX10_read 29 = .ok (.iload_n 1, 1) := by decide +kernel
theorem dX10_read_30 : decode cX10_read 30 = .ok (.invokevirtual 211, 3) := by decide +kernel
theorem dX10_read_33 : decode cX10_read 33 = .ok (.iload_n 2, 1) := by decide +kernel
theorem dX10_read_34 : decode cX10_read 34 = .ok (.invokevirtual 249, 3) := by decide +kernel
theorem dX10_read_37 : decode cX10_read 37 = .ok (.aload_n 0, 1) := by decide +kernel
theorem dX10_read_38 : decode cX10_read 38 = .ok (.getfield 104, 3) := by decide +kernel
theorem dX10_read_41 : decode cX10_read 41 = .ok (.iload_n 1, 1) := by decide +kernel
theorem dX10_read_42 : decode cX10_read 42 = .ok (.iload_n 2, 1) := by decide +kernel
theorem dX10_read_43 : decode cX10_read 43 = .ok (.aload_n 0, 1) := by decide +kernel
theorem dX10_read_44 : decode cX10_read 44 = .ok (.getfield 73, 3) := by decide +kernel
theorem dX10_read_47 : decode cX10_read 47 = .ok (.invokevirtual 252, 3) := by decide +kernel
theorem dX10_read_50 : decode cX10_read 50 = .ok (.ireturn, 1) := by decide +kernel
theorem dX10_readers_0 : decode cX10_readers 0 = .ok (.aload_n 0, 1) := by decide +kernel
theorem dX10_readers_1 : decode cX10_readers 1 = .ok (.iload_n 1, 1) := by decide +kernel
theorem dX10_readers_2 : decode cX10_readers 2 = .ok (.invokevirtual 144, 3) := by decide +kernel
theorem dX10_readers_5 : decode cX10_readers 5 = .ok (.ifCond .eq 12, 3) := by decide +kernel
theorem dX10_readers_8 : decode cX10_readers 8 = .ok (.iload_n 2, 1) := by decide +kernel
theorem dX10_readers_9 : decode cX10_readers 9 = .ok (.ifCond .lt 8, 3) := by decide +kernel
theorem dX10_readers_12 : decode cX10_readers 12 = .ok (.iload_n 2, 1) := by decide +kernel
theorem dX10_readers_13 : decode cX10_readers 13 = .ok (.iconst 1, 1) := by decide +kernel
theorem dX10_readers_14 : decode cX10_readers 14 = .ok (.if_icmp .le 5, 3) := by decide +kernel
theorem dX10_readers_17 : decode cX10_readers 17 = .ok (.iconst (-1), 1) := by decide +kernel
theorem dX10_readers_18 : decode cX10_readers 18 = .ok (.ireturn, 1) := by decide +kernel
theorem dX10_readers_19 : decode cX10_readers 19 = .ok (.iconst 0, 1) := by decide +kernel
theorem dX10_readers_20 : decode cX10_readers 20 = .ok (.istore_n 3, 1) := by decide +kernel
theorem dX10_readers_21 : decode cX10_readers 21 = .ok (.iconst 0, 1) := by decide +kernel
theorem dX10_readers_22 : decode cX10_readers 22 = .ok (.istore 4, 2) := by decide +kernel
theorem dX10_readers_24 : decode cX10_readers 24 = .ok (.iload 4, 2) := by decide +kernel
theorem dX10_readers_26 : decode cX10_readers 26 = .ok (.aload_n 0, 1) := by decide +kernel
theorem dX10_readers_27 : decode cX10_readers 27 = .ok (.getfield 29, 3) := by decide +kernel
theorem dX10_readers_30 : decode cX10_readers 30 = .ok (.getfield 137, 3) := by decide +kernel
theorem dX10_readers_33 : decode cX10_readers 33 = .ok (.if_icmp .ge 30, 3) := by decide +kernel
theorem dX10_readers_36 : decode cX10_readers 36 = .ok (.aload_n 0, 1) := by decide +kernel
theorem dX10_readers_37 : decode cX10_readers 37 = .ok (.getfield 57, 3) := by decide +kernel
theorem dX10_readers_40 : decode cX10_readers 40 = .ok (.iload_n 1, 1) := by decide +kernel
theorem dX10_readers_41 : decode cX10_readers 41 = .ok (.iload 4, 2) := by decide +kernel
theorem dX10_readers_43 : decode cX10_readers 43 = .ok (.invokevirtual 230, 3) := by decide +kernel
theorem dX10_readers_46 : decode cX10_readers 46 = .ok (.iload_n 2, 1) := by decide +kernel
theorem dX10_readers_47 : decode cX10_readers 47 = .ok (.if_icmp .gt 10, 3) := by decide +kernel
theorem dX10_readers_50 : decode cX10_readers 50 = .ok (.iload_n 3, 1) := by decide +kernel
theorem dX10_readers_51 : decode cX10_readers 51 = .ok (.iconst 1, 1) := by decide +kernel
theorem dX10_readers_52 : decode cX10_readers 52 = .ok (.iload 4, 2) := by decide +kernel
theorem dX10_readers_54 : decode cX10_readers 54 = .ok (.ishl, 1) := by decide +kernel
theorem dX10_readers_55 : decode cX10_readers 55 = .ok (.ior, 1) := by decide +kernel
theorem dX10_readers_56 : decode cX10_readers 56 = .ok (.istore_n 3, 1) := by decide +kernel
theorem dX10_readers_57 : decode cX10_readers 57 = .ok (.iinc 4 1, 3) := by decide +kernel
theorem dX10_readers_60 : decode cX10_readers 60 = .ok (.goto (-36), 3) := by decide +kernel
theorem dX10_readers_63 : decode cX10_readers 63 = .ok (.iload_n 3, 1) := by decide +kernel
theorem dX10_readers_64 : decode cX10_readers 64 = .ok (.ireturn, 1) := by decide +kernel
theorem dX10_record_0 : decode cX10_record 0 = .ok (.aload_n 0, 1) := by decide +kernel
theorem dX10_record_1 : decode cX10_record 1 = .ok (.iload_n 1, 1) := by decide +kernel
theorem dX10_record_2 : decode cX10_record 2 = .ok (.invokevirtual 144, 3) := by decide +kernel
theorem dX10_record_5 : decode cX10_record 5 = .ok (.ifCond .ne 5, 3) := by decide +kernel
theorem dX10_record_8 : decode cX10_record 8 = .ok (.iconst (-1), 1) := by decide +kernel
theorem dX10_record_9 : decode cX10_record 9 = .ok (.ireturn, 1) := by decide +kernel
theorem dX10_record_10 : decode cX10_record 10 = .ok (.aload_n 0, 1) := by decide +kernel
theorem dX10_record_11 : decode cX10_record 11 = .ok (.getfield 29, 3) := by decide +kernel
theorem dX10_record_14 : decode cX10_record 14 = .ok (.iload_n 1, 1) := by decide +kernel
theorem dX10_record_15 : decode cX10_record 15 = .ok (.invokevirtual 167, 3) := by decide +kernel
theorem dX10_record_18 : decode cX10_record 18 = .ok (.istore 4, 2) := by decide +kernel
theorem dX10_record_20 : decode cX10_record 20 = .ok (.iload_n 2, 1) := by decide +kernel
theorem dX10_record_21 : decode cX10_record 21 = .ok (.iconst (-1), 1) := by decide +kernel
theorem dX10_record_22 : decode cX10_record 22 = .ok (.if_icmp .ne 6, 3) := by decide +kernel
theorem dX10_record_25 : decode cX10_record 25 = .ok (.iload 4, 2) := by decide +kernel
theorem dX10_record_27 : decode cX10_record 27 = .ok (.ireturn, 1) := by decide +kernel
theorem dX10_record_28 : decode cX10_record 28 = .ok (.iload_n 2, 1) := by decide +kernel
theorem dX10_record_29 : decode cX10_record 29 = .ok (.ifCond .lt 9, 3) := by decide +kernel
theorem dX10_record_32 : decode cX10_record 32 = .ok (.iload_n 2, 1) := by decide +kernel
theorem dX10_record_33 : decode cX10_record 33 = .ok (.iload 4, 2) := by decide +kernel
theorem dX10_record_35 : decode cX10_record 35 = .ok (.if_icmp .lt 5, 3) := by decide +kernel
theorem dX10_record_38 : decode cX10_record 38 = .ok (.iconst (-1), 1) := by decide +kernel
theorem dX10_record_39 : decode cX10_record 39 = .ok (.ireturn, 1) := by decide +kernel
theorem dX10_record_40 : decode cX10_record 40 = .ok (.iload_n 1, 1) := by decide +kernel
theorem dX10_record_41 : decode cX10_record 41 = .ok (.bipush 6, 2) := by decide +kernel
theorem dX10_record_43 : decode cX10_record 43 = .ok (.imul, 1) := by decide +kernel
theorem dX10_record_44 : decode cX10_record 44 = .ok (.iload_n 2, 1) := by decide +kernel
theorem dX10_record_45 : decode cX10_record 45 = .ok (.iadd, 1) := by decide +kernel
theorem dX10_record_46 : decode cX10_record 46 = .ok (.istore 5, 2) := by decide +kernel
theorem dX10_record_48 : decode cX10_record 48 = .ok (.iload_n 3, 1) := by decide +kernel
theorem dX10_record_49 : decode cX10_record 49 = .ok (.lookupswitch 50 #[(0, 27), (1, 37)], 27) := by decide +kernel
theorem dX10_record_76 : decode cX10_record 76 = .ok (.aload_n 0, 1) := by decide +kernel
theorem dX10_record_77 : decode cX10_record 77 = .ok (.getfield 29, 3) := by decide +kernel
theorem dX10_record_80 : decode cX10_record 80 = .ok (.iload 5, 2) := by decide +kernel
theorem dX10_record_82 : decode cX10_record 82 = .ok (.invokevirtual 170, 3) := by decide +kernel
theorem dX10_record_85 : decode cX10_record 85 = .ok (.ireturn, 1) := by decide +kernel
theorem dX10_record_86 : decode cX10_record 86 = .ok (.aload_n 0, 1) := by decide +kernel
theorem dX10_record_87 : decode cX10_record 87 = .ok (.getfield 29, 3) := by decide +kernel
theorem dX10_record_90 : decode cX10_record 90 = .ok (.iload 5, 2) := by decide +kernel
theorem dX10_record_92 : decode cX10_record 92 = .ok (.invokevirtual 173, 3) := by decide +kernel
theorem dX10_record_95 : decode cX10_record 95 = .ok (.invokestatic 177, 3) := by decide +kernel
theorem dX10_record_98 : decode cX10_record 98 = .ok (.ireturn, 1) := by decide +kernel
theorem dX10_record_99 : decode cX10_record 99 = .ok (.iconst (-1), 1) := by decide +kernel
theorem dX10_record_100 : decode cX10_record 100 = .ok (.ireturn, 1) := by decide +kernel
theorem dX10_spoil_0 : decode cX10_spoil 0 = .ok (.aload_n 0, 1) := by decide +kernel
theorem dX10_spoil_1 : decode cX10_spoil 1 = .ok (.getfield 48, 3) := by decide +kernel
theorem dX10_spoil_4 : decode cX10_spoil 4 = .ok (.iload_n 1, 1) := by decide +kernel
theorem dX10_spoil_5 : decode cX10_spoil 5 = .ok (.iload_n 2, 1) := by decide +kernel
theorem dX10_spoil_6 : decode cX10_spoil 6 = .ok (.invokevirtual 214, 3) := by decide +kernel
theorem dX10_spoil_9 : decode cX10_spoil 9 = .ok (.ifCond .ne 5, 3) := by decide +kernel
theorem dX10_spoil_12 : decode cX10_spoil 12 = .ok (.iconst (-1), 1) := by decide +kernel
theorem dX10_spoil_13 : decode cX10_spoil 13 = .ok (.ireturn, 1) := by decide +kernel
theorem dX10_spoil_14 : decode cX10_spoil 14 = .ok (.aload_n 0, 1) := by decide +kernel
theorem dX10_spoil_15 : decode cX10_spoil 15 = .ok (.getfield 48, 3) := by decide +kernel
theorem dX10_spoil_18 : decode cX10_spoil 18 = .ok (.iload_n 1, 1) := by decide +kernel
theorem dX10_spoil_19 : decode cX10_spoil 19 = .ok (.iload_n 2, 1) := by decide +kernel
theorem dX10_spoil_20 : decode cX10_spoil 20 = .ok (.iload_n 3, 1) := by decide +kernel
theorem dX10_spoil_21 : decode cX10_spoil 21 = .ok (.invokevirtual 223, 3) := by decide +kernel
theorem dX10_spoil_24 : decode cX10_spoil 24 = .ok (.ireturn, 1) := by decide +kernel
theorem dX1_change_0 : decode cX1_change 0 = .ok (.aload_n 0, 1) := by decide +kernel
theorem dX1_change_1 : decode cX1_change 1 = .ok (.iload_n 1, 1) := by decide +kernel
theorem dX1_change_2 : decode cX1_change 2 = .ok (.iload_n 2, 1) := by decide +kernel
theorem dX1_change_3 : decode cX1_change 3 = .ok (.invokevirtual 35, 3) := by decide +kernel
theorem dX1_change_6 : decode cX1_change 6 = .ok (.istore 4, 2) := by decide +kernel
theorem dX1_change_8 : decode cX1_change 8 = .ok (.aload_n 0, 1) := by decide +kernel
theorem dX1_change_9 : decode cX1_change 9 = .ok (.iload_n 1, 1) := by decide +kernel
theorem dX1_change_10 : decode cX1_change 10 = .ok (.iload_n 2, 1) := by decide +kernel
theorem dX1_change_11 : decode cX1_change 11 = .ok (.invokevirtual 39, 3) := by decide +kernel
theorem dX1_change_14 : decode cX1_change 14 = .ok (.ifCond .eq 20, 3) := by decide +kernel
theorem dX1_change_17 : decode cX1_change 17 = .ok (.aload_n 0, 1) := by decide +kernel
theorem dX1_change_18 : decode cX1_change 18 = .ok (.getfield 9, 3) := by decide +kernel
theorem dX1_change_21 : decode cX1_change 21 = .ok (.iload_n 1, 1) := by decide +kernel
theorem dX1_change_22 : decode cX1_change 22 = .ok (.sipush 400, 3) := by decide +kernel
theorem dX1_change_25 : decode cX1_change 25 = .ok (.imul, 1) := by decide +kernel
theorem dX1_change_26 : decode cX1_change 26 = .ok (.iload_n 2, 1) := by decide +kernel
theorem dX1_change_27 : decode cX1_change 27 = .ok (.iadd, 1) := by decide +kernel
theorem dX1_change_28 : decode cX1_change 28 = .ok (.iload 4, 2) := by decide +kernel
theorem dX1_change_30 : decode cX1_change 30 = .ok (.iload_n 3, 1) := by decide +kernel
theorem dX1_change_31 : decode cX1_change 31 = .ok (.ixor, 1) := by decide +kernel
theorem dX1_change_32 : decode cX1_change 32 = .ok (.i2b, 1) := by decide +kernel
theorem dX1_change_33 : decode cX1_change 33 = .ok (.bastore, 1) := by decide +kernel
theorem dX1_change_34 : decode cX1_change 34 = .ok (.iload 4, 2) := by decide +kernel
theorem dX1_change_36 : decode cX1_change 36 = .ok (.ireturn, 1) := by decide +kernel
theorem dX6_faultAnswer_0 : decode cX6_faultAnswer 0 = .ok (.bipush (-2), 2) := by decide +kernel
theorem dX6_faultAnswer_2 : decode cX6_faultAnswer 2 = .ok (.bipush 8, 2) := by decide +kernel
theorem dX6_faultAnswer_4 : decode cX6_faultAnswer 4 = .ok (.aload_n 0, 1) := by decide +kernel
theorem dX6_faultAnswer_5 : decode cX6_faultAnswer 5 = .ok (.getfield 51, 3) := by decide +kernel
theorem dX6_faultAnswer_8 : decode cX6_faultAnswer 8 = .ok (.imul, 1) := by decide +kernel
theorem dX6_faultAnswer_9 : decode cX6_faultAnswer 9 = .ok (.aload_n 0, 1) := by decide +kernel
theorem dX6_faultAnswer_10 : decode cX6_faultAnswer 10 = .ok (.getfield 48, 3) := by decide +kernel
theorem dX6_faultAnswer_13 : decode cX6_faultAnswer 13 = .ok (.iadd, 1) := by decide +kernel
theorem dX6_faultAnswer_14 : decode cX6_faultAnswer 14 = .ok (.isub, 1) := by decide +kernel
theorem dX6_faultAnswer_15 : decode cX6_faultAnswer 15 = .ok (.ireturn, 1) := by decide +kernel
theorem dX8_closeRecord_0 : decode cX8_closeRecord 0 = .ok (.iconst 0, 1) := by decide +kernel
theorem dX8_closeRecord_1 : decode cX8_closeRecord 1 = .ok (.istore_n 3, 1) := by decide +kernel
theorem dX8_closeRecord_2 : decode cX8_closeRecord 2 = .ok (.iload_n 3, 1) := by decide +kernel
theorem dX8_closeRecord_3 : decode cX8_closeRecord 3 = .ok (.aload_n 0, 1) := by decide +kernel
theorem dX8_closeRecord_4 : decode cX8_closeRecord 4 = .ok (.getfield 15, 3) := by decide +kernel
theorem dX8_closeRecord_7 : decode cX8_closeRecord 7 = .ok (.iload_n 1, 1) := by decide +kernel
theorem dX8_closeRecord_8 : decode cX8_closeRecord 8 = .ok (.invokevirtual 106, 3) := by decide +kernel
theorem dX8_closeRecord_11 : decode cX8_closeRecord 11 = .ok (.if_icmp .ge 39, 3) := by decide +kernel
theorem dX8_closeRecord_14 : decode cX8_closeRecord 14 = .ok (.iload_n 2, 1) := by decide +kernel
theorem dX8_closeRecord_15 : decode cX8_closeRecord 15 = .ok (.iload_n 3, 1) := by decide +kernel
theorem dX8_closeRecord_16 : decode cX8_closeRecord 16 = .ok (.ishr, 1) := by decide +kernel
theorem dX8_closeRecord_17 : decode cX8_closeRecord 17 = .ok (.iconst 1, 1) := by decide +kernel
theorem dX8_closeRecord_18 : decode cX8_closeRecord 18 = .ok (.iand, 1) := by decide +kernel
theorem dX8_closeRecord_19 : decode cX8_closeRecord 19 = .ok (.ifCond .ne 25, 3) := by decide +kernel
theorem dX8_closeRecord_22 : decode cX8_closeRecord 22 = .ok (.aload_n 0, 1) := by decide +kernel
theorem dX8_closeRecord_23 : decode cX8_closeRecord 23 = .ok (.getfield 15, 3) := by decide +kernel
theorem dX8_closeRecord_26 : decode cX8_closeRecord 26 = .ok (.iload_n 1, 1) := by decide +kernel
theorem dX8_closeRecord_27 : decode cX8_closeRecord 27 = .ok (.iload_n 3, 1) := by decide +kernel
theorem dX8_closeRecord_28 : decode cX8_closeRecord 28 = .ok (.invokevirtual 109, 3) := by decide +kernel
theorem dX8_closeRecord_31 : decode cX8_closeRecord 31 = .ok (.ifCond .ne 13, 3) := by decide +kernel
theorem dX8_closeRecord_34 : decode cX8_closeRecord 34 = .ok (.aload_n 0, 1) := by decide +kernel
theorem dX8_closeRecord_35 : decode cX8_closeRecord 35 = .ok (.getfield 9, 3) := by decide +kernel
theorem dX8_closeRecord_38 : decode cX8_closeRecord 38 = .ok (.bipush 6, 2) := by decide +kernel
theorem dX8_closeRecord_40 : decode cX8_closeRecord 40 = .ok (.invokevirtual 38, 3) := by decide +kernel
theorem dX8_closeRecord_43 : decode cX8_closeRecord 43 = .ok (.ireturn, 1) := by decide +kernel
theorem dX8_closeRecord_44 : decode cX8_closeRecord 44 = .ok (.iinc 3 1, 3) := by decide +kernel
theorem dX8_closeRecord_47 : decode cX8_closeRecord 47 = .ok (.goto (-45), 3) := by decide +kernel
theorem dX8_closeRecord_50 : decode cX8_closeRecord 50 = .ok (.aload_n 0, 1) := by decide +kernel
theorem dX8_closeRecord_51 : decode cX8_closeRecord 51 = .ok (.getfield 9, 3) := by decide +kernel
theorem dX8_closeRecord_54 : decode cX8_closeRecord 54 = .ok (.invokevirtual 71, 3) := by decide +kernel
theorem dX8_closeRecord_57 : decode cX8_closeRecord 57 = .ok (.iconst 1, 1) := by decide +kernel
theorem dX8_closeRecord_58 : decode cX8_closeRecord 58 = .ok (.ireturn, 1) := by decide +kernel
theorem dX8_fittingType_0 : decode cX8_fittingType 0 = .ok (.aload_n 0, 1) := by decide +kernel
theorem dX8_fittingType_1 : decode cX8_fittingType 1 = .ok (.getfield 15, 3) := by decide +kernel
theorem dX8_fittingType_4 : decode cX8_fittingType 4 = .ok (.iload_n 1, 1) := by decide +kernel
theorem dX8_fittingType_5 : decode cX8_fittingType 5 = .ok (.invokevirtual 50, 3) := by decide +kernel
theorem dX8_fittingType_8 : decode cX8_fittingType 8 = .ok (.bipush 8, 2) := by decide +kernel
theorem dX8_fittingType_10 : decode cX8_fittingType 10 = .ok (.if_icmp .eq 27, 3) := by decide +kernel
theorem dX8_fittingType_13 : decode cX8_fittingType 13 = .ok (.aload_n 0, 1) := by decide +kernel
theorem dX8_fittingType_14 : decode cX8_fittingType 14 = .ok (.getfield 9, 3) := by decide +kernel
theorem dX8_fittingType_17 : decode cX8_fittingType 17 = .ok (.aload_n 0, 1) := by decide +kernel
theorem dX8_fittingType_18 : decode cX8_fittingType 18 = .ok (.getfield 15, 3) := by decide +kernel
theorem dX8_fittingType_21 : decode cX8_fittingType 21 = .ok (.iload_n 1, 1) := by decide +kernel
theorem dX8_fittingType_22 : decode cX8_fittingType 22 = .ok (.invokevirtual 50, 3) := by decide +kernel
theorem dX8_fittingType_25 : decode cX8_fittingType 25 = .ok (.invokevirtual 84, 3) := by decide +kernel
theorem dX8_fittingType_28 : decode cX8_fittingType 28 = .ok (.ifCond .eq 7, 3) := by decide +kernel
theorem dX8_fittingType_31 : decode cX8_fittingType 31 = .ok (.iload_n 1, 1) := by decide +kernel
theorem dX8_fittingType_32 : decode cX8_fittingType 32 = .ok (.goto 4, 3) := by decide +kernel
theorem dX8_fittingType_35 : decode cX8_fittingType 35 = .ok (.iconst (-1), 1) := by decide +kernel
theorem dX8_fittingType_36 : decode cX8_fittingType 36 = .ok (.ireturn, 1) := by decide +kernel
theorem dX8_fittingType_37 : decode cX8_fittingType 37 = .ok (.aload_n 0, 1) := by decide +kernel
theorem dX8_fittingType_38 : decode cX8_fittingType 38 = .ok (.getfield 15, 3) := by decide +kernel
theorem dX8_fittingType_41 : decode cX8_fittingType 41 = .ok (.iload_n 1, 1) := by decide +kernel
theorem dX8_fittingType_42 : decode cX8_fittingType 42 = .ok (.invokevirtual 74, 3) := by decide +kernel
theorem dX8_fittingType_45 : decode cX8_fittingType 45 = .ok (.istore_n 2, 1) := by decide +kernel
theorem dX8_fittingType_46 : decode cX8_fittingType 46 = .ok (.iconst 0, 1) := by decide +kernel
theorem dX8_fittingType_47 : decode cX8_fittingType 47 = .ok (.istore_n 3, 1) := by decide +kernel
theorem dX8_fittingType_48 : decode cX8_fittingType 48 = .ok (.iload_n 3, 1) := by decide +kernel
theorem dX8_fittingType_49 : decode cX8_fittingType 49 = .ok (.iconst 4, 1) := by decide +kernel
theorem dX8_fittingType_50 : decode cX8_fittingType 50 = .ok (.if_icmp .ge 43, 3) := by decide +kernel
theorem dX8_fittingType_53 : decode cX8_fittingType 53 = .ok (.iload_n 2, 1) := by decide +kernel
theorem dX8_fittingType_54 : decode cX8_fittingType 54 = .ok (.iconst (-1), 1) := by decide +kernel
theorem dX8_fittingType_55 : decode cX8_fittingType 55 = .ok (.if_icmp .eq 38, 3) := by decide +kernel
theorem dX8_fittingType_58 : decode cX8_fittingType 58 = .ok (.aload_n 0, 1) := by decide +kernel
theorem dX8_fittingType_59 : decode cX8_fittingType 59 = .ok (.getfield 9, 3) := by decide +kernel
theorem dX8_fittingType_62 : decode cX8_fittingType 62 = .ok (.aload_n 0, 1) := by decide +kernel
theorem dX8_fittingType_63 : decode cX8_fittingType 63 = .ok (.getfield 15, 3) := by decide +kernel
theorem dX8_fittingType_66 : decode cX8_fittingType 66 = .ok (.iload_n 2, 1) := by decide +kernel
theorem dX8_fittingType_67 : decode cX8_fittingType 67 = .ok (.invokevirtual 50, 3) := by decide +kernel
theorem dX8_fittingType_70 : decode cX8_fittingType 70 = .ok (.invokevirtual 84, 3) := by decide +kernel
theorem dX8_fittingType_73 : decode cX8_fittingType 73 = .ok (.ifCond .eq 5, 3) := by decide +kernel
theorem dX8_fittingType_76 : decode cX8_fittingType 76 = .ok (.iload_n 2, 1) := by decide +kernel
theorem dX8_fittingType_77 : decode cX8_fittingType 77 = .ok (.ireturn, 1) := by decide +kernel
theorem dX8_fittingType_78 : decode cX8_fittingType 78 = .ok (.aload_n 0, 1) := by decide +kernel
theorem dX8_fittingType_79 : decode cX8_fittingType 79 = .ok (.getfield 15, 3) := by decide +kernel
theorem dX8_fittingType_82 : decode cX8_fittingType 82 = .ok (.iload_n 2, 1) := by decide +kernel
theorem dX8_fittingType_83 : decode cX8_fittingType 83 = .ok (.invokevirtual 87, 3) := by decide +kernel
theorem dX8_fittingType_86 : decode cX8_fittingType 86 = .ok (.istore_n 2, 1) := by decide +kernel
theorem dX8_fittingType_87 : decode cX8_fittingType 87 = .ok (.iinc 3 1, 3) := by decide +kernel
theorem dX8_fittingType_90 : decode cX8_fittingType 90 = .ok (.goto (-42), 3) := by decide +kernel
theorem dX8_fittingType_93 : decode cX8_fittingType 93 = .ok (.iconst (-1), 1) := by decide +kernel
theorem dX8_fittingType_94 : decode cX8_fittingType 94 = .ok (.ireturn, 1) := by decide +kernel
theorem dX8_parseFields_0 : decode cX8_parseFields 0 = .ok (.iconst 0, 1) := by decide +kernel
theorem dX8_parseFields_1 : decode cX8_parseFields 1 = .ok (.istore 4, 2) := by decide +kernel
theorem dX8_parseFields_3 : decode cX8_parseFields 3 = .ok (.aload_n 0, 1) := by decide +kernel
theorem dX8_parseFields_4 : decode cX8_parseFields 4 = .ok (.getfield 9, 3) := by decide +kernel
theorem dX8_parseFields_7 : decode cX8_parseFields 7 = .ok (.getfield 32, 3) := by decide +kernel
theorem dX8_parseFields_10 : decode cX8_parseFields 10 = .ok (.bipush 125, 2) := by decide +kernel
theorem dX8_parseFields_12 : decode cX8_parseFields 12 = .ok (.if_icmp .eq 7, 3) := by decide +kernel
theorem dX8_parseFields_15 : decode cX8_parseFields 15 = .ok (.iconst 1, 1) := by decide +kernel
theorem dX8_parseFields_16 : decode cX8_parseFields 16 = .ok (.goto 4, 3) := by decide +kernel
theorem dX8_parseFields_19 : decode cX8_parseFields 19 = .ok (.iconst 0, 1) := by decide +kernel
theorem dX8_parseFields_20 : decode cX8_parseFields 20 = .ok (.istore 5, 2) := by decide +kernel
theorem dX8_parseFields_22 : decode cX8_parseFields 22 = .ok (.iconst 0, 1) := by decide +kernel
theorem dX8_parseFields_23 : decode cX8_parseFields 23 = .ok (.istore 6, 2) := by decide +kernel
theorem dX8_parseFields_25 : decode cX8_parseFields 25 = .ok (.iload 6, 2) := by decide +kernel
theorem dX8_parseFields_27 : decode cX8_parseFields 27 = .ok (.bipush 8, 2) := by decide +kernel
theorem dX8_parseFields_29 : decode cX8_parseFields 29 = .ok (.if_icmp .gt 181, 3) := by decide +kernel
theorem dX8_parseFields_32 : decode cX8_parseFields 32 = .ok (.iload 5, 2) := by decide +kernel
theorem dX8_parseFields_34 : decode cX8_parseFields 34 = .ok (.ifCond .eq 176, 3) := by decide +kernel
theorem dX8_parseFields_37 : decode cX8_parseFields 37 = .ok (.aload_n 0, 1) := by decide +kernel
theorem dX8_parseFields_38 : decode cX8_parseFields 38 = .ok (.getfield 9, 3) := by decide +kernel
theorem dX8_parseFields_41 : decode cX8_parseFields 41 = .ok (.getfield 32, 3) := by decide +kernel
theorem dX8_parseFields_44 : decode cX8_parseFields 44 = .ok (.iconst 3, 1) := by decide +kernel
theorem dX8_parseFields_45 : decode cX8_parseFields 45 = .ok (.if_icmp .eq 12, 3) := by decide +kernel
theorem dX8_parseFields_48 : decode cX8_parseFields 48 = .ok (.aload_n 0, 1) := by decide +kernel
theorem dX8_parseFields_49 : decode cX8_parseFields 49 = .ok (.getfield 9, 3) := by decide +kernel
theorem dX8_parseFields_52 : decode cX8_parseFields 52 = .ok (.iconst 1, 1) := by decide +kernel
theorem dX8_parseFields_53 : decode cX8_parseFields 53 = .ok (.invokevirtual 38, 3) := by decide +kernel
theorem dX8_parseFields_56 : decode cX8_parseFields 56 = .ok (.ireturn, 1) := by decide +kernel
theorem dX8_parseFields_57 : decode cX8_parseFields 57 = .ok (.aload_n 0, 1) := by decide +kernel
theorem dX8_parseFields_58 : decode cX8_parseFields 58 = .ok (.getfield 15, 3) := by decide +kernel
theorem dX8_parseFields_61 : decode cX8_parseFields 61 = .ok (.iload_n 1, 1) := by decide +kernel
theorem dX8_parseFields_62 : decode cX8_parseFields 62 = .ok (.aload_n 0, 1) := by decide +kernel
theorem dX8_parseFields_63 : decode cX8_parseFields 63 = .ok (.getfield 9, 3) := by decide +kernel
theorem dX8_parseFields_66 : decode cX8_parseFields 66 = .ok (.getfield 90, 3) := by decide +kernel
theorem dX8_parseFields_69 : decode cX8_parseFields 69 = .ok (.invokevirtual 94, 3) := by decide +kernel
theorem dX8_parseFields_72 : decode cX8_parseFields 72 = .ok (.istore 7, 2) := by decide +kernel
theorem dX8_parseFields_74 : decode cX8_parseFields 74 = .ok (.iload 7, 2) := by decide +kernel
theorem dX8_parseFields_76 : decode cX8_parseFields 76 = .ok (.iconst (-1), 1) := by decide +kernel
theorem dX8_parseFields_77 : decode cX8_parseFields 77 = .ok (.if_icmp .eq 13, 3) := by decide +kernel
theorem dX8_parseFields_80 : decode cX8_parseFields 80 = .ok (.iload 4, 2) := by decide +kernel
theorem dX8_parseFields_82 : decode cX8_parseFields 82 = .ok (.iload 7, 2) := by decide +kernel
theorem dX8_parseFields_84 : decode cX8_parseFields 84 = .ok (.ishr, 1) := by decide +kernel
theorem dX8_parseFields_85 : decode cX8_parseFields 85 = .ok (.iconst 1, 1) := by decide +kernel
theorem dX8_parseFields_86 : decode cX8_parseFields 86 = .ok (.iand, 1) := by decide +kernel
theorem dX8_parseFields_87 : decode cX8_parseFields 87 = .ok (.ifCond .eq 12, 3) := by decide +kernel
theorem dX8_parseFields_90 : decode cX8_parseFields 90 = .ok (.aload_n 0, 1) := by decide +kernel
theorem dX8_parseFields_91 : decode cX8_parseFields 91 = .ok (.getfield 9, 3) := by decide +kernel
theorem dX8_parseFields_94 : decode cX8_parseFields 94 = .ok (.iconst 3, 1) := by decide +kernel
theorem dX8_parseFields_95 : decode cX8_parseFields 95 = .ok (.invokevirtual 38, 3) := by decide +kernel
theorem dX8_parseFields_98 : decode cX8_parseFields 98 = .ok (.ireturn, 1) := by decide +kernel
theorem dX8_parseFields_99 : decode cX8_parseFields 99 = .ok (.iload 4, 2) := by decide +kernel
theorem dX8_parseFields_101 : decode cX8_parseFields 101 = .ok (.iconst 1, 1) := by decide +kernel
theorem dX8_parseFields_102 : decode cX8_parseFields 102 = .ok (.iload 7, 2) := by decide +kernel
theorem dX8_parseFields_104 : decode cX8_parseFields 104 = .ok (.ishl, 1) := by decide +kernel
theorem dX8_parseFields_105 : decode cX8_parseFields 105 = .ok (.ior, 1) := by decide +kernel
theorem dX8_parseFields_106 : decode cX8_parseFields 106 = .ok (.istore 4, 2) := by decide +kernel
theorem dX8_parseFields_108 : decode cX8_parseFields 108 = .ok (.aload_n 0, 1) := by decide +kernel
theorem dX8_parseFields_109 : decode cX8_parseFields 109 = .ok (.getfield 9, 3) := by decide +kernel
theorem dX8_parseFields_112 : decode cX8_parseFields 112 = .ok (.invokevirtual 71, 3) := by decide +kernel
theorem dX8_parseFields_115 : decode cX8_parseFields 115 = .ok (.aload_n 0, 1) := by decide +kernel
theorem dX8_parseFields_116 : decode cX8_parseFields 116 = .ok (.aload_n 0, 1) := by decide +kernel
theorem dX8_parseFields_117 : decode cX8_parseFields 117 = .ok (.getfield 15, 3) := by decide +kernel
theorem dX8_parseFields_120 : decode cX8_parseFields 120 = .ok (.iload_n 1, 1) := by decide +kernel
theorem dX8_parseFields_121 : decode cX8_parseFields 121 = .ok (.iload 7, 2) := by decide +kernel
theorem dX8_parseFields_123 : decode cX8_parseFields 123 = .ok (.invokevirtual 98, 3) := by decide +kernel
theorem dX8_parseFields_126 : decode cX8_parseFields 126 = .ok (.iload_n 2, 1) := by decide +kernel
theorem dX8_parseFields_127 : decode cX8_parseFields 127 = .ok (.iload 7, 2) := by decide +kernel
theorem dX8_parseFields_129 : decode cX8_parseFields 129 = .ok (.iload_n 3, 1) := by decide +kernel
theorem dX8_parseFields_130 : decode cX8_parseFields 130 = .ok (.iconst 1, 1) := by decide +kernel
theorem dX8_parseFields_131 : decode cX8_parseFields 131 = .ok (.iadd, 1) := by decide +kernel
theorem dX8_parseFields_132 : decode cX8_parseFields 132 = .ok (.invokevirtual 28, 3) := by decide +kernel
theorem dX8_parseFields_135 : decode cX8_parseFields 135 = .ok (.ifCond .ne 5, 3) := by decide +kernel
theorem dX8_parseFields_138 : decode cX8_parseFields 138 = .ok (.iconst 0, 1) := by decide +kernel
theorem dX8_parseFields_139 : decode cX8_parseFields 139 = .ok (.ireturn, 1) := by decide +kernel
theorem dX8_parseFields_140 : decode cX8_parseFields 140 = .ok (.aload_n 0, 1) := by decide +kernel
theorem dX8_parseFields_141 : decode cX8_parseFields 141 = .ok (.getfield 9, 3) := by decide +kernel
theorem dX8_parseFields_144 : decode cX8_parseFields 144 = .ok (.getfield 32, 3) := by decide +kernel
theorem dX8_parseFields_147 : decode cX8_parseFields 147 = .ok (.bipush 44, 2) := by decide +kernel
theorem dX8_parseFields_149 : decode cX8_parseFields 149 = .ok (.if_icmp .eq 24, 3) := by decide +kernel
theorem dX8_parseFields_152 : decode cX8_parseFields 152 = .ok (.aload_n 0, 1) := by decide +kernel
theorem dX8_parseFields_153 : decode cX8_parseFields 153 = .ok (.getfield 9, 3) := by decide +kernel
theorem dX8_parseFields_156 : decode cX8_parseFields 156 = .ok (.getfield 32, 3) := by decide +kernel
theorem dX8_parseFields_159 : decode cX8_parseFields 159 = .ok (.bipush 125, 2) := by decide +kernel
theorem dX8_parseFields_161 : decode cX8_parseFields 161 = .ok (.if_icmp .eq 12, 3) := by decide +kernel
theorem dX8_parseFields_164 : decode cX8_parseFields 164 = .ok (.aload_n 0, 1) := by decide +kernel
theorem dX8_parseFields_165 : decode cX8_parseFields 165 = .ok (.getfield 9, 3) := by decide +kernel
theorem dX8_parseFields_168 : decode cX8_parseFields 168 = .ok (.iconst 1, 1) := by decide +kernel
theorem dX8_parseFields_169 : decode cX8_parseFields 169 = .ok (.invokevirtual 38, 3) := by decide +kernel
theorem dX8_parseFields_172 : decode cX8_parseFields 172 = .ok (.ireturn, 1) := by decide +kernel
theorem dX8_parseFields_173 : decode cX8_parseFields 173 = .ok (.aload_n 0, 1) := by decide +kernel
theorem dX8_parseFields_174 : decode cX8_parseFields 174 = .ok (.getfield 9, 3) := by decide +kernel
theorem dX8_parseFields_177 : decode cX8_parseFields 177 = .ok (.getfield 32, 3) := by decide +kernel
theorem dX8_parseFields_180 : decode cX8_parseFields 180 = .ok (.bipush 44, 2) := by decide +kernel
theorem dX8_parseFields_182 : decode cX8_parseFields 182 = .ok (.if_icmp .ne 7, 3) := by decide +kernel
theorem dX8_parseFields_185 : decode cX8_parseFields 185 = .ok (.iconst 1, 1) := by decide +kernel
theorem dX8_parseFields_186 : decode cX8_parseFields 186 = .ok (.goto 4, 3) := by decide +kernel
theorem dX8_parseFields_189 : decode cX8_parseFields 189 = .ok (.iconst 0, 1) := by decide +kernel
theorem dX8_parseFields_190 : decode cX8_parseFields 190 = .ok (.istore 5, 2) := by decide +kernel
theorem dX8_parseFields_192 : decode cX8_parseFields 192 = .ok (.iload 5, 2) := by decide +kernel
theorem dX8_parseFields_194 : decode cX8_parseFields 194 = .ok (.ifCond .eq 10, 3) := by decide +kernel
theorem dX8_parseFields_197 : decode cX8_parseFields 197 = .ok (.aload_n 0, 1) := by decide +kernel
theorem dX8_parseFields_198 : decode cX8_parseFields 198 = .ok (.getfield 9, 3) := by decide +kernel
theorem dX8_parseFields_201 : decode cX8_parseFields 201 = .ok (.invokevirtual 71, 3) := by decide +kernel
theorem dX8_parseFields_204 : decode cX8_parseFields 204 = .ok (.iinc 6 1, 3) := by decide +kernel
theorem dX8_parseFields_207 : decode cX8_parseFields 207 = .ok (.goto (-182), 3) := by decide +kernel
theorem dX8_parseFields_210 : decode cX8_parseFields 210 = .ok (.aload_n 0, 1) := by decide +kernel
theorem dX8_parseFields_211 : decode cX8_parseFields 211 = .ok (.iload_n 1, 1) := by decide +kernel
theorem dX8_parseFields_212 : decode cX8_parseFields 212 = .ok (.iload 4, 2) := by decide +kernel
theorem dX8_parseFields_214 : decode cX8_parseFields 214 = .ok (.invokevirtual 102, 3) := by decide +kernel
theorem dX8_parseFields_217 : decode cX8_parseFields 217 = .ok (.ireturn, 1) := by decide +kernel
theorem dX8_parseItems_0 : decode cX8_parseItems 0 = .ok (.aload_n 0, 1) := by decide +kernel
theorem dX8_parseItems_1 : decode cX8_parseItems 1 = .ok (.getfield 9, 3) := by decide +kernel
theorem dX8_parseItems_4 : decode cX8_parseItems 4 = .ok (.getfield 32, 3) := by decide +kernel
theorem dX8_parseItems_7 : decode cX8_parseItems 7 = .ok (.bipush 93, 2) := by decide +kernel
theorem dX8_parseItems_9 : decode cX8_parseItems 9 = .ok (.if_icmp .ne 12, 3) := by decide +kernel
theorem dX8_parseItems_12 : decode cX8_parseItems 12 = .ok (.aload_n 0, 1) := by decide +kernel
theorem dX8_parseItems_13 : decode cX8_parseItems 13 = .ok (.getfield 9, 3) := by decide +kernel
theorem dX8_parseItems_16 : decode cX8_parseItems 16 = .ok (.invokevirtual 71, 3) := by decide +kernel
theorem dX8_parseItems_19 : decode cX8_parseItems 19 = .ok (.iconst 1, 1) := by decide +kernel
theorem dX8_parseItems_20 : decode cX8_parseItems 20 = .ok (.ireturn, 1) := by decide +kernel
theorem dX8_parseItems_21 : decode cX8_parseItems 21 = .ok (.iconst 0, 1) := by decide +kernel
theorem dX8_parseItems_22 : decode cX8_parseItems 22 = .ok (.istore 4, 2) := by decide +kernel
theorem dX8_parseItems_24 : decode cX8_parseItems 24 = .ok (.iload 4, 2) := by decide +kernel
theorem dX8_parseItems_26 : decode cX8_parseItems 26 = .ok (.sipush 200, 3) := by decide +kernel
theorem dX8_parseItems_29 : decode cX8_parseItems 29 = .ok (.if_icmp .gt 87, 3) := by decide +kernel
theorem dX8_parseItems_32 : decode cX8_parseItems 32 = .ok (.aload_n 0, 1) := by decide +kernel
theorem dX8_parseItems_33 : decode cX8_parseItems 33 = .ok (.iload_n 1, 1) := by decide +kernel
theorem dX8_parseItems_34 : decode cX8_parseItems 34 = .ok (.iload_n 2, 1) := by decide +kernel
theorem dX8_parseItems_35 : decode cX8_parseItems 35 = .ok (.iload 4, 2) := by decide +kernel
theorem dX8_parseItems_37 : decode cX8_parseItems 37 = .ok (.iload_n 3, 1) := by decide +kernel
theorem dX8_parseItems_38 : decode cX8_parseItems 38 = .ok (.iconst 1, 1) := by decide +kernel
theorem dX8_parseItems_39 : decode cX8_parseItems 39 = .ok (.iadd, 1) := by decide +kernel
theorem dX8_parseItems_40 : decode cX8_parseItems 40 = .ok (.invokevirtual 28, 3) := by decide +kernel
theorem dX8_parseItems_43 : decode cX8_parseItems 43 = .ok (.ifCond .ne 5, 3) := by decide +kernel
theorem dX8_parseItems_46 : decode cX8_parseItems 46 = .ok (.iconst 0, 1) := by decide +kernel
theorem dX8_parseItems_47 : decode cX8_parseItems 47 = .ok (.ireturn, 1) := by decide +kernel
theorem dX8_parseItems_48 : decode cX8_parseItems 48 = .ok (.aload_n 0, 1) := by decide +kernel
theorem dX8_parseItems_49 : decode cX8_parseItems 49 = .ok (.getfield 9, 3) := by decide +kernel
theorem dX8_parseItems_52 : decode cX8_parseItems 52 = .ok (.getfield 32, 3) := by decide +kernel
theorem dX8_parseItems_55 : decode cX8_parseItems 55 = .ok (.bipush 93, 2) := by decide +kernel
theorem dX8_parseItems_57 : decode cX8_parseItems 57 = .ok (.if_icmp .ne 25, 3) := by decide +kernel
theorem dX8_parseItems_60 : decode cX8_parseItems 60 = .ok (.aload_n 0, 1) := by decide +kernel
theorem dX8_parseItems_61 : decode cX8_parseItems 61 = .ok (.getfield 19, 3) := by decide +kernel
theorem dX8_parseItems_64 : decode cX8_parseItems 64 = .ok (.iload_n 2, 1) := by decide +kernel
theorem dX8_parseItems_65 : decode cX8_parseItems 65 = .ok (.iload 4, 2) := by decide +kernel
theorem dX8_parseItems_67 : decode cX8_parseItems 67 = .ok (.iconst 1, 1) := by decide +kernel
theorem dX8_parseItems_68 : decode cX8_parseItems 68 = .ok (.iadd, 1) := by decide +kernel
theorem dX8_parseItems_69 : decode cX8_parseItems 69 = .ok (.lconst 0, 1) := by decide +kernel
theorem dX8_parseItems_70 : decode cX8_parseItems 70 = .ok (.invokevirtual 67, 3) := by decide +kernel
theorem dX8_parseItems_73 : decode cX8_parseItems 73 = .ok (.aload_n 0, 1) := by decide +kernel
theorem dX8_parseItems_74 : decode cX8_parseItems 74 = .ok (.getfield 9, 3) := by decide +kernel
theorem dX8_parseItems_77 : decode cX8_parseItems 77 = .ok (.invokevirtual 71, 3) := by decide +kernel
theorem dX8_parseItems_80 : decode cX8_parseItems 80 = .ok (.iconst 1, 1) := by decide +kernel
theorem dX8_parseItems_81 : decode cX8_parseItems 81 = .ok (.ireturn, 1) := by decide +kernel
theorem dX8_parseItems_82 : decode cX8_parseItems 82 = .ok (.aload_n 0, 1) := by decide +kernel
theorem dX8_parseItems_83 : decode cX8_parseItems 83 = .ok (.getfield 9, 3) := by decide +kernel
theorem dX8_parseItems_86 : decode cX8_parseItems 86 = .ok (.getfield 32, 3) := by decide +kernel
theorem dX8_parseItems_89 : decode cX8_parseItems 89 = .ok (.bipush 44, 2) := by decide +kernel
theorem dX8_parseItems_91 : decode cX8_parseItems 91 = .ok (.if_icmp .eq 12, 3) := by decide +kernel
theorem dX8_parseItems_94 : decode cX8_parseItems 94 = .ok (.aload_n 0, 1) := by decide +kernel
theorem dX8_parseItems_95 : decode cX8_parseItems 95 = .ok (.getfield 9, 3) := by decide +kernel
theorem dX8_parseItems_98 : decode cX8_parseItems 98 = .ok (.iconst 1, 1) := by decide +kernel
theorem dX8_parseItems_99 : decode cX8_parseItems 99 = .ok (.invokevirtual 38, 3) := by decide +kernel
theorem dX8_parseItems_102 : decode cX8_parseItems 102 = .ok (.ireturn, 1) := by decide +kernel
theorem dX8_parseItems_103 : decode cX8_parseItems 103 = .ok (.aload_n 0, 1) := by decide +kernel
theorem dX8_parseItems_104 : decode cX8_parseItems 104 = .ok (.getfield 9, 3) := by decide +kernel
theorem dX8_parseItems_107 : decode cX8_parseItems 107 = .ok (.invokevirtual 71, 3) := by decide +kernel
theorem dX8_parseItems_110 : decode cX8_parseItems 110 = .ok (.iinc 4 1, 3) := by decide +kernel
theorem dX8_parseItems_113 : decode cX8_parseItems 113 = .ok (.goto (-89), 3) := by decide +kernel
theorem dX8_parseItems_116 : decode cX8_parseItems 116 = .ok (.iconst 0, 1) := by decide +kernel
theorem dX8_parseItems_117 : decode cX8_parseItems 117 = .ok (.ireturn, 1) := by decide +kernel
theorem dX8_parseValue_0 : decode cX8_parseValue 0 = .ok (.aload_n 0, 1) := by decide +kernel
theorem dX8_parseValue_1 : decode cX8_parseValue 1 = .ok (.getfield 9, 3) := by decide +kernel
theorem dX8_parseValue_4 : decode cX8_parseValue 4 = .ok (.invokevirtual 42, 3) := by decide +kernel
theorem dX8_parseValue_7 : decode cX8_parseValue 7 = .ok (.ifCond .ne 24, 3) := by decide +kernel
theorem dX8_parseValue_10 : decode cX8_parseValue 10 = .ok (.aload_n 0, 1) := by decide +kernel
theorem dX8_parseValue_11 : decode cX8_parseValue 11 = .ok (.getfield 9, 3) := by decide +kernel
theorem dX8_parseValue_14 : decode cX8_parseValue 14 = .ok (.getfield 32, 3) := by decide +kernel
theorem dX8_parseValue_17 : decode cX8_parseValue 17 = .ok (.bipush 123, 2) := by decide +kernel
theorem dX8_parseValue_19 : decode cX8_parseValue 19 = .ok (.if_icmp .eq 12, 3) := by decide +kernel
theorem dX8_parseValue_22 : decode cX8_parseValue 22 = .ok (.aload_n 0, 1) := by decide +kernel
theorem dX8_parseValue_23 : decode cX8_parseValue 23 = .ok (.getfield 9, 3) := by decide +kernel
theorem dX8_parseValue_26 : decode cX8_parseValue 26 = .ok (.iconst 1, 1) := by decide +kernel
theorem dX8_parseValue_27 : decode cX8_parseValue 27 = .ok (.invokevirtual 38, 3) := by decide +kernel
theorem dX8_parseValue_30 : decode cX8_parseValue 30 = .ok (.ireturn, 1) := by decide +kernel
theorem dX8_parseValue_31 : decode cX8_parseValue 31 = .ok (.aload_n 0, 1) := by decide +kernel
theorem dX8_parseValue_32 : decode cX8_parseValue 32 = .ok (.iload_n 1, 1) := by decide +kernel
theorem dX8_parseValue_33 : decode cX8_parseValue 33 = .ok (.invokevirtual 46, 3) := by decide +kernel
theorem dX8_parseValue_36 : decode cX8_parseValue 36 = .ok (.istore 5, 2) := by decide +kernel
theorem dX8_parseValue_38 : decode cX8_parseValue 38 = .ok (.iload 5, 2) := by decide +kernel
theorem dX8_parseValue_40 : decode cX8_parseValue 40 = .ok (.iconst (-1), 1) := by decide +kernel
theorem dX8_parseValue_41 : decode cX8_parseValue 41 = .ok (.if_icmp .ne 12, 3) := by decide +kernel
theorem dX8_parseValue_44 : decode cX8_parseValue 44 = .ok (.aload_n 0, 1) := by decide +kernel
theorem dX8_parseValue_45 : decode cX8_parseValue 45 = .ok (.getfield 9, 3) := by decide +kernel
theorem dX8_parseValue_48 : decode cX8_parseValue 48 = .ok (.iconst 2, 1) := by decide +kernel
theorem dX8_parseValue_49 : decode cX8_parseValue 49 = .ok (.invokevirtual 38, 3) := by decide +kernel
theorem dX8_parseValue_52 : decode cX8_parseValue 52 = .ok (.ireturn, 1) := by decide +kernel
theorem dX8_parseValue_53 : decode cX8_parseValue 53 = .ok (.aload_n 0, 1) := by decide +kernel
theorem dX8_parseValue_54 : decode cX8_parseValue 54 = .ok (.getfield 15, 3) := by decide +kernel
theorem dX8_parseValue_57 : decode cX8_parseValue 57 = .ok (.iload 5, 2) := by decide +kernel
theorem dX8_parseValue_59 : decode cX8_parseValue 59 = .ok (.invokevirtual 50, 3) := by decide +kernel
theorem dX8_parseValue_62 : decode cX8_parseValue 62 = .ok (.istore 6, 2) := by decide +kernel
theorem dX8_parseValue_64 : decode cX8_parseValue 64 = .ok (.iload 4, 2) := by decide +kernel
theorem dX8_parseValue_66 : decode cX8_parseValue 66 = .ok (.bipush 31, 2) := by decide +kernel
theorem dX8_parseValue_68 : decode cX8_parseValue 68 = .ok (.if_icmp .ge 10, 3) := by decide +kernel
theorem dX8_parseValue_71 : decode cX8_parseValue 71 = .ok (.iload_n 3, 1) := by decide +kernel
theorem dX8_parseValue_72 : decode cX8_parseValue 72 = .ok (.sipush 200, 3) := by decide +kernel
theorem dX8_parseValue_75 : decode cX8_parseValue 75 = .ok (.if_icmp .lt 7, 3) := by decide +kernel
theorem dX8_parseValue_78 : decode cX8_parseValue 78 = .ok (.iconst (-1), 1) := by decide +kernel
theorem dX8_parseValue_79 : decode cX8_parseValue 79 = .ok (.goto 14, 3) := by decide +kernel
theorem dX8_parseValue_82 : decode cX8_parseValue 82 = .ok (.aload_n 0, 1) := by decide +kernel
theorem dX8_parseValue_83 : decode cX8_parseValue 83 = .ok (.getfield 19, 3) := by decide +kernel
theorem dX8_parseValue_86 : decode cX8_parseValue 86 = .ok (.iload 6, 2) := by decide +kernel
theorem dX8_parseValue_88 : decode cX8_parseValue 88 = .ok (.iload_n 2, 1) := by decide +kernel
theorem dX8_parseValue_89 : decode cX8_parseValue 89 = .ok (.iload_n 3, 1) := by decide +kernel
theorem dX8_parseValue_90 : decode cX8_parseValue 90 = .ok (.invokevirtual 55, 3) := by decide +kernel
theorem dX8_parseValue_93 : decode cX8_parseValue 93 = .ok (.istore 7, 2) := by decide +kernel
theorem dX8_parseValue_95 : decode cX8_parseValue 95 = .ok (.iload 7, 2) := by decide +kernel
theorem dX8_parseValue_97 : decode cX8_parseValue 97 = .ok (.iconst (-1), 1) := by decide +kernel
theorem dX8_parseValue_98 : decode cX8_parseValue 98 = .ok (.if_icmp .ne 12, 3) := by decide +kernel
theorem dX8_parseValue_101 : decode cX8_parseValue 101 = .ok (.aload_n 0, 1) := by decide +kernel
theorem dX8_parseValue_102 : decode cX8_parseValue 102 = .ok (.getfield 9, 3) := by decide +kernel
theorem dX8_parseValue_105 : decode cX8_parseValue 105 = .ok (.iconst 4, 1) := by decide +kernel
theorem dX8_parseValue_106 : decode cX8_parseValue 106 = .ok (.invokevirtual 38, 3) := by decide +kernel
theorem dX8_parseValue_109 : decode cX8_parseValue 109 = .ok (.ireturn, 1) := by decide +kernel
theorem dX8_parseValue_110 : decode cX8_parseValue 110 = .ok (.aload_n 0, 1) := by decide +kernel
theorem dX8_parseValue_111 : decode cX8_parseValue 111 = .ok (.getfield 9, 3) := by decide +kernel
theorem dX8_parseValue_114 : decode cX8_parseValue 114 = .ok (.iload 6, 2) := by decide +kernel
theorem dX8_parseValue_116 : decode cX8_parseValue 116 = .ok (.invokevirtual 59, 3) := by decide +kernel
theorem dX8_parseValue_119 : decode cX8_parseValue 119 = .ok (.lstore 8, 2) := by decide +kernel
theorem dX8_parseValue_121 : decode cX8_parseValue 121 = .ok (.aload_n 0, 1) := by decide +kernel
theorem dX8_parseValue_122 : decode cX8_parseValue 122 = .ok (.getfield 19, 3) := by decide +kernel
theorem dX8_parseValue_125 : decode cX8_parseValue 125 = .ok (.iload 7, 2) := by decide +kernel
theorem dX8_parseValue_127 : decode cX8_parseValue 127 = .ok (.iload 6, 2) := by decide +kernel
theorem dX8_parseValue_129 : decode cX8_parseValue 129 = .ok (.iconst 5, 1) := by decide +kernel
theorem dX8_parseValue_130 : decode cX8_parseValue 130 = .ok (.if_icmp .ne 11, 3) := by decide +kernel
theorem dX8_parseValue_133 : decode cX8_parseValue 133 = .ok (.lload 8, 2) := by decide +kernel
theorem dX8_parseValue_135 : decode cX8_parseValue 135 = .ok (.invokestatic 63, 3) := by decide +kernel
theorem dX8_parseValue_138 : decode cX8_parseValue 138 = .ok (.goto 4, 3) := by decide +kernel
theorem dX8_parseValue_141 : decode cX8_parseValue 141 = .ok (.iconst 0, 1) := by decide +kernel
theorem dX8_parseValue_142 : decode cX8_parseValue 142 = .ok (.lload 8, 2) := by decide +kernel
theorem dX8_parseValue_144 : decode cX8_parseValue 144 = .ok (.invokevirtual 67, 3) := by decide +kernel
theorem dX8_parseValue_147 : decode cX8_parseValue 147 = .ok (.aload_n 0, 1) := by decide +kernel
theorem dX8_parseValue_148 : decode cX8_parseValue 148 = .ok (.getfield 9, 3) := by decide +kernel
theorem dX8_parseValue_151 : decode cX8_parseValue 151 = .ok (.invokevirtual 71, 3) := by decide +kernel
theorem dX8_parseValue_154 : decode cX8_parseValue 154 = .ok (.iload 6, 2) := by decide +kernel
theorem dX8_parseValue_156 : decode cX8_parseValue 156 = .ok (.bipush 6, 2) := by decide +kernel
theorem dX8_parseValue_158 : decode cX8_parseValue 158 = .ok (.if_icmp .ne 21, 3) := by decide +kernel
theorem dX8_parseValue_161 : decode cX8_parseValue 161 = .ok (.aload_n 0, 1) := by decide +kernel
theorem dX8_parseValue_162 : decode cX8_parseValue 162 = .ok (.aload_n 0, 1) := by decide +kernel
theorem dX8_parseValue_163 : decode cX8_parseValue 163 = .ok (.getfield 15, 3) := by decide +kernel
theorem dX8_parseValue_166 : decode cX8_parseValue 166 = .ok (.iload 5, 2) := by decide +kernel
theorem dX8_parseValue_168 : decode cX8_parseValue 168 = .ok (.invokevirtual 74, 3) := by decide +kernel
theorem dX8_parseValue_171 : decode cX8_parseValue 171 = .ok (.iload 7, 2) := by decide +kernel
theorem dX8_parseValue_173 : decode cX8_parseValue 173 = .ok (.iload 4, 2) := by decide +kernel
theorem dX8_parseValue_175 : decode cX8_parseValue 175 = .ok (.invokevirtual 77, 3) := by decide +kernel
theorem dX8_parseValue_178 : decode cX8_parseValue 178 = .ok (.ireturn, 1) := by decide +kernel
theorem dX8_parseValue_179 : decode cX8_parseValue 179 = .ok (.iload 6, 2) := by decide +kernel
theorem dX8_parseValue_181 : decode cX8_parseValue 181 = .ok (.bipush 7, 2) := by decide +kernel
theorem dX8_parseValue_183 : decode cX8_parseValue 183 = .ok (.if_icmp .ne 21, 3) := by decide +kernel
theorem dX8_parseValue_186 : decode cX8_parseValue 186 = .ok (.aload_n 0, 1) := by decide +kernel
theorem dX8_parseValue_187 : decode cX8_parseValue 187 = .ok (.aload_n 0, 1) := by decide +kernel
theorem dX8_parseValue_188 : decode cX8_parseValue 188 = .ok (.getfield 15, 3) := by decide +kernel
theorem dX8_parseValue_191 : decode cX8_parseValue 191 = .ok (.iload 5, 2) := by decide +kernel
theorem dX8_parseValue_193 : decode cX8_parseValue 193 = .ok (.invokevirtual 74, 3) := by decide +kernel
theorem dX8_parseValue_196 : decode cX8_parseValue 196 = .ok (.iload 7, 2) := by decide +kernel
theorem dX8_parseValue_198 : decode cX8_parseValue 198 = .ok (.iload 4, 2) := by decide +kernel
theorem dX8_parseValue_200 : decode cX8_parseValue 200 = .ok (.invokevirtual 81, 3) := by decide +kernel
theorem dX8_parseValue_203 : decode cX8_parseValue 203 = .ok (.ireturn, 1) := by decide +kernel
theorem dX8_parseValue_204 : decode cX8_parseValue 204 = .ok (.iconst 1, 1) := by decide +kernel
theorem dX8_parseValue_205 : decode cX8_parseValue 205 = .ok (.ireturn, 1) := by decide +kernel
theorem dX9_clear_0 : decode cX9_clear 0 = .ok (.aload_n 0, 1) := by decide +kernel
theorem dX9_clear_1 : decode cX9_clear 1 = .ok (.iconst 0, 1) := by decide +kernel
theorem dX9_clear_2 : decode cX9_clear 2 = .ok (.putfield 15, 3) := by decide +kernel
theorem dX9_clear_5 : decode cX9_clear 5 = .ok (.aload_n 0, 1) := by decide +kernel
theorem dX9_clear_6 : decode cX9_clear 6 = .ok (.iconst 0, 1) := by decide +kernel
theorem dX9_clear_7 : decode cX9_clear 7 = .ok (.putfield 19, 3) := by decide +kernel
theorem dX9_clear_10 : decode cX9_clear 10 = .ok (.aload_n 0, 1) := by decide +kernel
theorem dX9_clear_11 : decode cX9_clear 11 = .ok (.iconst 0, 1) := by decide +kernel
theorem dX9_clear_12 : decode cX9_clear 12 = .ok (.putfield 22, 3) := by decide +kernel
theorem dX9_clear_15 : decode cX9_clear 15 = .ok (.return_, 1) := by decide +kernel
def f_X6_begin (p0 : Int32) (σ : ST) : Option (ST) := (f_X6_advance   (stI (stI (stI (stI σ 2 2 p0) 2 3 0) 2 12 0) 2 13 0)).bind fun q1 => some q1

set_option maxRecDepth 100000 in
set_option maxHeartbeats 4000000 in
theorem b_X6_begin_e {p : Program} {l : Launch} {e : Env} {s : State} {m : MethodId} {args : Array Value} {below : List Frame} {meth : Method} {c : Code} {dC : Nat → ClassId} {dI : Nat → Nat → Nat} {a : Nat → Nat} {k : Nat → ClassId} {A : Nat → Prop} {q : ST} (hC : CxA p s m args meth c dC dI k A cX6_begin RX6 none 2)   {p0 : Int32} {σ : ST} (h : f_X6_begin  p0 σ = some q) : GoA p l e ({ frames := 3, cells := 0, slots := 0, locals := 68 } : Room) s m args below meth c (MQ below (qAv dC dI a k A q) args s 0 0 A) dC dI a k A 2 0 σ (lv_args 0 [.ref (a 2), .int p0]) [] := by
  have hC0 := hC
  obtain ⟨hx, hb, hr, hml, hown, hts, hlocks, hA, hN, hK⟩ := hC0
  intro H locs ls hP hD hS hl
  have hD0 : ∀ σ1 : ST, va_D A (wA a k σ1) := fun σ1 => wA_D hD
  replace hl : lv_has ls 2 [(0, .ref (a 2)), (1, .int p0)] := hl
  unfold f_X6_begin at h
  refine lv_aload_n hx hb dX6_begin_0 rfl (lv_at hl 0 rfl) ?_
  refine lv_iload_n hx hb dX6_begin_1 rfl (lv_at hl 1 rfl) ?_
  refine va_put (D := (dC, dI)) (ci := 6) (ty := .int) (C := RX6) (T := TX6) (N := 14) hx hb hts inlX6 tyX6 tyX6_ok nmX6 hown hK hP hD hS 2 gA_2 rfl 2 (by decide) (hts (.fieldLink RX6 15 "ShapeReader$Tokens" "end" "I") mw_16_8) (fun _ h9 => h9) rfl (by decide +kernel) rfl rfl (Nat.le_of_ble_eq_true rfl) dX6_begin_2 (fun H locs hP hD hS => ?_)
  replace hP := uA_2_2 hP
  replace hD := hD0 ((stI σ 2 2 p0))
  refine lv_aload_n hx hb dX6_begin_5 rfl (lv_at hl 0 rfl) ?_
  refine lv_iconst (v := 0) hx hb dX6_begin_6 (by decide) ?_
  refine va_put (D := (dC, dI)) (ci := 6) (ty := .int) (C := RX6) (T := TX6) (N := 14) hx hb hts inlX6 tyX6 tyX6_ok nmX6 hown hK hP hD hS 2 gA_2 rfl 3 (by decide) (hts (.fieldLink RX6 19 "ShapeReader$Tokens" "next" "I") mw_16_9) (fun _ h9 => h9) rfl (by decide +kernel) rfl rfl (Nat.le_of_ble_eq_true rfl) dX6_begin_7 (fun H locs hP hD hS => ?_)
  replace hP := uA_2_3 hP
  replace hD := hD0 ((stI (stI σ 2 2 p0) 2 3 0))
  refine lv_aload_n hx hb dX6_begin_10 rfl (lv_at hl 0 rfl) ?_
  refine lv_iconst (v := 0) hx hb dX6_begin_11 (by decide) ?_
  refine va_put (D := (dC, dI)) (ci := 6) (ty := .int) (C := RX6) (T := TX6) (N := 14) hx hb hts inlX6 tyX6 tyX6_ok nmX6 hown hK hP hD hS 2 gA_2 rfl 12 (by decide) (hts (.fieldLink RX6 48 "ShapeReader$Tokens" "faultKind" "I") mw_16_18) (fun _ h9 => h9) rfl (by decide +kernel) rfl rfl (Nat.le_of_ble_eq_true rfl) dX6_begin_12 (fun H locs hP hD hS => ?_)
  replace hP := uA_2_12 hP
  replace hD := hD0 ((stI (stI (stI σ 2 2 p0) 2 3 0) 2 12 0))
  refine lv_aload_n hx hb dX6_begin_15 rfl (lv_at hl 0 rfl) ?_
  refine lv_iconst (v := 0) hx hb dX6_begin_16 (by decide) ?_
  refine va_put (D := (dC, dI)) (ci := 6) (ty := .int) (C := RX6) (T := TX6) (N := 14) hx hb hts inlX6 tyX6 tyX6_ok nmX6 hown hK hP hD hS 2 gA_2 rfl 13 (by decide) (hts (.fieldLink RX6 51 "ShapeReader$Tokens" "faultPlace" "I") mw_16_19) (fun _ h9 => h9) rfl (by decide +kernel) rfl rfl (Nat.le_of_ble_eq_true rfl) dX6_begin_17 (fun H locs hP hD hS => ?_)
  replace hP := uA_2_13 hP
  replace hD := hD0 ((stI (stI (stI (stI σ 2 2 p0) 2 3 0) 2 12 0) 2 13 0))
  refine lv_aload_n hx hb dX6_begin_20 rfl (lv_at hl 0 rfl) ?_
  obtain ⟨q1, hc, h⟩ := ib h
  have hF := va_frees hD hS hA
  refine va_callv (va_runV (As := []) (rest := []) ⟨hx, hb, hml, hown, hts⟩ (s_X6_advance hc) (cwV 0 hts (gV mw_16_28 mw_8_6 mw_8_7 mw_0_10 mw_51_8) rfl rfl rfl (by decide +kernel) ⟨(Nat.le_of_ble_eq_true rfl), (Nat.le_of_ble_eq_true rfl)⟩) (vV (ci := 6) (q0 := 2) hK hP hD hN rfl gA_2) rfl rfl hl.1 rfl (lv_room (Nat.le_of_ble_eq_true rfl)) dX6_begin_21 ⟨(Nat.le_of_ble_eq_true rfl), (Nat.le_of_ble_eq_true rfl)⟩) hS (fun q _ h => hF q h) hF (fun u t H locs ht hvm hw hB _ _ hS => ?_)
  replace hP : va_P (dC, dI) vwCl (wA a k q1) H := by rw [← ht]; exact hB.1
  replace hD := hD0 (q1)
  clear hB hF
  obtain rfl := Option.some.inj h
  exact W.vret hx hb hr (fun t ht hW => ⟨⟨(), rfl, trivial, ⟨by rw [ht]; exact hP, va_K.moved hW.alike hK, hD⟩⟩, hS.F ht⟩) hS.2.2 dX6_begin_24

theorem s_X6_begin {l : Launch} {dC : Nat → ClassId} {dI : Nat → Nat → Nat} {a : Nat → Nat} {k : Nat → ClassId} {sz : Nat} {p0 : Int32} {σ : ST} {q : ST} (h : f_X6_begin  p0 σ = some q) : Met l yX6_begin (.code yX6_begin cX6_begin 2 none :: pw) ({ frames := 3, cells := 0, slots := 0, locals := 68 } : Room) (va_Pc [.ref (a 2), .int p0] (vPre dC dI (wA a k σ) (tA k) sz)) (qAv dC dI a k (va_A (wA a k σ) sz) q) 0 0 (va_A (wA a k σ) sz) := metA (fun A => qAv dC dI a k A q) (plainFor_of_name (by decide)) (Nat.le_of_ble_eq_true rfl) (fun _ _ _ _ _ _ _ _ hC => b_X6_begin_e hC h)

def f_X6_faultAnswer (σ : ST) : Option (Int32 × ST) := some (((-2) - ((8 * (σ.1 2 13)) + (σ.1 2 12))), σ)

set_option maxRecDepth 100000 in
set_option maxHeartbeats 4000000 in
theorem b_X6_faultAnswer_e {p : Program} {l : Launch} {e : Env} {s : State} {m : MethodId} {args : Array Value} {below : List Frame} {meth : Method} {c : Code} {dC : Nat → ClassId} {dI : Nat → Nat → Nat} {a : Nat → Nat} {k : Nat → ClassId} {A : Nat → Prop} {q : Int32 × ST} (hC : CxA p s m args meth c dC dI k A cX6_faultAnswer RX6 (some .int) 1)    {σ : ST} (h : f_X6_faultAnswer   σ = some q) : GoA p l e ({ frames := 0, cells := 0, slots := 0, locals := 0 } : Room) s m args below meth c (MQ below (qAi dC dI a k A q) args s 0 0 A) dC dI a k A 1 0 σ (lv_args 0 [.ref (a 2)]) [] := by
  have hC0 := hC
  obtain ⟨hx, hb, hr, hml, hown, hts, hlocks, hA, hN, hK⟩ := hC0
  intro H locs ls hP hD hS hl
  have hD0 : ∀ σ1 : ST, va_D A (wA a k σ1) := fun σ1 => wA_D hD
  replace hl : lv_has ls 1 [(0, .ref (a 2))] := hl
  unfold f_X6_faultAnswer at h
  refine lv_bipush (v := (-2)) hx hb dX6_faultAnswer_0 (by decide) ?_
  refine lv_bipush (v := 8) hx hb dX6_faultAnswer_2 (by decide) ?_
  refine lv_aload_n hx hb dX6_faultAnswer_4 rfl (lv_at hl 0 rfl) ?_
  refine va_get (D := (dC, dI)) (ci := 6) (C := RX6) (T := TX6) (N := 14) hx hb hts inlX6 hown hK hP 2 gA_2 rfl 13 (by decide) (hts (.fieldLink RX6 51 "ShapeReader$Tokens" "faultPlace" "I") mw_16_19) (fun _ h9 => h9) rfl dX6_faultAnswer_5 ?_
  refine lv_imul hx hb dX6_faultAnswer_8 ?_
  refine lv_aload_n hx hb dX6_faultAnswer_9 rfl (lv_at hl 0 rfl) ?_
  refine va_get (D := (dC, dI)) (ci := 6) (C := RX6) (T := TX6) (N := 14) hx hb hts inlX6 hown hK hP 2 gA_2 rfl 12 (by decide) (hts (.fieldLink RX6 48 "ShapeReader$Tokens" "faultKind" "I") mw_16_18) (fun _ h9 => h9) rfl dX6_faultAnswer_10 ?_
  refine lv_iadd hx hb dX6_faultAnswer_13 ?_
  refine lv_isub hx hb dX6_faultAnswer_14 ?_
  obtain rfl := Option.some.inj h
  exact W.iret hx hb hr (fun t ht hW => ⟨⟨_, (), rfl, rfl, ⟨by rw [ht]; exact hP, va_K.moved hW.alike hK, hD⟩⟩, hS.F ht⟩) hS.2.2 dX6_faultAnswer_15

theorem s_X6_faultAnswer {l : Launch} {dC : Nat → ClassId} {dI : Nat → Nat → Nat} {a : Nat → Nat} {k : Nat → ClassId} {sz : Nat}  {σ : ST} {q : Int32 × ST} (h : f_X6_faultAnswer   σ = some q) : Met l yX6_faultAnswer (.code yX6_faultAnswer cX6_faultAnswer 1 (some .int) :: pw) ({ frames := 0, cells := 0, slots := 0, locals := 0 } : Room) (va_Pc [.ref (a 2)] (vPre dC dI (wA a k σ) (tA k) sz)) (qAi dC dI a k (va_A (wA a k σ) sz) q) 0 0 (va_A (wA a k σ) sz) := metA (fun A => qAi dC dI a k A q) (plainFor_of_name (by decide)) (Nat.le_of_ble_eq_true rfl) (fun _ _ _ _ _ _ _ _ hC => b_X6_faultAnswer_e hC h)

def f_X9_clear (σ : ST) : Option (ST) := some (stI (stI (stI σ 48 1 0) 48 2 0) 48 3 0)

set_option maxRecDepth 100000 in
set_option maxHeartbeats 4000000 in
theorem b_X9_clear_e {p : Program} {l : Launch} {e : Env} {s : State} {m : MethodId} {args : Array Value} {below : List Frame} {meth : Method} {c : Code} {dC : Nat → ClassId} {dI : Nat → Nat → Nat} {a : Nat → Nat} {k : Nat → ClassId} {A : Nat → Prop} {q : ST} (hC : CxA p s m args meth c dC dI k A cX9_clear RX9 none 1)    {σ : ST} (h : f_X9_clear   σ = some q) : GoA p l e ({ frames := 0, cells := 0, slots := 0, locals := 0 } : Room) s m args below meth c (MQ below (qAv dC dI a k A q) args s 0 0 A) dC dI a k A 1 0 σ (lv_args 0 [.ref (a 48)]) [] := by
  have hC0 := hC
  obtain ⟨hx, hb, hr, hml, hown, hts, hlocks, hA, hN, hK⟩ := hC0
  intro H locs ls hP hD hS hl
  have hD0 : ∀ σ1 : ST, va_D A (wA a k σ1) := fun σ1 => wA_D hD
  replace hl : lv_has ls 1 [(0, .ref (a 48))] := hl
  unfold f_X9_clear at h
  refine lv_aload_n hx hb dX9_clear_0 rfl (lv_at hl 0 rfl) ?_
  refine lv_iconst (v := 0) hx hb dX9_clear_1 (by decide) ?_
  refine va_put (D := (dC, dI)) (ci := 9) (ty := .int) (C := RX9) (T := TX9) (N := 4) hx hb hts inlX9 tyX9 tyX9_ok nmX9 hown hK hP hD hS 48 gA_48 rfl 1 (by decide) (hts (.fieldLink RX9 15 "ShapeReader$Ways" "size" "I") mw_20_12) (fun _ h9 => h9) rfl (by decide +kernel) rfl rfl (Nat.le_of_ble_eq_true rfl) dX9_clear_2 (fun H locs hP hD hS => ?_)
  replace hP := uA_48_1 hP
  replace hD := hD0 ((stI σ 48 1 0))
  refine lv_aload_n hx hb dX9_clear_5 rfl (lv_at hl 0 rfl) ?_
  refine lv_iconst (v := 0) hx hb dX9_clear_6 (by decide) ?_
  refine va_put (D := (dC, dI)) (ci := 9) (ty := .int) (C := RX9) (T := TX9) (N := 4) hx hb hts inlX9 tyX9 tyX9_ok nmX9 hown hK hP hD hS 48 gA_48 rfl 2 (by decide) (hts (.fieldLink RX9 19 "ShapeReader$Ways" "found" "I") mw_20_13) (fun _ h9 => h9) rfl (by decide +kernel) rfl rfl (Nat.le_of_ble_eq_true rfl) dX9_clear_7 (fun H locs hP hD hS => ?_)
  replace hP := uA_48_2 hP
  replace hD := hD0 ((stI (stI σ 48 1 0) 48 2 0))
  refine lv_aload_n hx hb dX9_clear_10 rfl (lv_at hl 0 rfl) ?_
  refine lv_iconst (v := 0) hx hb dX9_clear_11 (by decide) ?_
  refine va_put (D := (dC, dI)) (ci := 9) (ty := .int) (C := RX9) (T := TX9) (N := 4) hx hb hts inlX9 tyX9 tyX9_ok nmX9 hown hK hP hD hS 48 gA_48 rfl 3 (by decide) (hts (.fieldLink RX9 22 "ShapeReader$Ways" "notFound" "I") mw_20_14) (fun _ h9 => h9) rfl (by decide +kernel) rfl rfl (Nat.le_of_ble_eq_true rfl) dX9_clear_12 (fun H locs hP hD hS => ?_)
  replace hP := uA_48_3 hP
  replace hD := hD0 ((stI (stI (stI σ 48 1 0) 48 2 0) 48 3 0))
  obtain rfl := Option.some.inj h
  exact W.vret hx hb hr (fun t ht hW => ⟨⟨(), rfl, trivial, ⟨by rw [ht]; exact hP, va_K.moved hW.alike hK, hD⟩⟩, hS.F ht⟩) hS.2.2 dX9_clear_15

theorem s_X9_clear {l : Launch} {dC : Nat → ClassId} {dI : Nat → Nat → Nat} {a : Nat → Nat} {k : Nat → ClassId} {sz : Nat}  {σ : ST} {q : ST} (h : f_X9_clear   σ = some q) : Met l yX9_clear (.code yX9_clear cX9_clear 1 none :: pw) ({ frames := 0, cells := 0, slots := 0, locals := 0 } : Room) (va_Pc [.ref (a 48)] (vPre dC dI (wA a k σ) (tA k) sz)) (qAv dC dI a k (va_A (wA a k σ) sz) q) 0 0 (va_A (wA a k σ) sz) := metA (fun A => qAv dC dI a k A q) (plainFor_of_name (by decide)) (Nat.le_of_ble_eq_true rfl) (fun _ _ _ _ _ _ _ _ hC => b_X9_clear_e hC h)

def f_X10_plans (p0 : Int32) (σ : ST) : Option (Int32 × ST) := if p0 < 0 then (some ((-1), σ)) else (if p0 ≤ (σ.1 0 1) then ((f_X6_begin  p0 (stI σ 0 1 0)).bind fun q1 => (f_X3_parse   q1).bind fun q3 => if q3.1 = 0 then ((f_X6_faultAnswer   q3.2).bind fun q17 => some (q17.1, q17.2)) else ((f_X5_copyFrom 4  q3.2).bind fun q5 => (f_X5_findEmptyRecords 4  q5).bind fun q7 => (f_X1_clear   q7).bind fun q9 => (f_X0_clear   q9).bind fun q11 => (f_X9_clear   q11).bind fun q13 => (f_X7_clear 50  q13).bind fun q15 => some ((q15.1 4 0), q15))) else (some ((-1), σ)))

set_option maxRecDepth 100000 in
set_option maxHeartbeats 4000000 in
theorem b_X10_plans_e {p : Program} {l : Launch} {e : Env} {s : State} {m : MethodId} {args : Array Value} {below : List Frame} {meth : Method} {c : Code} {dC : Nat → ClassId} {dI : Nat → Nat → Nat} {a : Nat → Nat} {k : Nat → ClassId} {A : Nat → Prop} {q : Int32 × ST} (hC : CxA p s m args meth c dC dI k A cX10_plans RX10 (some .int) 2)   {p0 : Int32} {σ : ST} (h : f_X10_plans  p0 σ = some q) : GoA p l e ({ frames := 167, cells := 0, slots := 0, locals := 4326 } : Room) s m args below meth c (MQ below (qAi dC dI a k A q) args s 0 0 A) dC dI a k A 2 0 σ (lv_args 0 [.ref (a 0), .int p0]) [] := by
  have hC0 := hC
  obtain ⟨hx, hb, hr, hml, hown, hts, hlocks, hA, hN, hK⟩ := hC0
  intro H locs ls hP hD hS hl
  have hD0 : ∀ σ1 : ST, va_D A (wA a k σ1) := fun σ1 => wA_D hD
  replace hl : lv_has ls 2 [(0, .ref (a 0)), (1, .int p0)] := hl
  unfold f_X10_plans at h
  refine lv_iload_n hx hb dX10_plans_0 rfl (lv_at hl 1 rfl) ?_
  refine lv_if_lt (tgt := 12) hx hb dX10_plans_1 (by decide) (fun hc => ?_) (fun hc => ?_)
  · replace h := ip hc h
    refine lv_iconst (v := (-1)) hx hb dX10_plans_12 (by decide) ?_
    obtain rfl := Option.some.inj h
    exact W.iret hx hb hr (fun t ht hW => ⟨⟨_, (), rfl, rfl, ⟨by rw [ht]; exact hP, va_K.moved hW.alike hK, hD⟩⟩, hS.F ht⟩) hS.2.2 dX10_plans_13
  · replace h := iq hc h
    refine lv_iload_n hx hb dX10_plans_4 rfl (lv_at hl 1 rfl) ?_
    refine lv_aload_n hx hb dX10_plans_5 rfl (lv_at hl 0 rfl) ?_
    refine va_get (D := (dC, dI)) (ci := 10) (C := RX10) (T := TX10) (N := 16) hx hb hts inlX10 hown hK hP 0 gA_0 rfl 1 (by decide) (hts (.fieldLink RX10 13 "ShapeReader" "tapeSize" "I") mw_20_22) (fun _ h9 => h9) rfl dX10_plans_6 ?_
    refine lv_icmp_le (tgt := 14) hx hb dX10_plans_9 (by decide) (fun hc => ?_) (fun hc => ?_)
    · replace h := ip hc h
      refine lv_aload_n hx hb dX10_plans_14 rfl (lv_at hl 0 rfl) ?_
      refine lv_iconst (v := 0) hx hb dX10_plans_15 (by decide) ?_
      refine va_put (D := (dC, dI)) (ci := 10) (ty := .int) (C := RX10) (T := TX10) (N := 16) hx hb hts inlX10 tyX10 tyX10_ok nmX10 hown hK hP hD hS 0 gA_0 rfl 1 (by decide) (hts (.fieldLink RX10 13 "ShapeReader" "tapeSize" "I") mw_20_22) (fun _ h9 => h9) rfl (by decide +kernel) rfl rfl (Nat.le_of_ble_eq_true rfl) dX10_plans_16 (fun H locs hP hD hS => ?_)
      replace hP := uA_0_1 hP
      replace hD := hD0 ((stI σ 0 1 0))
      refine lv_aload_n hx hb dX10_plans_19 rfl (lv_at hl 0 rfl) ?_
      refine va_get (D := (dC, dI)) (ci := 10) (C := RX10) (T := TX10) (N := 16) hx hb hts inlX10 hown hK hP 0 gA_0 rfl 2 (by decide) (hts (.fieldLink RX10 22 "ShapeReader" "tokens" "LShapeReader$Tokens;") mw_20_27) (fun _ h9 => h9) rfl dX10_plans_20 ?_
      refine lv_iload_n hx hb dX10_plans_23 rfl (lv_at hl 1 rfl) ?_
      obtain ⟨q1, hc, h⟩ := ib h
      have hF := va_frees hD hS hA
      refine va_callv (va_runV (As := [.int p0]) (rest := []) ⟨hx, hb, hml, hown, hts⟩ (s_X6_begin hc) (cwV 1 hts (gV mw_22_18 mw_22_19 mw_22_20 mw_0_10 mw_51_3) rfl rfl rfl (by decide +kernel) ⟨(Nat.le_of_ble_eq_true rfl), (Nat.le_of_ble_eq_true rfl)⟩) (vV (ci := 6) (q0 := 2) hK hP hD hN rfl gA_2) rfl rfl hl.1 rfl (lv_room (Nat.le_of_ble_eq_true rfl)) dX10_plans_24 ⟨(Nat.le_of_ble_eq_true rfl), (Nat.le_of_ble_eq_true rfl)⟩) hS (fun q _ h => hF q h) hF (fun u t H locs ht hvm hw hB _ _ hS => ?_)
      replace hP : va_P (dC, dI) vwCl (wA a k q1) H := by rw [← ht]; exact hB.1
      replace hD := hD0 (q1)
      clear hB hF
      refine lv_aload_n hx hb dX10_plans_27 rfl (lv_at hl 0 rfl) ?_
      refine va_get (D := (dC, dI)) (ci := 10) (C := RX10) (T := TX10) (N := 16) hx hb hts inlX10 hown hK hP 0 gA_0 rfl 5 (by decide) (hts (.fieldLink RX10 41 "ShapeReader" "planText" "LShapeReader$PlanText;") mw_21_7) (fun _ h9 => h9) rfl dX10_plans_28 ?_
      obtain ⟨q3, hc, h⟩ := ib h
      have hF := va_frees hD hS hA
      refine va_calli (va_runV (As := []) (rest := []) ⟨hx, hb, hml, hown, hts⟩ (s_X3_parse hc) (cwV 0 hts (gV mw_22_21 mw_22_22 mw_22_23 mw_0_7 mw_48_20) rfl rfl rfl (by decide +kernel) ⟨(Nat.le_of_ble_eq_true rfl), (Nat.le_of_ble_eq_true rfl)⟩) (vV (ci := 3) (q0 := 36) hK hP hD hN rfl gA_36) rfl rfl hl.1 rfl (lv_room (Nat.le_of_ble_eq_true rfl)) dX10_plans_31 ⟨(Nat.le_of_ble_eq_true rfl), (Nat.le_of_ble_eq_true rfl)⟩) hS (fun q _ h => hF q h) hF (fun r4 u t H locs ht hvm hw hB _ _ hS => ?_)
      obtain rfl : r4 = q3.1 := hw
      replace hP : va_P (dC, dI) vwCl (wA a k q3.2) H := by rw [← ht]; exact hB.1
      replace hD := hD0 (q3.2)
      clear hB hF
      refine lv_if_ne (tgt := 45) hx hb dX10_plans_34 (by decide) (fun hc => ?_) (fun hc => ?_)
      · replace h := iq hc h
        refine lv_aload_n hx hb dX10_plans_45 rfl (lv_at hl 0 rfl) ?_
        refine va_get (D := (dC, dI)) (ci := 10) (C := RX10) (T := TX10) (N := 16) hx hb hts inlX10 hown hK hP 0 gA_0 rfl 3 (by decide) (hts (.fieldLink RX10 29 "ShapeReader" "shapes" "LShapeReader$Shapes;") mw_21_1) (fun _ h9 => h9) rfl dX10_plans_46 ?_
        refine lv_aload_n hx hb dX10_plans_49 rfl (lv_at hl 0 rfl) ?_
        refine va_get (D := (dC, dI)) (ci := 10) (C := RX10) (T := TX10) (N := 16) hx hb hts inlX10 hown hK hP 0 gA_0 rfl 4 (by decide) (hts (.fieldLink RX10 33 "ShapeReader" "draft" "LShapeReader$Shapes;") mw_21_2) (fun _ h9 => h9) rfl dX10_plans_50 ?_
        obtain ⟨q5, hc, h⟩ := ib h
        have hF := va_frees hD hS hA
        refine va_callv (va_runV (As := [.ref (a 20)]) (rest := []) ⟨hx, hb, hml, hown, hts⟩ (s_X5_copyFrom_4 hc) (cwV 1 hts (gV mw_22_27 mw_22_28 mw_22_29 mw_0_9 mw_49_23) rfl rfl rfl (by decide +kernel) ⟨(Nat.le_of_ble_eq_true rfl), (Nat.le_of_ble_eq_true rfl)⟩) (vV (ci := 5) (q0 := 4) hK hP hD hN rfl gA_4) rfl rfl hl.1 rfl (lv_room (Nat.le_of_ble_eq_true rfl)) dX10_plans_53 ⟨(Nat.le_of_ble_eq_true rfl), (Nat.le_of_ble_eq_true rfl)⟩) hS (fun q _ h => hF q h) hF (fun u t H locs ht hvm hw hB _ _ hS => ?_)
        replace hP : va_P (dC, dI) vwCl (wA a k q5) H := by rw [← ht]; exact hB.1
        replace hD := hD0 (q5)
        clear hB hF
        refine lv_aload_n hx hb dX10_plans_56 rfl (lv_at hl 0 rfl) ?_
        refine va_get (D := (dC, dI)) (ci := 10) (C := RX10) (T := TX10) (N := 16) hx hb hts inlX10 hown hK hP 0 gA_0 rfl 3 (by decide) (hts (.fieldLink RX10 29 "ShapeReader" "shapes" "LShapeReader$Shapes;") mw_21_1) (fun _ h9 => h9) rfl dX10_plans_57 ?_
        obtain ⟨q7, hc, h⟩ := ib h
        have hF := va_frees hD hS hA
        refine va_callv (va_runV (As := []) (rest := []) ⟨hx, hb, hml, hown, hts⟩ (s_X5_findEmptyRecords_4 hc) (cwV 0 hts (gV mw_23_0 mw_23_1 mw_23_2 mw_0_9 mw_50_28) rfl rfl rfl (by decide +kernel) ⟨(Nat.le_of_ble_eq_true rfl), (Nat.le_of_ble_eq_true rfl)⟩) (vV (ci := 5) (q0 := 4) hK hP hD hN rfl gA_4) rfl rfl hl.1 rfl (lv_room (Nat.le_of_ble_eq_true rfl)) dX10_plans_60 ⟨(Nat.le_of_ble_eq_true rfl), (Nat.le_of_ble_eq_true rfl)⟩) hS (fun q _ h => hF q h) hF (fun u t H locs ht hvm hw hB _ _ hS => ?_)
        replace hP : va_P (dC, dI) vwCl (wA a k q7) H := by rw [← ht]; exact hB.1
        replace hD := hD0 (q7)
        clear hB hF
        refine lv_aload_n hx hb dX10_plans_63 rfl (lv_at hl 0 rfl) ?_
        refine va_get (D := (dC, dI)) (ci := 10) (C := RX10) (T := TX10) (N := 16) hx hb hts inlX10 hown hK hP 0 gA_0 rfl 6 (by decide) (hts (.fieldLink RX10 48 "ShapeReader" "messages" "LShapeReader$Messages;") mw_21_12) (fun _ h9 => h9) rfl dX10_plans_64 ?_
        obtain ⟨q9, hc, h⟩ := ib h
        have hF := va_frees hD hS hA
        refine va_callv (va_runV (As := []) (rest := []) ⟨hx, hb, hml, hown, hts⟩ (s_X1_clear hc) (cwV 0 hts (gV mw_23_3 mw_23_4 mw_23_5 mw_0_5 mw_47_28) rfl rfl rfl (by decide +kernel) ⟨(Nat.le_of_ble_eq_true rfl), (Nat.le_of_ble_eq_true rfl)⟩) (vV (ci := 1) (q0 := 37) hK hP hD hN rfl gA_37) rfl rfl hl.1 rfl (lv_room (Nat.le_of_ble_eq_true rfl)) dX10_plans_67 ⟨(Nat.le_of_ble_eq_true rfl), (Nat.le_of_ble_eq_true rfl)⟩) hS (fun q _ h => hF q h) hF (fun u t H locs ht hvm hw hB _ _ hS => ?_)
        replace hP : va_P (dC, dI) vwCl (wA a k q9) H := by rw [← ht]; exact hB.1
        replace hD := hD0 (q9)
        clear hB hF
        refine lv_aload_n hx hb dX10_plans_70 rfl (lv_at hl 0 rfl) ?_
        refine va_get (D := (dC, dI)) (ci := 10) (C := RX10) (T := TX10) (N := 16) hx hb hts inlX10 hown hK hP 0 gA_0 rfl 7 (by decide) (hts (.fieldLink RX10 57 "ShapeReader" "matcher" "LShapeReader$Matcher;") mw_21_17) (fun _ h9 => h9) rfl dX10_plans_71 ?_
        obtain ⟨q11, hc, h⟩ := ib h
        have hF := va_frees hD hS hA
        refine va_callv (va_runV (As := []) (rest := []) ⟨hx, hb, hml, hown, hts⟩ (s_X0_clear hc) (cwV 0 hts (gV mw_23_6 mw_23_7 mw_23_8 mw_0_4 mw_47_2) rfl rfl rfl (by decide +kernel) ⟨(Nat.le_of_ble_eq_true rfl), (Nat.le_of_ble_eq_true rfl)⟩) (vV (ci := 0) (q0 := 41) hK hP hD hN rfl gA_41) rfl rfl hl.1 rfl (lv_room (Nat.le_of_ble_eq_true rfl)) dX10_plans_74 ⟨(Nat.le_of_ble_eq_true rfl), (Nat.le_of_ble_eq_true rfl)⟩) hS (fun q _ h => hF q h) hF (fun u t H locs ht hvm hw hB _ _ hS => ?_)
        replace hP : va_P (dC, dI) vwCl (wA a k q11) H := by rw [← ht]; exact hB.1
        replace hD := hD0 (q11)
        clear hB hF
        refine lv_aload_n hx hb dX10_plans_77 rfl (lv_at hl 0 rfl) ?_
        refine va_get (D := (dC, dI)) (ci := 10) (C := RX10) (T := TX10) (N := 16) hx hb hts inlX10 hown hK hP 0 gA_0 rfl 8 (by decide) (hts (.fieldLink RX10 64 "ShapeReader" "ways" "LShapeReader$Ways;") mw_21_21) (fun _ h9 => h9) rfl dX10_plans_78 ?_
        obtain ⟨q13, hc, h⟩ := ib h
        have hF := va_frees hD hS hA
        refine va_callv (va_runV (As := []) (rest := []) ⟨hx, hb, hml, hown, hts⟩ (s_X9_clear hc) (cwV 0 hts (gV mw_23_9 mw_23_10 mw_23_11 mw_0_13 mw_52_20) rfl rfl rfl (by decide +kernel) ⟨(Nat.le_of_ble_eq_true rfl), (Nat.le_of_ble_eq_true rfl)⟩) (vV (ci := 9) (q0 := 48) hK hP hD hN rfl gA_48) rfl rfl hl.1 rfl (lv_room (Nat.le_of_ble_eq_true rfl)) dX10_plans_81 ⟨(Nat.le_of_ble_eq_true rfl), (Nat.le_of_ble_eq_true rfl)⟩) hS (fun q _ h => hF q h) hF (fun u t H locs ht hvm hw hB _ _ hS => ?_)
        replace hP : va_P (dC, dI) vwCl (wA a k q13) H := by rw [← ht]; exact hB.1
        replace hD := hD0 (q13)
        clear hB hF
        refine lv_aload_n hx hb dX10_plans_84 rfl (lv_at hl 0 rfl) ?_
        refine va_get (D := (dC, dI)) (ci := 10) (C := RX10) (T := TX10) (N := 16) hx hb hts inlX10 hown hK hP 0 gA_0 rfl 9 (by decide) (hts (.fieldLink RX10 73 "ShapeReader" "shown" "LShapeReader$Tree;") mw_21_26) (fun _ h9 => h9) rfl dX10_plans_85 ?_
        obtain ⟨q15, hc, h⟩ := ib h
        have hF := va_frees hD hS hA
        refine va_callv (va_runV (As := []) (rest := []) ⟨hx, hb, hml, hown, hts⟩ (s_X7_clear_50 hc) (cwV 0 hts (gV mw_23_12 mw_11_6 mw_11_7 mw_0_11 mw_51_23) rfl rfl rfl (by decide +kernel) ⟨(Nat.le_of_ble_eq_true rfl), (Nat.le_of_ble_eq_true rfl)⟩) (vV (ci := 7) (q0 := 50) hK hP hD hN rfl gA_50) rfl rfl hl.1 rfl (lv_room (Nat.le_of_ble_eq_true rfl)) dX10_plans_88 ⟨(Nat.le_of_ble_eq_true rfl), (Nat.le_of_ble_eq_true rfl)⟩) hS (fun q _ h => hF q h) hF (fun u t H locs ht hvm hw hB _ _ hS => ?_)
        replace hP : va_P (dC, dI) vwCl (wA a k q15) H := by rw [← ht]; exact hB.1
        replace hD := hD0 (q15)
        clear hB hF
        refine lv_aload_n hx hb dX10_plans_91 rfl (lv_at hl 0 rfl) ?_
        refine va_get (D := (dC, dI)) (ci := 10) (C := RX10) (T := TX10) (N := 16) hx hb hts inlX10 hown hK hP 0 gA_0 rfl 3 (by decide) (hts (.fieldLink RX10 29 "ShapeReader" "shapes" "LShapeReader$Shapes;") mw_21_1) (fun _ h9 => h9) rfl dX10_plans_92 ?_
        refine va_get (D := (dC, dI)) (ci := 5) (C := RX5) (T := TX5) (N := 17) hx hb hts inlX5 hown hK hP 4 gA_4 rfl 0 (by decide) (hts (.fieldLink RX10 137 "ShapeReader$Shapes" "planCount" "I") mw_23_13) (fun _ h9 => h9) rfl dX10_plans_95 ?_
        obtain rfl := Option.some.inj h
        exact W.iret hx hb hr (fun t ht hW => ⟨⟨_, (), rfl, rfl, ⟨by rw [ht]; exact hP, va_K.moved hW.alike hK, hD⟩⟩, hS.F ht⟩) hS.2.2 dX10_plans_98
      · replace h := ip hc h
        refine lv_aload_n hx hb dX10_plans_37 rfl (lv_at hl 0 rfl) ?_
        refine va_get (D := (dC, dI)) (ci := 10) (C := RX10) (T := TX10) (N := 16) hx hb hts inlX10 hown hK hP 0 gA_0 rfl 2 (by decide) (hts (.fieldLink RX10 22 "ShapeReader" "tokens" "LShapeReader$Tokens;") mw_20_27) (fun _ h9 => h9) rfl dX10_plans_38 ?_
        obtain ⟨q17, hc, h⟩ := ib h
        have hF := va_frees hD hS hA
        refine va_calli (va_runV (As := []) (rest := []) ⟨hx, hb, hml, hown, hts⟩ (s_X6_faultAnswer hc) (cwV 0 hts (gV mw_22_24 mw_22_25 mw_22_26 mw_0_10 mw_51_6) rfl rfl rfl (by decide +kernel) ⟨(Nat.le_of_ble_eq_true rfl), (Nat.le_of_ble_eq_true rfl)⟩) (vV (ci := 6) (q0 := 2) hK hP hD hN rfl gA_2) rfl rfl hl.1 rfl (lv_room (Nat.le_of_ble_eq_true rfl)) dX10_plans_41 ⟨(Nat.le_of_ble_eq_true rfl), (Nat.le_of_ble_eq_true rfl)⟩) hS (fun q _ h => hF q h) hF (fun r18 u t H locs ht hvm hw hB _ _ hS => ?_)
        obtain rfl : r18 = q17.1 := hw
        replace hP : va_P (dC, dI) vwCl (wA a k q17.2) H := by rw [← ht]; exact hB.1
        replace hD := hD0 (q17.2)
        clear hB hF
        obtain rfl := Option.some.inj h
        exact W.iret hx hb hr (fun t ht hW => ⟨⟨_, (), rfl, rfl, ⟨by rw [ht]; exact hP, va_K.moved hW.alike hK, hD⟩⟩, hS.F ht⟩) hS.2.2 dX10_plans_44
    · replace h := iq hc h
      refine lv_iconst (v := (-1)) hx hb dX10_plans_12 (by decide) ?_
      obtain rfl := Option.some.inj h
      exact W.iret hx hb hr (fun t ht hW => ⟨⟨_, (), rfl, rfl, ⟨by rw [ht]; exact hP, va_K.moved hW.alike hK, hD⟩⟩, hS.F ht⟩) hS.2.2 dX10_plans_13

theorem s_X10_plans {l : Launch} {dC : Nat → ClassId} {dI : Nat → Nat → Nat} {a : Nat → Nat} {k : Nat → ClassId} {sz : Nat} {p0 : Int32} {σ : ST} {q : Int32 × ST} (h : f_X10_plans  p0 σ = some q) : Met l yX10_plans (.code yX10_plans cX10_plans 2 (some .int) :: pw) ({ frames := 167, cells := 0, slots := 0, locals := 4326 } : Room) (va_Pc [.ref (a 0), .int p0] (vPre dC dI (wA a k σ) (tA k) sz)) (qAi dC dI a k (va_A (wA a k σ) sz) q) 0 0 (va_A (wA a k σ) sz) := metA (fun A => qAi dC dI a k A q) (plainFor_of_name (by decide)) (Nat.le_of_ble_eq_true rfl) (fun _ _ _ _ _ _ _ _ hC => b_X10_plans_e hC h)

def f_X10_read (p0 : Int32) (p1 : Int32) (σ : ST) : Option (Int32 × ST) := (f_X1_isWritten  p0 σ).bind fun q1 => if q1.1 = 0 then (some ((-1), q1.2)) else ((f_X10_isPlan  p1 q1.2).bind fun q3 => if q3.1 = 0 then (some ((-1), q3.2)) else ((f_X1_planOf  p0 q3.2).bind fun q5 => (f_X9_use  q5.1 p1 q5.2).bind fun q7 => (f_X4_run 89 50 p0 p1 q7).bind fun q9 => some (q9.1, q9.2)))

set_option maxRecDepth 100000 in
set_option maxHeartbeats 4000000 in
theorem b_X10_read_e {p : Program} {l : Launch} {e : Env} {s : State} {m : MethodId} {args : Array Value} {below : List Frame} {meth : Method} {c : Code} {dC : Nat → ClassId} {dI : Nat → Nat → Nat} {a : Nat → Nat} {k : Nat → ClassId} {A : Nat → Prop} {q : Int32 × ST} (hC : CxA p s m args meth c dC dI k A cX10_read RX10 (some .int) 3)   {p0 : Int32} {p1 : Int32} {σ : ST} (h : f_X10_read  p0 p1 σ = some q) : GoA p l e ({ frames := 326, cells := 0, slots := 0, locals := 9104 } : Room) s m args below meth c (MQ below (qAi dC dI a k A q) args s 0 0 A) dC dI a k A 3 0 σ (lv_args 0 [.ref (a 0), .int p0, .int p1]) [] := by
  have hC0 := hC
  obtain ⟨hx, hb, hr, hml, hown, hts, hlocks, hA, hN, hK⟩ := hC0
  intro H locs ls hP hD hS hl
  have hD0 : ∀ σ1 : ST, va_D A (wA a k σ1) := fun σ1 => wA_D hD
  replace hl : lv_has ls 3 [(0, .ref (a 0)), (1, .int p0), (2, .int p1)] := hl
  unfold f_X10_read at h
  refine lv_aload_n hx hb dX10_read_0 rfl (lv_at hl 0 rfl) ?_
  refine va_get (D := (dC, dI)) (ci := 10) (C := RX10) (T := TX10) (N := 16) hx hb hts inlX10 hown hK hP 0 gA_0 rfl 6 (by decide) (hts (.fieldLink RX10 48 "ShapeReader" "messages" "LShapeReader$Messages;") mw_21_12) (fun _ h9 => h9) rfl dX10_read_1 ?_
  refine lv_iload_n hx hb dX10_read_4 rfl (lv_at hl 1 rfl) ?_
  obtain ⟨q1, hc, h⟩ := ib h
  have hF := va_frees hD hS hA
  refine va_calli (va_runV (As := [.int p0]) (rest := []) ⟨hx, hb, hml, hown, hts⟩ (s_X1_isWritten hc) (cwV 1 hts (gV mw_24_13 mw_4_15 mw_4_16 mw_0_5 mw_48_0) rfl rfl rfl (by decide +kernel) ⟨(Nat.le_of_ble_eq_true rfl), (Nat.le_of_ble_eq_true rfl)⟩) (vV (ci := 1) (q0 := 37) hK hP hD hN rfl gA_37) rfl rfl hl.1 rfl (lv_room (Nat.le_of_ble_eq_true rfl)) dX10_read_5 ⟨(Nat.le_of_ble_eq_true rfl), (Nat.le_of_ble_eq_true rfl)⟩) hS (fun q _ h => hF q h) hF (fun r2 u t H locs ht hvm hw hB _ _ hS => ?_)
  obtain rfl : r2 = q1.1 := hw
  replace hP : va_P (dC, dI) vwCl (wA a k q1.2) H := by rw [← ht]; exact hB.1
  replace hD := hD0 (q1.2)
  clear hB hF
  refine lv_if_eq (tgt := 19) hx hb dX10_read_8 (by decide) (fun hc => ?_) (fun hc => ?_)
  · replace h := ip hc h
    refine lv_iconst (v := (-1)) hx hb dX10_read_19 (by decide) ?_
    obtain rfl := Option.some.inj h
    exact W.iret hx hb hr (fun t ht hW => ⟨⟨_, (), rfl, rfl, ⟨by rw [ht]; exact hP, va_K.moved hW.alike hK, hD⟩⟩, hS.F ht⟩) hS.2.2 dX10_read_20
  · replace h := iq hc h
    refine lv_aload_n hx hb dX10_read_11 rfl (lv_at hl 0 rfl) ?_
    refine lv_iload_n hx hb dX10_read_12 rfl (lv_at hl 2 rfl) ?_
    obtain ⟨q3, hc, h⟩ := ib h
    have hF := va_frees hD hS hA
    refine va_calli (va_runV (As := [.int p1]) (rest := []) ⟨hx, hb, hml, hown, hts⟩ (s_X10_isPlan hc) (cwV 1 hts (gV mw_23_15 mw_23_16 mw_23_17 mw_0_14 mw_52_29) rfl rfl rfl (by decide +kernel) ⟨(Nat.le_of_ble_eq_true rfl), (Nat.le_of_ble_eq_true rfl)⟩) (vV (ci := 10) (q0 := 0) hK hP hD hN rfl gA_0) rfl rfl hl.1 rfl (lv_room (Nat.le_of_ble_eq_true rfl)) dX10_read_13 ⟨(Nat.le_of_ble_eq_true rfl), (Nat.le_of_ble_eq_true rfl)⟩) hS (fun q _ h => hF q h) hF (fun r4 u t H locs ht hvm hw hB _ _ hS => ?_)
    obtain rfl : r4 = q3.1 := hw
    replace hP : va_P (dC, dI) vwCl (wA a k q3.2) H := by rw [← ht]; exact hB.1
    replace hD := hD0 (q3.2)
    clear hB hF
    refine lv_if_ne (tgt := 21) hx hb dX10_read_16 (by decide) (fun hc => ?_) (fun hc => ?_)
    · replace h := iq hc h
      refine lv_aload_n hx hb dX10_read_21 rfl (lv_at hl 0 rfl) ?_
      refine va_get (D := (dC, dI)) (ci := 10) (C := RX10) (T := TX10) (N := 16) hx hb hts inlX10 hown hK hP 0 gA_0 rfl 8 (by decide) (hts (.fieldLink RX10 64 "ShapeReader" "ways" "LShapeReader$Ways;") mw_21_21) (fun _ h9 => h9) rfl dX10_read_22 ?_
      refine lv_aload_n hx hb dX10_read_25 rfl (lv_at hl 0 rfl) ?_
      refine va_get (D := (dC, dI)) (ci := 10) (C := RX10) (T := TX10) (N := 16) hx hb hts inlX10 hown hK hP 0 gA_0 rfl 6 (by decide) (hts (.fieldLink RX10 48 "ShapeReader" "messages" "LShapeReader$Messages;") mw_21_12) (fun _ h9 => h9) rfl dX10_read_26 ?_
      refine lv_iload_n hx hb dX10_read_29 rfl (lv_at hl 1 rfl) ?_
      obtain ⟨q5, hc, h⟩ := ib h
      have hF := va_frees hD hS hA
      refine va_calli (va_runV (As := [.int p0]) (rest := [.ref (a 48)]) ⟨hx, hb, hml, hown, hts⟩ (s_X1_planOf hc) (cwV 1 hts (gV mw_24_15 mw_11_3 mw_11_4 mw_0_5 mw_48_3) rfl rfl rfl (by decide +kernel) ⟨(Nat.le_of_ble_eq_true rfl), (Nat.le_of_ble_eq_true rfl)⟩) (vV (ci := 1) (q0 := 37) hK hP hD hN rfl gA_37) rfl rfl hl.1 rfl (lv_room (Nat.le_of_ble_eq_true rfl)) dX10_read_30 ⟨(Nat.le_of_ble_eq_true rfl), (Nat.le_of_ble_eq_true rfl)⟩) hS (fun q _ h => hF q h) hF (fun r6 u t H locs ht hvm hw hB _ _ hS => ?_)
      obtain rfl : r6 = q5.1 := hw
      replace hP : va_P (dC, dI) vwCl (wA a k q5.2) H := by rw [← ht]; exact hB.1
      replace hD := hD0 (q5.2)
      clear hB hF
      refine lv_iload_n hx hb dX10_read_33 rfl (lv_at hl 2 rfl) ?_
      obtain ⟨q7, hc, h⟩ := ib h
      have hF := va_frees hD hS hA
      refine va_callv (va_runV (As := [.int q5.1, .int p1]) (rest := []) ⟨hx, hb, hml, hown, hts⟩ (s_X9_use hc) (cwV 2 hts (gV mw_25_12 mw_25_13 mw_25_14 mw_0_13 mw_52_22) rfl rfl rfl (by decide +kernel) ⟨(Nat.le_of_ble_eq_true rfl), (Nat.le_of_ble_eq_true rfl)⟩) (vV (ci := 9) (q0 := 48) hK hP hD hN rfl gA_48) rfl rfl hl.1 rfl (lv_room (Nat.le_of_ble_eq_true rfl)) dX10_read_34 ⟨(Nat.le_of_ble_eq_true rfl), (Nat.le_of_ble_eq_true rfl)⟩) hS (fun q _ h => hF q h) hF (fun u t H locs ht hvm hw hB _ _ hS => ?_)
      replace hP : va_P (dC, dI) vwCl (wA a k q7) H := by rw [← ht]; exact hB.1
      replace hD := hD0 (q7)
      clear hB hF
      refine lv_aload_n hx hb dX10_read_37 rfl (lv_at hl 0 rfl) ?_
      refine va_get (D := (dC, dI)) (ci := 10) (C := RX10) (T := TX10) (N := 16) hx hb hts inlX10 hown hK hP 0 gA_0 rfl 14 (by decide) (hts (.fieldLink RX10 104 "ShapeReader" "latest" "LShapeReader$Reading;") mw_22_13) (fun _ h9 => h9) rfl dX10_read_38 ?_
      refine lv_iload_n hx hb dX10_read_41 rfl (lv_at hl 1 rfl) ?_
      refine lv_iload_n hx hb dX10_read_42 rfl (lv_at hl 2 rfl) ?_
      refine lv_aload_n hx hb dX10_read_43 rfl (lv_at hl 0 rfl) ?_
      refine va_get (D := (dC, dI)) (ci := 10) (C := RX10) (T := TX10) (N := 16) hx hb hts inlX10 hown hK hP 0 gA_0 rfl 9 (by decide) (hts (.fieldLink RX10 73 "ShapeReader" "shown" "LShapeReader$Tree;") mw_21_26) (fun _ h9 => h9) rfl dX10_read_44 ?_
      obtain ⟨q9, hc, h⟩ := ib h
      have hF := va_frees hD hS hA
      refine va_calli (va_runV (As := [.int p0, .int p1, .ref (a 50)]) (rest := []) ⟨hx, hb, hml, hown, hts⟩ (s_X4_run_89_50 hc) (cwV 3 hts (gV mw_25_15 mw_25_16 mw_25_17 mw_0_8 mw_49_0) rfl rfl rfl (by decide +kernel) ⟨(Nat.le_of_ble_eq_true rfl), (Nat.le_of_ble_eq_true rfl)⟩) (vV (ci := 4) (q0 := 89) hK hP hD hN rfl gA_89) rfl rfl hl.1 rfl (lv_room (Nat.le_of_ble_eq_true rfl)) dX10_read_47 ⟨(Nat.le_of_ble_eq_true rfl), (Nat.le_of_ble_eq_true rfl)⟩) hS (fun q _ h => hF q h) hF (fun r10 u t H locs ht hvm hw hB _ _ hS => ?_)
      obtain rfl : r10 = q9.1 := hw
      replace hP : va_P (dC, dI) vwCl (wA a k q9.2) H := by rw [← ht]; exact hB.1
      replace hD := hD0 (q9.2)
      clear hB hF
      obtain rfl := Option.some.inj h
      exact W.iret hx hb hr (fun t ht hW => ⟨⟨_, (), rfl, rfl, ⟨by rw [ht]; exact hP, va_K.moved hW.alike hK, hD⟩⟩, hS.F ht⟩) hS.2.2 dX10_read_50
    · replace h := ip hc h
      refine lv_iconst (v := (-1)) hx hb dX10_read_19 (by decide) ?_
      obtain rfl := Option.some.inj h
      exact W.iret hx hb hr (fun t ht hW => ⟨⟨_, (), rfl, rfl, ⟨by rw [ht]; exact hP, va_K.moved hW.alike hK, hD⟩⟩, hS.F ht⟩) hS.2.2 dX10_read_20

theorem s_X10_read {l : Launch} {dC : Nat → ClassId} {dI : Nat → Nat → Nat} {a : Nat → Nat} {k : Nat → ClassId} {sz : Nat} {p0 : Int32} {p1 : Int32} {σ : ST} {q : Int32 × ST} (h : f_X10_read  p0 p1 σ = some q) : Met l yX10_read (.code yX10_read cX10_read 3 (some .int) :: pw) ({ frames := 326, cells := 0, slots := 0, locals := 9104 } : Room) (va_Pc [.ref (a 0), .int p0, .int p1] (vPre dC dI (wA a k σ) (tA k) sz)) (qAi dC dI a k (va_A (wA a k σ) sz) q) 0 0 (va_A (wA a k σ) sz) := metA (fun A => qAi dC dI a k A q) (plainFor_of_name (by decide)) (Nat.le_of_ble_eq_true rfl) (fun _ _ _ _ _ _ _ _ hC => b_X10_read_e hC h)

def f_X10_readers_57 (k24 : Int32 → Int32 → Int32 → Int32 → ST → Option (Int32 × ST)) (x1 : Int32) (x2 : Int32) (x3 : Int32) (x4 : Int32) (σ : ST) : Option (Int32 × ST) := k24 x1 x2 x3 (x4 + 1) σ
def f_X10_readers_24  : Nat → Int32 → Int32 → Int32 → Int32 → ST → Option (Int32 × ST)
  | 0, _, _, _, _, _ => none
  | n + 1, x1, x2, x3, x4, σ => if (σ.1 4 0) ≤ x4 then (some (x3, σ)) else ((f_X0_verdict  x1 x4 σ).bind fun q1 => if x2 < q1.1 then (f_X10_readers_57 (f_X10_readers_24  n) x1 x2 x3 x4 q1.2) else (f_X10_readers_57 (f_X10_readers_24  n) x1 x2 (x3 ||| (1 <<< (x4 &&& 31))) x4 q1.2))
def f_X10_readers (p0 : Int32) (p1 : Int32) (σ : ST) : Option (Int32 × ST) := (f_X10_isPlan  p0 σ).bind fun q1 => if q1.1 = 0 then (some ((-1), q1.2)) else (if p1 < 0 then (some ((-1), q1.2)) else (if p1 ≤ 1 then (f_X10_readers_24  FU p0 p1 0 0 q1.2) else (some ((-1), q1.2))))

set_option maxRecDepth 100000 in
set_option maxHeartbeats 4000000 in
theorem b_X10_readers_57 {p : Program} {l : Launch} {e : Env} {s : State} {m : MethodId} {args : Array Value} {below : List Frame} {meth : Method} {c : Code} {dC : Nat → ClassId} {dI : Nat → Nat → Nat} {a : Nat → Nat} {k : Nat → ClassId} {A : Nat → Prop} {q : Int32 × ST} (hC : CxA p s m args meth c dC dI k A cX10_readers RX10 (some .int) 5)  {k24 : Int32 → Int32 → Int32 → Int32 → ST → Option (Int32 × ST)} (hk24 : ∀ (x1 : Int32) (x2 : Int32) (x3 : Int32) (x4 : Int32) (σ : ST), k24 x1 x2 x3 x4 σ = some q → GoA p l e ({ frames := 327, cells := 0, slots := 0, locals := 8967 } : Room) s m args below meth c (MQ below (qAi dC dI a k A q) args s 0 0 A) dC dI a k A 5 24 σ [(0, .ref (a 0)), (1, .int x1), (2, .int x2), (3, .int x3), (4, .int x4)] []) {x1 : Int32} {x2 : Int32} {x3 : Int32} {x4 : Int32} {σ : ST} (h : f_X10_readers_57 k24 x1 x2 x3 x4 σ = some q) : GoA p l e ({ frames := 327, cells := 0, slots := 0, locals := 8967 } : Room) s m args below meth c (MQ below (qAi dC dI a k A q) args s 0 0 A) dC dI a k A 5 57 σ [(0, .ref (a 0)), (1, .int x1), (2, .int x2), (3, .int x3), (4, .int x4)] [] := by
  have hC0 := hC
  obtain ⟨hx, hb, hr, hml, hown, hts, hlocks, hA, hN, hK⟩ := hC0
  intro H locs ls hP hD hS hl
  have hD0 : ∀ σ1 : ST, va_D A (wA a k σ1) := fun σ1 => wA_D hD
  unfold f_X10_readers_57 at h
  refine lv_iinc (v := (x4 + 1)) (lv' := [(4, .int (x4 + 1)), (0, .ref (a 0)), (1, .int x1), (2, .int x2), (3, .int x3)]) hx hb dX10_readers_57 hl (k := 4) rfl rfl (by decide) rfl (fun ls hl => ?_)
  refine lv_goto (tgt := 24) hx hb dX10_readers_60 (by decide) ?_
  exact hk24 _ _ _ _ _ h _ _ _ hP hD hS (lv_sub hl [1, 2, 3, 4, 0] rfl)

set_option maxRecDepth 100000 in
set_option maxHeartbeats 4000000 in
theorem b_X10_readers_24 {p : Program} {l : Launch} {e : Env} {s : State} {m : MethodId} {args : Array Value} {below : List Frame} {meth : Method} {c : Code} {dC : Nat → ClassId} {dI : Nat → Nat → Nat} {a : Nat → Nat} {k : Nat → ClassId} {A : Nat → Prop} {q : Int32 × ST} (hC : CxA p s m args meth c dC dI k A cX10_readers RX10 (some .int) 5)   : ∀ (n : Nat) (x1 : Int32) (x2 : Int32) (x3 : Int32) (x4 : Int32) (σ : ST), f_X10_readers_24  n x1 x2 x3 x4 σ = some q → GoA p l e ({ frames := 327, cells := 0, slots := 0, locals := 8967 } : Room) s m args below meth c (MQ below (qAi dC dI a k A q) args s 0 0 A) dC dI a k A 5 24 σ [(0, .ref (a 0)), (1, .int x1), (2, .int x2), (3, .int x3), (4, .int x4)] [] := by
  intro n
  induction n with
  | zero =>
    intro x1 x2 x3 x4 σ h
    rw [f_X10_readers_24] at h
    cases h
  | succ n ih =>
    intro x1 x2 x3 x4 σ h
    have hC0 := hC
    obtain ⟨hx, hb, hr, hml, hown, hts, hlocks, hA, hN, hK⟩ := hC0
    intro H locs ls hP hD hS hl
    have hD0 : ∀ σ1 : ST, va_D A (wA a k σ1) := fun σ1 => wA_D hD
    rw [f_X10_readers_24] at h
    refine lv_iload hx hb dX10_readers_24 (lv_at hl 4 rfl) ?_
    refine lv_aload_n hx hb dX10_readers_26 rfl (lv_at hl 0 rfl) ?_
    refine va_get (D := (dC, dI)) (ci := 10) (C := RX10) (T := TX10) (N := 16) hx hb hts inlX10 hown hK hP 0 gA_0 rfl 3 (by decide) (hts (.fieldLink RX10 29 "ShapeReader" "shapes" "LShapeReader$Shapes;") mw_21_1) (fun _ h9 => h9) rfl dX10_readers_27 ?_
    refine va_get (D := (dC, dI)) (ci := 5) (C := RX5) (T := TX5) (N := 17) hx hb hts inlX5 hown hK hP 4 gA_4 rfl 0 (by decide) (hts (.fieldLink RX10 137 "ShapeReader$Shapes" "planCount" "I") mw_23_13) (fun _ h9 => h9) rfl dX10_readers_30 ?_
    refine lv_icmp_ge (tgt := 63) hx hb dX10_readers_33 (by decide) (fun hc => ?_) (fun hc => ?_)
    · replace h := ip hc h
      refine lv_iload_n hx hb dX10_readers_63 rfl (lv_at hl 3 rfl) ?_
      obtain rfl := Option.some.inj h
      exact W.iret hx hb hr (fun t ht hW => ⟨⟨_, (), rfl, rfl, ⟨by rw [ht]; exact hP, va_K.moved hW.alike hK, hD⟩⟩, hS.F ht⟩) hS.2.2 dX10_readers_64
    · replace h := iq hc h
      refine lv_aload_n hx hb dX10_readers_36 rfl (lv_at hl 0 rfl) ?_
      refine va_get (D := (dC, dI)) (ci := 10) (C := RX10) (T := TX10) (N := 16) hx hb hts inlX10 hown hK hP 0 gA_0 rfl 7 (by decide) (hts (.fieldLink RX10 57 "ShapeReader" "matcher" "LShapeReader$Matcher;") mw_21_17) (fun _ h9 => h9) rfl dX10_readers_37 ?_
      refine lv_iload_n hx hb dX10_readers_40 rfl (lv_at hl 1 rfl) ?_
      refine lv_iload hx hb dX10_readers_41 (lv_at hl 4 rfl) ?_
      obtain ⟨q1, hc, h⟩ := ib h
      have hF := va_frees hD hS hA
      refine va_calli (va_runV (As := [.int x1, .int x4]) (rest := []) ⟨hx, hb, hml, hown, hts⟩ (s_X0_verdict hc) (cwV 2 hts (gV mw_24_26 mw_24_27 mw_24_28 mw_0_4 mw_47_15) rfl rfl rfl (by decide +kernel) ⟨(Nat.le_of_ble_eq_true rfl), (Nat.le_of_ble_eq_true rfl)⟩) (vV (ci := 0) (q0 := 41) hK hP hD hN rfl gA_41) rfl rfl hl.1 rfl (lv_room (Nat.le_of_ble_eq_true rfl)) dX10_readers_43 ⟨(Nat.le_of_ble_eq_true rfl), (Nat.le_of_ble_eq_true rfl)⟩) hS (fun q _ h => hF q h) hF (fun r2 u t H locs ht hvm hw hB _ _ hS => ?_)
      obtain rfl : r2 = q1.1 := hw
      replace hP : va_P (dC, dI) vwCl (wA a k q1.2) H := by rw [← ht]; exact hB.1
      replace hD := hD0 (q1.2)
      clear hB hF
      refine lv_iload_n hx hb dX10_readers_46 rfl (lv_at hl 2 rfl) ?_
      refine lv_icmp_gt (tgt := 57) hx hb dX10_readers_47 (by decide) (fun hc => ?_) (fun hc => ?_)
      · replace h := ip hc h
        exact b_X10_readers_57 hC ih h _ _ _ hP hD hS (lv_sub hl [0, 1, 2, 3, 4] rfl)
      · replace h := iq hc h
        refine lv_iload_n hx hb dX10_readers_50 rfl (lv_at hl 3 rfl) ?_
        refine lv_iconst (v := 1) hx hb dX10_readers_51 (by decide) ?_
        refine lv_iload hx hb dX10_readers_52 (lv_at hl 4 rfl) ?_
        refine lv_ishl hx hb dX10_readers_54 ?_
        refine lv_ior hx hb dX10_readers_55 ?_
        refine lv_istore_n (lv' := [(3, .int (x3 ||| (1 <<< (x4 &&& 31)))), (0, .ref (a 0)), (1, .int x1), (2, .int x2), (4, .int x4)]) hx hb dX10_readers_56 rfl hl (by decide) rfl (fun ls hl => ?_)
        exact b_X10_readers_57 hC ih h _ _ _ hP hD hS (lv_sub hl [1, 2, 3, 0, 4] rfl)

set_option maxRecDepth 100000 in
set_option maxHeartbeats 4000000 in
theorem b_X10_readers_e {p : Program} {l : Launch} {e : Env} {s : State} {m : MethodId} {args : Array Value} {below : List Frame} {meth : Method} {c : Code} {dC : Nat → ClassId} {dI : Nat → Nat → Nat} {a : Nat → Nat} {k : Nat → ClassId} {A : Nat → Prop} {q : Int32 × ST} (hC : CxA p s m args meth c dC dI k A cX10_readers RX10 (some .int) 5)   {p0 : Int32} {p1 : Int32} {σ : ST} (h : f_X10_readers  p0 p1 σ = some q) : GoA p l e ({ frames := 327, cells := 0, slots := 0, locals := 8967 } : Room) s m args below meth c (MQ below (qAi dC dI a k A q) args s 0 0 A) dC dI a k A 5 0 σ (lv_args 0 [.ref (a 0), .int p0, .int p1]) [] := by
  have hC0 := hC
  obtain ⟨hx, hb, hr, hml, hown, hts, hlocks, hA, hN, hK⟩ := hC0
  intro H locs ls hP hD hS hl
  have hD0 : ∀ σ1 : ST, va_D A (wA a k σ1) := fun σ1 => wA_D hD
  replace hl : lv_has ls 5 [(0, .ref (a 0)), (1, .int p0), (2, .int p1)] := hl
  unfold f_X10_readers at h
  refine lv_aload_n hx hb dX10_readers_0 rfl (lv_at hl 0 rfl) ?_
  refine lv_iload_n hx hb dX10_readers_1 rfl (lv_at hl 1 rfl) ?_
  obtain ⟨q1, hc, h⟩ := ib h
  have hF := va_frees hD hS hA
  refine va_calli (va_runV (As := [.int p0]) (rest := []) ⟨hx, hb, hml, hown, hts⟩ (s_X10_isPlan hc) (cwV 1 hts (gV mw_23_15 mw_23_16 mw_23_17 mw_0_14 mw_52_29) rfl rfl rfl (by decide +kernel) ⟨(Nat.le_of_ble_eq_true rfl), (Nat.le_of_ble_eq_true rfl)⟩) (vV (ci := 10) (q0 := 0) hK hP hD hN rfl gA_0) rfl rfl hl.1 rfl (lv_room (Nat.le_of_ble_eq_true rfl)) dX10_readers_2 ⟨(Nat.le_of_ble_eq_true rfl), (Nat.le_of_ble_eq_true rfl)⟩) hS (fun q _ h => hF q h) hF (fun r2 u t H locs ht hvm hw hB _ _ hS => ?_)
  obtain rfl : r2 = q1.1 := hw
  replace hP : va_P (dC, dI) vwCl (wA a k q1.2) H := by rw [← ht]; exact hB.1
  replace hD := hD0 (q1.2)
  clear hB hF
  refine lv_if_eq (tgt := 17) hx hb dX10_readers_5 (by decide) (fun hc => ?_) (fun hc => ?_)
  · replace h := ip hc h
    refine lv_iconst (v := (-1)) hx hb dX10_readers_17 (by decide) ?_
    obtain rfl := Option.some.inj h
    exact W.iret hx hb hr (fun t ht hW => ⟨⟨_, (), rfl, rfl, ⟨by rw [ht]; exact hP, va_K.moved hW.alike hK, hD⟩⟩, hS.F ht⟩) hS.2.2 dX10_readers_18
  · replace h := iq hc h
    refine lv_iload_n hx hb dX10_readers_8 rfl (lv_at hl 2 rfl) ?_
    refine lv_if_lt (tgt := 17) hx hb dX10_readers_9 (by decide) (fun hc => ?_) (fun hc => ?_)
    · replace h := ip hc h
      refine lv_iconst (v := (-1)) hx hb dX10_readers_17 (by decide) ?_
      obtain rfl := Option.some.inj h
      exact W.iret hx hb hr (fun t ht hW => ⟨⟨_, (), rfl, rfl, ⟨by rw [ht]; exact hP, va_K.moved hW.alike hK, hD⟩⟩, hS.F ht⟩) hS.2.2 dX10_readers_18
    · replace h := iq hc h
      refine lv_iload_n hx hb dX10_readers_12 rfl (lv_at hl 2 rfl) ?_
      refine lv_iconst (v := 1) hx hb dX10_readers_13 (by decide) ?_
      refine lv_icmp_le (tgt := 19) hx hb dX10_readers_14 (by decide) (fun hc => ?_) (fun hc => ?_)
      · replace h := ip hc h
        refine lv_iconst (v := 0) hx hb dX10_readers_19 (by decide) ?_
        refine lv_istore_n (lv' := [(3, .int 0), (0, .ref (a 0)), (1, .int p0), (2, .int p1)]) hx hb dX10_readers_20 rfl hl (by decide) rfl (fun ls hl => ?_)
        refine lv_iconst (v := 0) hx hb dX10_readers_21 (by decide) ?_
        refine lv_istore (lv' := [(4, .int 0), (3, .int 0), (0, .ref (a 0)), (1, .int p0), (2, .int p1)]) hx hb dX10_readers_22 hl (by decide) rfl (fun ls hl => ?_)
        exact b_X10_readers_24 hC FU _ _ _ _ _ h _ _ _ hP hD hS (lv_sub hl [2, 3, 4, 1, 0] rfl)
      · replace h := iq hc h
        refine lv_iconst (v := (-1)) hx hb dX10_readers_17 (by decide) ?_
        obtain rfl := Option.some.inj h
        exact W.iret hx hb hr (fun t ht hW => ⟨⟨_, (), rfl, rfl, ⟨by rw [ht]; exact hP, va_K.moved hW.alike hK, hD⟩⟩, hS.F ht⟩) hS.2.2 dX10_readers_18

theorem s_X10_readers {l : Launch} {dC : Nat → ClassId} {dI : Nat → Nat → Nat} {a : Nat → Nat} {k : Nat → ClassId} {sz : Nat} {p0 : Int32} {p1 : Int32} {σ : ST} {q : Int32 × ST} (h : f_X10_readers  p0 p1 σ = some q) : Met l yX10_readers (.code yX10_readers cX10_readers 5 (some .int) :: pw) ({ frames := 327, cells := 0, slots := 0, locals := 8967 } : Room) (va_Pc [.ref (a 0), .int p0, .int p1] (vPre dC dI (wA a k σ) (tA k) sz)) (qAi dC dI a k (va_A (wA a k σ) sz) q) 0 0 (va_A (wA a k σ) sz) := metA (fun A => qAi dC dI a k A q) (plainFor_of_name (by decide)) (Nat.le_of_ble_eq_true rfl) (fun _ _ _ _ _ _ _ _ hC => b_X10_readers_e hC h)

def f_X10_record (p0 : Int32) (p1 : Int32) (p2 : Int32) (σ : ST) : Option (Int32 × ST) := (f_X10_isPlan  p0 σ).bind fun q1 => if q1.1 = 0 then (some ((-1), q1.2)) else ((f_X5_recordsOf 4 p0 q1.2).bind fun q3 => if p1 = (-1) then (some (q3.1, q3.2)) else (if p1 < 0 then (some ((-1), q3.2)) else (if p1 < q3.1 then (if p2 = 0 then ((f_X5_fieldsOf 4 ((p0 * 6) + p1) q3.2).bind fun q7 => some (q7.1, q7.2)) else (if p2 = 1 then ((f_X5_recordName 4 ((p0 * 6) + p1) q3.2).bind fun q9 => (f_X10_lettersIn  q9.1 q9.2).bind fun q11 => some (q11.1, q11.2)) else (some ((-1), q3.2)))) else (some ((-1), q3.2)))))

set_option maxRecDepth 100000 in
set_option maxHeartbeats 4000000 in
theorem b_X10_record_e {p : Program} {l : Launch} {e : Env} {s : State} {m : MethodId} {args : Array Value} {below : List Frame} {meth : Method} {c : Code} {dC : Nat → ClassId} {dI : Nat → Nat → Nat} {a : Nat → Nat} {k : Nat → ClassId} {A : Nat → Prop} {q : Int32 × ST} (hC : CxA p s m args meth c dC dI k A cX10_record RX10 (some .int) 6)   {p0 : Int32} {p1 : Int32} {p2 : Int32} {σ : ST} (h : f_X10_record  p0 p1 p2 σ = some q) : GoA p l e ({ frames := 2, cells := 0, slots := 0, locals := 44 } : Room) s m args below meth c (MQ below (qAi dC dI a k A q) args s 0 0 A) dC dI a k A 6 0 σ (lv_args 0 [.ref (a 0), .int p0, .int p1, .int p2]) [] := by
  have hC0 := hC
  obtain ⟨hx, hb, hr, hml, hown, hts, hlocks, hA, hN, hK⟩ := hC0
  intro H locs ls hP hD hS hl
  have hD0 : ∀ σ1 : ST, va_D A (wA a k σ1) := fun σ1 => wA_D hD
  replace hl : lv_has ls 6 [(0, .ref (a 0)), (1, .int p0), (2, .int p1), (3, .int p2)] := hl
  unfold f_X10_record at h
  refine lv_aload_n hx hb dX10_record_0 rfl (lv_at hl 0 rfl) ?_
  refine lv_iload_n hx hb dX10_record_1 rfl (lv_at hl 1 rfl) ?_
  obtain ⟨q1, hc, h⟩ := ib h
  have hF := va_frees hD hS hA
  refine va_calli (va_runV (As := [.int p0]) (rest := []) ⟨hx, hb, hml, hown, hts⟩ (s_X10_isPlan hc) (cwV 1 hts (gV mw_23_15 mw_23_16 mw_23_17 mw_0_14 mw_52_29) rfl rfl rfl (by decide +kernel) ⟨(Nat.le_of_ble_eq_true rfl), (Nat.le_of_ble_eq_true rfl)⟩) (vV (ci := 10) (q0 := 0) hK hP hD hN rfl gA_0) rfl rfl hl.1 rfl (lv_room (Nat.le_of_ble_eq_true rfl)) dX10_record_2 ⟨(Nat.le_of_ble_eq_true rfl), (Nat.le_of_ble_eq_true rfl)⟩) hS (fun q _ h => hF q h) hF (fun r2 u t H locs ht hvm hw hB _ _ hS => ?_)
  obtain rfl : r2 = q1.1 := hw
  replace hP : va_P (dC, dI) vwCl (wA a k q1.2) H := by rw [← ht]; exact hB.1
  replace hD := hD0 (q1.2)
  clear hB hF
  refine lv_if_ne (tgt := 10) hx hb dX10_record_5 (by decide) (fun hc => ?_) (fun hc => ?_)
  · replace h := iq hc h
    refine lv_aload_n hx hb dX10_record_10 rfl (lv_at hl 0 rfl) ?_
    refine va_get (D := (dC, dI)) (ci := 10) (C := RX10) (T := TX10) (N := 16) hx hb hts inlX10 hown hK hP 0 gA_0 rfl 3 (by decide) (hts (.fieldLink RX10 29 "ShapeReader" "shapes" "LShapeReader$Shapes;") mw_21_1) (fun _ h9 => h9) rfl dX10_record_11 ?_
    refine lv_iload_n hx hb dX10_record_14 rfl (lv_at hl 1 rfl) ?_
    obtain ⟨q3, hc, h⟩ := ib h
    have hF := va_frees hD hS hA
    refine va_calli (va_runV (As := [.int p0]) (rest := []) ⟨hx, hb, hml, hown, hts⟩ (s_X5_recordsOf_4 hc) (cwV 1 hts (gV mw_24_0 mw_1_13 mw_1_14 mw_0_9 mw_49_27) rfl rfl rfl (by decide +kernel) ⟨(Nat.le_of_ble_eq_true rfl), (Nat.le_of_ble_eq_true rfl)⟩) (vV (ci := 5) (q0 := 4) hK hP hD hN rfl gA_4) rfl rfl hl.1 rfl (lv_room (Nat.le_of_ble_eq_true rfl)) dX10_record_15 ⟨(Nat.le_of_ble_eq_true rfl), (Nat.le_of_ble_eq_true rfl)⟩) hS (fun q _ h => hF q h) hF (fun r4 u t H locs ht hvm hw hB _ _ hS => ?_)
    obtain rfl : r4 = q3.1 := hw
    replace hP : va_P (dC, dI) vwCl (wA a k q3.2) H := by rw [← ht]; exact hB.1
    replace hD := hD0 (q3.2)
    clear hB hF
    refine lv_istore (lv' := [(4, .int q3.1), (0, .ref (a 0)), (1, .int p0), (2, .int p1), (3, .int p2)]) hx hb dX10_record_18 hl (by decide) rfl (fun ls hl => ?_)
    refine lv_iload_n hx hb dX10_record_20 rfl (lv_at hl 3 rfl) ?_
    refine lv_iconst (v := (-1)) hx hb dX10_record_21 (by decide) ?_
    refine lv_icmp_ne (tgt := 28) hx hb dX10_record_22 (by decide) (fun hc => ?_) (fun hc => ?_)
    · replace h := iq hc h
      refine lv_iload_n hx hb dX10_record_28 rfl (lv_at hl 3 rfl) ?_
      refine lv_if_lt (tgt := 38) hx hb dX10_record_29 (by decide) (fun hc => ?_) (fun hc => ?_)
      · replace h := ip hc h
        refine lv_iconst (v := (-1)) hx hb dX10_record_38 (by decide) ?_
        obtain rfl := Option.some.inj h
        exact W.iret hx hb hr (fun t ht hW => ⟨⟨_, (), rfl, rfl, ⟨by rw [ht]; exact hP, va_K.moved hW.alike hK, hD⟩⟩, hS.F ht⟩) hS.2.2 dX10_record_39
      · replace h := iq hc h
        refine lv_iload_n hx hb dX10_record_32 rfl (lv_at hl 3 rfl) ?_
        refine lv_iload hx hb dX10_record_33 (lv_at hl 0 rfl) ?_
        refine lv_icmp_lt (tgt := 40) hx hb dX10_record_35 (by decide) (fun hc => ?_) (fun hc => ?_)
        · replace h := ip hc h
          refine lv_iload_n hx hb dX10_record_40 rfl (lv_at hl 2 rfl) ?_
          refine lv_bipush (v := 6) hx hb dX10_record_41 (by decide) ?_
          refine lv_imul hx hb dX10_record_43 ?_
          refine lv_iload_n hx hb dX10_record_44 rfl (lv_at hl 3 rfl) ?_
          refine lv_iadd hx hb dX10_record_45 ?_
          refine lv_istore (lv' := [(5, .int ((p0 * 6) + p1)), (4, .int q3.1), (0, .ref (a 0)), (1, .int p0), (2, .int p1), (3, .int p2)]) hx hb dX10_record_46 hl (by decide) rfl (fun ls hl => ?_)
          refine lv_iload_n hx hb dX10_record_48 rfl (lv_at hl 5 rfl) ?_
          rcases (il_sw2 p2 (0) (1)) with s5 | s6 | ⟨s5, s6⟩
          · replace h := ip s5 h
            refine lv_lookup (off := 27) (tgt := 76) hx hb dX10_record_49 (by decide) (by rw [s5]; decide) (by decide) ?_
            refine lv_aload_n hx hb dX10_record_76 rfl (lv_at hl 2 rfl) ?_
            refine va_get (D := (dC, dI)) (ci := 10) (C := RX10) (T := TX10) (N := 16) hx hb hts inlX10 hown hK hP 0 gA_0 rfl 3 (by decide) (hts (.fieldLink RX10 29 "ShapeReader" "shapes" "LShapeReader$Shapes;") mw_21_1) (fun _ h9 => h9) rfl dX10_record_77 ?_
            refine lv_iload hx hb dX10_record_80 (lv_at hl 0 rfl) ?_
            obtain ⟨q7, hc, h⟩ := ib h
            have hF := va_frees hD hS hA
            refine va_calli (va_runV (As := [.int ((p0 * 6) + p1)]) (rest := []) ⟨hx, hb, hml, hown, hts⟩ (s_X5_fieldsOf_4 hc) (cwV 1 hts (gV mw_24_1 mw_1_28 mw_1_29 mw_0_9 mw_49_29) rfl rfl rfl (by decide +kernel) ⟨(Nat.le_of_ble_eq_true rfl), (Nat.le_of_ble_eq_true rfl)⟩) (vV (ci := 5) (q0 := 4) hK hP hD hN rfl gA_4) rfl rfl hl.1 rfl (lv_room (Nat.le_of_ble_eq_true rfl)) dX10_record_82 ⟨(Nat.le_of_ble_eq_true rfl), (Nat.le_of_ble_eq_true rfl)⟩) hS (fun q _ h => hF q h) hF (fun r8 u t H locs ht hvm hw hB _ _ hS => ?_)
            obtain rfl : r8 = q7.1 := hw
            replace hP : va_P (dC, dI) vwCl (wA a k q7.2) H := by rw [← ht]; exact hB.1
            replace hD := hD0 (q7.2)
            clear hB hF
            obtain rfl := Option.some.inj h
            exact W.iret hx hb hr (fun t ht hW => ⟨⟨_, (), rfl, rfl, ⟨by rw [ht]; exact hP, va_K.moved hW.alike hK, hD⟩⟩, hS.F ht⟩) hS.2.2 dX10_record_85
          · replace h := ip s6 (iq (by rw [s6]; decide) h)
            refine lv_lookup (off := 37) (tgt := 86) hx hb dX10_record_49 (by decide) (by rw [s6]; decide) (by decide) ?_
            refine lv_aload_n hx hb dX10_record_86 rfl (lv_at hl 2 rfl) ?_
            refine va_get (D := (dC, dI)) (ci := 10) (C := RX10) (T := TX10) (N := 16) hx hb hts inlX10 hown hK hP 0 gA_0 rfl 3 (by decide) (hts (.fieldLink RX10 29 "ShapeReader" "shapes" "LShapeReader$Shapes;") mw_21_1) (fun _ h9 => h9) rfl dX10_record_87 ?_
            refine lv_iload hx hb dX10_record_90 (lv_at hl 0 rfl) ?_
            obtain ⟨q9, hc, h⟩ := ib h
            have hF := va_frees hD hS hA
            refine va_calll (va_runV (As := [.int ((p0 * 6) + p1)]) (rest := []) ⟨hx, hb, hml, hown, hts⟩ (s_X5_recordName_4 hc) (cwV 1 hts (gV mw_24_2 mw_1_25 mw_1_26 mw_0_9 mw_50_0) rfl rfl rfl (by decide +kernel) ⟨(Nat.le_of_ble_eq_true rfl), (Nat.le_of_ble_eq_true rfl)⟩) (vV (ci := 5) (q0 := 4) hK hP hD hN rfl gA_4) rfl rfl hl.1 rfl (lv_room (Nat.le_of_ble_eq_true rfl)) dX10_record_92 ⟨(Nat.le_of_ble_eq_true rfl), (Nat.le_of_ble_eq_true rfl)⟩) hS (fun q _ h => hF q h) hF (fun r10 u t H locs ht hvm hw hB _ _ hS => ?_)
            obtain rfl : r10 = q9.1 := hw
            replace hP : va_P (dC, dI) vwCl (wA a k q9.2) H := by rw [← ht]; exact hB.1
            replace hD := hD0 (q9.2)
            clear hB hF
            obtain ⟨q11, hc, h⟩ := ib h
            have hF := va_frees hD hS hA
            refine va_calli (va_runS (As := [.long q9.1]) (rest := []) ⟨hx, hb, hml, hown, hts⟩ (s_X10_lettersIn hc) (va_cwS 1 hts (gS mw_24_3 mw_6_26 mw_0_14 mw_53_21) rfl rfl rfl (by decide +kernel) ⟨(Nat.le_of_ble_eq_true rfl), (Nat.le_of_ble_eq_true rfl)⟩) (vS hK hP hD hN) rfl rfl hl.1 rfl (lv_room (Nat.le_of_ble_eq_true rfl)) dX10_record_95 ⟨(Nat.le_of_ble_eq_true rfl), (Nat.le_of_ble_eq_true rfl)⟩) hS (fun q _ h => hF q h) hF (fun r12 u t H locs ht hvm hw hB _ _ hS => ?_)
            obtain rfl : r12 = q11.1 := hw
            replace hP : va_P (dC, dI) vwCl (wA a k q11.2) H := by rw [← ht]; exact hB.1
            replace hD := hD0 (q11.2)
            clear hB hF
            obtain rfl := Option.some.inj h
            exact W.iret hx hb hr (fun t ht hW => ⟨⟨_, (), rfl, rfl, ⟨by rw [ht]; exact hP, va_K.moved hW.alike hK, hD⟩⟩, hS.F ht⟩) hS.2.2 dX10_record_98
          · replace h := (iq s6 (iq s5 h))
            refine lv_lookup (off := 50) (tgt := 99) hx hb dX10_record_49 (by decide) (by have a0 := il_ne s5; have e0 : (0 : Int32).toInt = 0 := (by decide); have a1 := il_ne s6; have e1 : (1 : Int32).toInt = 1 := (by decide); exact lk_dflt2 (by omega)) (by decide) ?_
            refine lv_iconst (v := (-1)) hx hb dX10_record_99 (by decide) ?_
            obtain rfl := Option.some.inj h
            exact W.iret hx hb hr (fun t ht hW => ⟨⟨_, (), rfl, rfl, ⟨by rw [ht]; exact hP, va_K.moved hW.alike hK, hD⟩⟩, hS.F ht⟩) hS.2.2 dX10_record_100
        · replace h := iq hc h
          refine lv_iconst (v := (-1)) hx hb dX10_record_38 (by decide) ?_
          obtain rfl := Option.some.inj h
          exact W.iret hx hb hr (fun t ht hW => ⟨⟨_, (), rfl, rfl, ⟨by rw [ht]; exact hP, va_K.moved hW.alike hK, hD⟩⟩, hS.F ht⟩) hS.2.2 dX10_record_39
    · replace h := ip hc h
      refine lv_iload hx hb dX10_record_25 (lv_at hl 0 rfl) ?_
      obtain rfl := Option.some.inj h
      exact W.iret hx hb hr (fun t ht hW => ⟨⟨_, (), rfl, rfl, ⟨by rw [ht]; exact hP, va_K.moved hW.alike hK, hD⟩⟩, hS.F ht⟩) hS.2.2 dX10_record_27
  · replace h := ip hc h
    refine lv_iconst (v := (-1)) hx hb dX10_record_8 (by decide) ?_
    obtain rfl := Option.some.inj h
    exact W.iret hx hb hr (fun t ht hW => ⟨⟨_, (), rfl, rfl, ⟨by rw [ht]; exact hP, va_K.moved hW.alike hK, hD⟩⟩, hS.F ht⟩) hS.2.2 dX10_record_9

theorem s_X10_record {l : Launch} {dC : Nat → ClassId} {dI : Nat → Nat → Nat} {a : Nat → Nat} {k : Nat → ClassId} {sz : Nat} {p0 : Int32} {p1 : Int32} {p2 : Int32} {σ : ST} {q : Int32 × ST} (h : f_X10_record  p0 p1 p2 σ = some q) : Met l yX10_record (.code yX10_record cX10_record 6 (some .int) :: pw) ({ frames := 2, cells := 0, slots := 0, locals := 44 } : Room) (va_Pc [.ref (a 0), .int p0, .int p1, .int p2] (vPre dC dI (wA a k σ) (tA k) sz)) (qAi dC dI a k (va_A (wA a k σ) sz) q) 0 0 (va_A (wA a k σ) sz) := metA (fun A => qAi dC dI a k A q) (plainFor_of_name (by decide)) (Nat.le_of_ble_eq_true rfl) (fun _ _ _ _ _ _ _ _ hC => b_X10_record_e hC h)

def f_X1_change (p0 : Int32) (p1 : Int32) (p2 : Int32) (σ : ST) : Option (Int32 × ST) := (f_X1_byteOf  p0 p1 σ).bind fun q1 => (f_X1_hasByte  p0 p1 q1.2).bind fun q3 => if q3.1 = 0 then (some (q1.1, q3.2)) else (if 0 ≤ ((p0 * 400) + p1).toInt ∧ ((p0 * 400) + p1).toInt < 1600 then ((some (stI q3.2 38 ((p0 * 400) + p1).toNatClampNeg (vp_nar .byte ((q1.1 ^^^ p2).toInt8.toInt32)))).bind fun z6 => some (q1.1, z6)) else none)

set_option maxRecDepth 100000 in
set_option maxHeartbeats 4000000 in
theorem b_X1_change_e {p : Program} {l : Launch} {e : Env} {s : State} {m : MethodId} {args : Array Value} {below : List Frame} {meth : Method} {c : Code} {dC : Nat → ClassId} {dI : Nat → Nat → Nat} {a : Nat → Nat} {k : Nat → ClassId} {A : Nat → Prop} {q : Int32 × ST} (hC : CxA p s m args meth c dC dI k A cX1_change RX1 (some .int) 5)   {p0 : Int32} {p1 : Int32} {p2 : Int32} {σ : ST} (h : f_X1_change  p0 p1 p2 σ = some q) : GoA p l e ({ frames := 3, cells := 0, slots := 0, locals := 64 } : Room) s m args below meth c (MQ below (qAi dC dI a k A q) args s 0 0 A) dC dI a k A 5 0 σ (lv_args 0 [.ref (a 37), .int p0, .int p1, .int p2]) [] := by
  have hC0 := hC
  obtain ⟨hx, hb, hr, hml, hown, hts, hlocks, hA, hN, hK⟩ := hC0
  intro H locs ls hP hD hS hl
  have hD0 : ∀ σ1 : ST, va_D A (wA a k σ1) := fun σ1 => wA_D hD
  replace hl : lv_has ls 5 [(0, .ref (a 37)), (1, .int p0), (2, .int p1), (3, .int p2)] := hl
  unfold f_X1_change at h
  refine lv_aload_n hx hb dX1_change_0 rfl (lv_at hl 0 rfl) ?_
  refine lv_iload_n hx hb dX1_change_1 rfl (lv_at hl 1 rfl) ?_
  refine lv_iload_n hx hb dX1_change_2 rfl (lv_at hl 2 rfl) ?_
  obtain ⟨q1, hc, h⟩ := ib h
  have hF := va_frees hD hS hA
  refine va_calli (va_runV (As := [.int p0, .int p1]) (rest := []) ⟨hx, hb, hml, hown, hts⟩ (s_X1_byteOf hc) (cwV 2 hts (gV mw_4_17 mw_4_18 mw_4_19 mw_0_5 mw_48_4) rfl rfl rfl (by decide +kernel) ⟨(Nat.le_of_ble_eq_true rfl), (Nat.le_of_ble_eq_true rfl)⟩) (vV (ci := 1) (q0 := 37) hK hP hD hN rfl gA_37) rfl rfl hl.1 rfl (lv_room (Nat.le_of_ble_eq_true rfl)) dX1_change_3 ⟨(Nat.le_of_ble_eq_true rfl), (Nat.le_of_ble_eq_true rfl)⟩) hS (fun q _ h => hF q h) hF (fun r2 u t H locs ht hvm hw hB _ _ hS => ?_)
  obtain rfl : r2 = q1.1 := hw
  replace hP : va_P (dC, dI) vwCl (wA a k q1.2) H := by rw [← ht]; exact hB.1
  replace hD := hD0 (q1.2)
  clear hB hF
  refine lv_istore (lv' := [(4, .int q1.1), (0, .ref (a 37)), (1, .int p0), (2, .int p1), (3, .int p2)]) hx hb dX1_change_6 hl (by decide) rfl (fun ls hl => ?_)
  refine lv_aload_n hx hb dX1_change_8 rfl (lv_at hl 1 rfl) ?_
  refine lv_iload_n hx hb dX1_change_9 rfl (lv_at hl 2 rfl) ?_
  refine lv_iload_n hx hb dX1_change_10 rfl (lv_at hl 3 rfl) ?_
  obtain ⟨q3, hc, h⟩ := ib h
  have hF := va_frees hD hS hA
  refine va_calli (va_runV (As := [.int p0, .int p1]) (rest := []) ⟨hx, hb, hml, hown, hts⟩ (s_X1_hasByte hc) (cwV 2 hts (gV mw_4_20 mw_4_21 mw_4_22 mw_0_5 mw_48_1) rfl rfl rfl (by decide +kernel) ⟨(Nat.le_of_ble_eq_true rfl), (Nat.le_of_ble_eq_true rfl)⟩) (vV (ci := 1) (q0 := 37) hK hP hD hN rfl gA_37) rfl rfl hl.1 rfl (lv_room (Nat.le_of_ble_eq_true rfl)) dX1_change_11 ⟨(Nat.le_of_ble_eq_true rfl), (Nat.le_of_ble_eq_true rfl)⟩) hS (fun q _ h => hF q h) hF (fun r4 u t H locs ht hvm hw hB _ _ hS => ?_)
  obtain rfl : r4 = q3.1 := hw
  replace hP : va_P (dC, dI) vwCl (wA a k q3.2) H := by rw [← ht]; exact hB.1
  replace hD := hD0 (q3.2)
  clear hB hF
  refine lv_if_eq (tgt := 34) hx hb dX1_change_14 (by decide) (fun hc => ?_) (fun hc => ?_)
  · replace h := ip hc h
    refine lv_iload hx hb dX1_change_34 (lv_at hl 0 rfl) ?_
    obtain rfl := Option.some.inj h
    exact W.iret hx hb hr (fun t ht hW => ⟨⟨_, (), rfl, rfl, ⟨by rw [ht]; exact hP, va_K.moved hW.alike hK, hD⟩⟩, hS.F ht⟩) hS.2.2 dX1_change_36
  · replace h := iq hc h
    refine lv_aload_n hx hb dX1_change_17 rfl (lv_at hl 1 rfl) ?_
    refine va_get (D := (dC, dI)) (ci := 1) (C := RX1) (T := TX1) (N := 3) hx hb hts inlX1 hown hK hP 37 gA_37 rfl 0 (by decide) (hts (.fieldLink RX1 9 "ShapeReader$Messages" "bytes" "[B") mw_4_7) (fun _ h9 => h9) rfl dX1_change_18 ?_
    refine lv_iload_n hx hb dX1_change_21 rfl (lv_at hl 2 rfl) ?_
    refine lv_sipush (v := 400) hx hb dX1_change_22 (by decide) ?_
    refine lv_imul hx hb dX1_change_25 ?_
    refine lv_iload_n hx hb dX1_change_26 rfl (lv_at hl 3 rfl) ?_
    refine lv_iadd hx hb dX1_change_27 ?_
    refine lv_iload hx hb dX1_change_28 (lv_at hl 0 rfl) ?_
    refine lv_iload_n hx hb dX1_change_30 rfl (lv_at hl 4 rfl) ?_
    refine lv_ixor hx hb dX1_change_31 ?_
    refine lv_i2b (v := (q1.1 ^^^ p2).toInt8.toInt32) hx hb dX1_change_32 rfl ?_
    obtain ⟨hg5, h⟩ := ig h
    refine va_bast hx hb hK hP hD hS 38 32 gA_38 yA_38 (vp_in_iff.mpr hg5) dX1_change_33 (fun H locs hP hD hS => ?_)
    replace hP := uA_38 hP
    replace hD := hD0 ((stI q3.2 38 ((p0 * 400) + p1).toNatClampNeg (vp_nar .byte ((q1.1 ^^^ p2).toInt8.toInt32))))
    obtain ⟨z6, hs, h⟩ := ib h
    replace hs := Option.some.inj hs
    replace hP : va_P (dC, dI) vwCl (wA a k z6) H := by rw [← hs]; exact hP
    replace hD := hD0 z6
    clear hs
    refine lv_iload hx hb dX1_change_34 (lv_at hl 0 rfl) ?_
    obtain rfl := Option.some.inj h
    exact W.iret hx hb hr (fun t ht hW => ⟨⟨_, (), rfl, rfl, ⟨by rw [ht]; exact hP, va_K.moved hW.alike hK, hD⟩⟩, hS.F ht⟩) hS.2.2 dX1_change_36

theorem s_X1_change {l : Launch} {dC : Nat → ClassId} {dI : Nat → Nat → Nat} {a : Nat → Nat} {k : Nat → ClassId} {sz : Nat} {p0 : Int32} {p1 : Int32} {p2 : Int32} {σ : ST} {q : Int32 × ST} (h : f_X1_change  p0 p1 p2 σ = some q) : Met l yX1_change (.code yX1_change cX1_change 5 (some .int) :: pw) ({ frames := 3, cells := 0, slots := 0, locals := 64 } : Room) (va_Pc [.ref (a 37), .int p0, .int p1, .int p2] (vPre dC dI (wA a k σ) (tA k) sz)) (qAi dC dI a k (va_A (wA a k σ) sz) q) 0 0 (va_A (wA a k σ) sz) := metA (fun A => qAi dC dI a k A q) (plainFor_of_name (by decide)) (Nat.le_of_ble_eq_true rfl) (fun _ _ _ _ _ _ _ _ hC => b_X1_change_e hC h)

def f_X10_spoil (p0 : Int32) (p1 : Int32) (p2 : Int32) (σ : ST) : Option (Int32 × ST) := (f_X1_hasByte  p0 p1 σ).bind fun q1 => if q1.1 = 0 then (some ((-1), q1.2)) else ((f_X1_change  p0 p1 p2 q1.2).bind fun q3 => some (q3.1, q3.2))

set_option maxRecDepth 100000 in
set_option maxHeartbeats 4000000 in
theorem b_X10_spoil_e {p : Program} {l : Launch} {e : Env} {s : State} {m : MethodId} {args : Array Value} {below : List Frame} {meth : Method} {c : Code} {dC : Nat → ClassId} {dI : Nat → Nat → Nat} {a : Nat → Nat} {k : Nat → ClassId} {A : Nat → Prop} {q : Int32 × ST} (hC : CxA p s m args meth c dC dI k A cX10_spoil RX10 (some .int) 4)   {p0 : Int32} {p1 : Int32} {p2 : Int32} {σ : ST} (h : f_X10_spoil  p0 p1 p2 σ = some q) : GoA p l e ({ frames := 4, cells := 0, slots := 0, locals := 88 } : Room) s m args below meth c (MQ below (qAi dC dI a k A q) args s 0 0 A) dC dI a k A 4 0 σ (lv_args 0 [.ref (a 0), .int p0, .int p1, .int p2]) [] := by
  have hC0 := hC
  obtain ⟨hx, hb, hr, hml, hown, hts, hlocks, hA, hN, hK⟩ := hC0
  intro H locs ls hP hD hS hl
  have hD0 : ∀ σ1 : ST, va_D A (wA a k σ1) := fun σ1 => wA_D hD
  replace hl : lv_has ls 4 [(0, .ref (a 0)), (1, .int p0), (2, .int p1), (3, .int p2)] := hl
  unfold f_X10_spoil at h
  refine lv_aload_n hx hb dX10_spoil_0 rfl (lv_at hl 0 rfl) ?_
  refine va_get (D := (dC, dI)) (ci := 10) (C := RX10) (T := TX10) (N := 16) hx hb hts inlX10 hown hK hP 0 gA_0 rfl 6 (by decide) (hts (.fieldLink RX10 48 "ShapeReader" "messages" "LShapeReader$Messages;") mw_21_12) (fun _ h9 => h9) rfl dX10_spoil_1 ?_
  refine lv_iload_n hx hb dX10_spoil_4 rfl (lv_at hl 1 rfl) ?_
  refine lv_iload_n hx hb dX10_spoil_5 rfl (lv_at hl 2 rfl) ?_
  obtain ⟨q1, hc, h⟩ := ib h
  have hF := va_frees hD hS hA
  refine va_calli (va_runV (As := [.int p0, .int p1]) (rest := []) ⟨hx, hb, hml, hown, hts⟩ (s_X1_hasByte hc) (cwV 2 hts (gV mw_24_16 mw_4_21 mw_4_22 mw_0_5 mw_48_1) rfl rfl rfl (by decide +kernel) ⟨(Nat.le_of_ble_eq_true rfl), (Nat.le_of_ble_eq_true rfl)⟩) (vV (ci := 1) (q0 := 37) hK hP hD hN rfl gA_37) rfl rfl hl.1 rfl (lv_room (Nat.le_of_ble_eq_true rfl)) dX10_spoil_6 ⟨(Nat.le_of_ble_eq_true rfl), (Nat.le_of_ble_eq_true rfl)⟩) hS (fun q _ h => hF q h) hF (fun r2 u t H locs ht hvm hw hB _ _ hS => ?_)
  obtain rfl : r2 = q1.1 := hw
  replace hP : va_P (dC, dI) vwCl (wA a k q1.2) H := by rw [← ht]; exact hB.1
  replace hD := hD0 (q1.2)
  clear hB hF
  refine lv_if_ne (tgt := 14) hx hb dX10_spoil_9 (by decide) (fun hc => ?_) (fun hc => ?_)
  · replace h := iq hc h
    refine lv_aload_n hx hb dX10_spoil_14 rfl (lv_at hl 0 rfl) ?_
    refine va_get (D := (dC, dI)) (ci := 10) (C := RX10) (T := TX10) (N := 16) hx hb hts inlX10 hown hK hP 0 gA_0 rfl 6 (by decide) (hts (.fieldLink RX10 48 "ShapeReader" "messages" "LShapeReader$Messages;") mw_21_12) (fun _ h9 => h9) rfl dX10_spoil_15 ?_
    refine lv_iload_n hx hb dX10_spoil_18 rfl (lv_at hl 1 rfl) ?_
    refine lv_iload_n hx hb dX10_spoil_19 rfl (lv_at hl 2 rfl) ?_
    refine lv_iload_n hx hb dX10_spoil_20 rfl (lv_at hl 3 rfl) ?_
    obtain ⟨q3, hc, h⟩ := ib h
    have hF := va_frees hD hS hA
    refine va_calli (va_runV (As := [.int p0, .int p1, .int p2]) (rest := []) ⟨hx, hb, hml, hown, hts⟩ (s_X1_change hc) (cwV 3 hts (gV mw_24_20 mw_24_21 mw_24_22 mw_0_5 mw_48_5) rfl rfl rfl (by decide +kernel) ⟨(Nat.le_of_ble_eq_true rfl), (Nat.le_of_ble_eq_true rfl)⟩) (vV (ci := 1) (q0 := 37) hK hP hD hN rfl gA_37) rfl rfl hl.1 rfl (lv_room (Nat.le_of_ble_eq_true rfl)) dX10_spoil_21 ⟨(Nat.le_of_ble_eq_true rfl), (Nat.le_of_ble_eq_true rfl)⟩) hS (fun q _ h => hF q h) hF (fun r4 u t H locs ht hvm hw hB _ _ hS => ?_)
    obtain rfl : r4 = q3.1 := hw
    replace hP : va_P (dC, dI) vwCl (wA a k q3.2) H := by rw [← ht]; exact hB.1
    replace hD := hD0 (q3.2)
    clear hB hF
    obtain rfl := Option.some.inj h
    exact W.iret hx hb hr (fun t ht hW => ⟨⟨_, (), rfl, rfl, ⟨by rw [ht]; exact hP, va_K.moved hW.alike hK, hD⟩⟩, hS.F ht⟩) hS.2.2 dX10_spoil_24
  · replace h := ip hc h
    refine lv_iconst (v := (-1)) hx hb dX10_spoil_12 (by decide) ?_
    obtain rfl := Option.some.inj h
    exact W.iret hx hb hr (fun t ht hW => ⟨⟨_, (), rfl, rfl, ⟨by rw [ht]; exact hP, va_K.moved hW.alike hK, hD⟩⟩, hS.F ht⟩) hS.2.2 dX10_spoil_13

theorem s_X10_spoil {l : Launch} {dC : Nat → ClassId} {dI : Nat → Nat → Nat} {a : Nat → Nat} {k : Nat → ClassId} {sz : Nat} {p0 : Int32} {p1 : Int32} {p2 : Int32} {σ : ST} {q : Int32 × ST} (h : f_X10_spoil  p0 p1 p2 σ = some q) : Met l yX10_spoil (.code yX10_spoil cX10_spoil 4 (some .int) :: pw) ({ frames := 4, cells := 0, slots := 0, locals := 88 } : Room) (va_Pc [.ref (a 0), .int p0, .int p1, .int p2] (vPre dC dI (wA a k σ) (tA k) sz)) (qAi dC dI a k (va_A (wA a k σ) sz) q) 0 0 (va_A (wA a k σ) sz) := metA (fun A => qAi dC dI a k A q) (plainFor_of_name (by decide)) (Nat.le_of_ble_eq_true rfl) (fun _ _ _ _ _ _ _ _ hC => b_X10_spoil_e hC h)

def f_X8_fittingType_48  : Nat → Int32 → Int32 → ST → Option (Int32 × ST)
  | 0, _, _, _ => none
  | n + 1, x2, x3, σ => if 4 ≤ x3 then (some ((-1), σ)) else (if x2 = (-1) then (some ((-1), σ)) else ((f_X5_sortOf 4 x2 σ).bind fun q1 => (f_X6_fits  q1.1 q1.2).bind fun q3 => if q3.1 = 0 then ((f_X5_branchAfter 4 x2 q3.2).bind fun q5 => f_X8_fittingType_48  n q5.1 (x3 + 1) q5.2) else (some (x2, q3.2))))
def f_X8_fittingType (p0 : Int32) (σ : ST) : Option (Int32 × ST) := (f_X5_sortOf 4 p0 σ).bind fun q1 => if q1.1 = 8 then ((f_X5_innerOf 4 p0 q1.2).bind fun q3 => f_X8_fittingType_48  FU q3.1 0 q3.2) else ((f_X5_sortOf 4 p0 q1.2).bind fun q5 => (f_X6_fits  q5.1 q5.2).bind fun q7 => if q7.1 = 0 then (some ((-1), q7.2)) else (some (p0, q7.2)))

set_option maxRecDepth 100000 in
set_option maxHeartbeats 4000000 in
theorem b_X8_fittingType_48 {p : Program} {l : Launch} {e : Env} {s : State} {m : MethodId} {args : Array Value} {below : List Frame} {meth : Method} {c : Code} {dC : Nat → ClassId} {dI : Nat → Nat → Nat} {a : Nat → Nat} {k : Nat → ClassId} {A : Nat → Prop} {q : Int32 × ST} (hC : CxA p s m args meth c dC dI k A cX8_fittingType RX8 (some .int) 4)   : ∀ (n : Nat) (x2 : Int32) (x3 : Int32) (σ : ST), f_X8_fittingType_48  n x2 x3 σ = some q → GoA p l e ({ frames := 2, cells := 0, slots := 0, locals := 42 } : Room) s m args below meth c (MQ below (qAi dC dI a k A q) args s 0 0 A) dC dI a k A 4 48 σ [(0, .ref (a 86)), (2, .int x2), (3, .int x3)] [] := by
  intro n
  induction n with
  | zero =>
    intro x2 x3 σ h
    rw [f_X8_fittingType_48] at h
    cases h
  | succ n ih =>
    intro x2 x3 σ h
    have hC0 := hC
    obtain ⟨hx, hb, hr, hml, hown, hts, hlocks, hA, hN, hK⟩ := hC0
    intro H locs ls hP hD hS hl
    have hD0 : ∀ σ1 : ST, va_D A (wA a k σ1) := fun σ1 => wA_D hD
    rw [f_X8_fittingType_48] at h
    refine lv_iload_n hx hb dX8_fittingType_48 rfl (lv_at hl 2 rfl) ?_
    refine lv_iconst (v := 4) hx hb dX8_fittingType_49 (by decide) ?_
    refine lv_icmp_ge (tgt := 93) hx hb dX8_fittingType_50 (by decide) (fun hc => ?_) (fun hc => ?_)
    · replace h := ip hc h
      refine lv_iconst (v := (-1)) hx hb dX8_fittingType_93 (by decide) ?_
      obtain rfl := Option.some.inj h
      exact W.iret hx hb hr (fun t ht hW => ⟨⟨_, (), rfl, rfl, ⟨by rw [ht]; exact hP, va_K.moved hW.alike hK, hD⟩⟩, hS.F ht⟩) hS.2.2 dX8_fittingType_94
    · replace h := iq hc h
      refine lv_iload_n hx hb dX8_fittingType_53 rfl (lv_at hl 1 rfl) ?_
      refine lv_iconst (v := (-1)) hx hb dX8_fittingType_54 (by decide) ?_
      refine lv_icmp_eq (tgt := 93) hx hb dX8_fittingType_55 (by decide) (fun hc => ?_) (fun hc => ?_)
      · replace h := ip hc h
        refine lv_iconst (v := (-1)) hx hb dX8_fittingType_93 (by decide) ?_
        obtain rfl := Option.some.inj h
        exact W.iret hx hb hr (fun t ht hW => ⟨⟨_, (), rfl, rfl, ⟨by rw [ht]; exact hP, va_K.moved hW.alike hK, hD⟩⟩, hS.F ht⟩) hS.2.2 dX8_fittingType_94
      · replace h := iq hc h
        refine lv_aload_n hx hb dX8_fittingType_58 rfl (lv_at hl 0 rfl) ?_
        refine va_get (D := (dC, dI)) (ci := 8) (C := RX8) (T := TX8) (N := 3) hx hb hts inlX8 hown hK hP 86 gA_86 rfl 0 (by decide) (hts (.fieldLink RX8 9 "ShapeReader$ValueText" "tokens" "LShapeReader$Tokens;") mw_19_5) (fun _ h9 => h9) rfl dX8_fittingType_59 ?_
        refine lv_aload_n hx hb dX8_fittingType_62 rfl (lv_at hl 0 rfl) ?_
        refine va_get (D := (dC, dI)) (ci := 8) (C := RX8) (T := TX8) (N := 3) hx hb hts inlX8 hown hK hP 86 gA_86 rfl 1 (by decide) (hts (.fieldLink RX8 15 "ShapeReader$ValueText" "shapes" "LShapeReader$Shapes;") mw_19_6) (fun _ h9 => h9) rfl dX8_fittingType_63 ?_
        refine lv_iload_n hx hb dX8_fittingType_66 rfl (lv_at hl 1 rfl) ?_
        obtain ⟨q1, hc, h⟩ := ib h
        have hF := va_frees hD hS hA
        refine va_calli (va_runV (As := [.int x2]) (rest := [.ref (a 2)]) ⟨hx, hb, hml, hown, hts⟩ (s_X5_sortOf_4 hc) (cwV 1 hts (gV mw_19_18 mw_2_13 mw_2_14 mw_0_9 mw_50_6) rfl rfl rfl (by decide +kernel) ⟨(Nat.le_of_ble_eq_true rfl), (Nat.le_of_ble_eq_true rfl)⟩) (vV (ci := 5) (q0 := 4) hK hP hD hN rfl gA_4) rfl rfl hl.1 rfl (lv_room (Nat.le_of_ble_eq_true rfl)) dX8_fittingType_67 ⟨(Nat.le_of_ble_eq_true rfl), (Nat.le_of_ble_eq_true rfl)⟩) hS (fun q _ h => hF q h) hF (fun r2 u t H locs ht hvm hw hB _ _ hS => ?_)
        obtain rfl : r2 = q1.1 := hw
        replace hP : va_P (dC, dI) vwCl (wA a k q1.2) H := by rw [← ht]; exact hB.1
        replace hD := hD0 (q1.2)
        clear hB hF
        obtain ⟨q3, hc, h⟩ := ib h
        have hF := va_frees hD hS hA
        refine va_calli (va_runV (As := [.int q1.1]) (rest := []) ⟨hx, hb, hml, hown, hts⟩ (s_X6_fits hc) (cwV 1 hts (gV mw_20_0 mw_10_11 mw_10_12 mw_0_10 mw_51_18) rfl rfl rfl (by decide +kernel) ⟨(Nat.le_of_ble_eq_true rfl), (Nat.le_of_ble_eq_true rfl)⟩) (vV (ci := 6) (q0 := 2) hK hP hD hN rfl gA_2) rfl rfl hl.1 rfl (lv_room (Nat.le_of_ble_eq_true rfl)) dX8_fittingType_70 ⟨(Nat.le_of_ble_eq_true rfl), (Nat.le_of_ble_eq_true rfl)⟩) hS (fun q _ h => hF q h) hF (fun r4 u t H locs ht hvm hw hB _ _ hS => ?_)
        obtain rfl : r4 = q3.1 := hw
        replace hP : va_P (dC, dI) vwCl (wA a k q3.2) H := by rw [← ht]; exact hB.1
        replace hD := hD0 (q3.2)
        clear hB hF
        refine lv_if_eq (tgt := 78) hx hb dX8_fittingType_73 (by decide) (fun hc => ?_) (fun hc => ?_)
        · replace h := ip hc h
          refine lv_aload_n hx hb dX8_fittingType_78 rfl (lv_at hl 0 rfl) ?_
          refine va_get (D := (dC, dI)) (ci := 8) (C := RX8) (T := TX8) (N := 3) hx hb hts inlX8 hown hK hP 86 gA_86 rfl 1 (by decide) (hts (.fieldLink RX8 15 "ShapeReader$ValueText" "shapes" "LShapeReader$Shapes;") mw_19_6) (fun _ h9 => h9) rfl dX8_fittingType_79 ?_
          refine lv_iload_n hx hb dX8_fittingType_82 rfl (lv_at hl 1 rfl) ?_
          obtain ⟨q5, hc, h⟩ := ib h
          have hF := va_frees hD hS hA
          refine va_calli (va_runV (As := [.int x2]) (rest := []) ⟨hx, hb, hml, hown, hts⟩ (s_X5_branchAfter_4 hc) (cwV 1 hts (gV mw_20_1 mw_2_19 mw_2_20 mw_0_9 mw_50_8) rfl rfl rfl (by decide +kernel) ⟨(Nat.le_of_ble_eq_true rfl), (Nat.le_of_ble_eq_true rfl)⟩) (vV (ci := 5) (q0 := 4) hK hP hD hN rfl gA_4) rfl rfl hl.1 rfl (lv_room (Nat.le_of_ble_eq_true rfl)) dX8_fittingType_83 ⟨(Nat.le_of_ble_eq_true rfl), (Nat.le_of_ble_eq_true rfl)⟩) hS (fun q _ h => hF q h) hF (fun r6 u t H locs ht hvm hw hB _ _ hS => ?_)
          obtain rfl : r6 = q5.1 := hw
          replace hP : va_P (dC, dI) vwCl (wA a k q5.2) H := by rw [← ht]; exact hB.1
          replace hD := hD0 (q5.2)
          clear hB hF
          refine lv_istore_n (lv' := [(2, .int q5.1), (0, .ref (a 86)), (3, .int x3)]) hx hb dX8_fittingType_86 rfl hl (by decide) rfl (fun ls hl => ?_)
          refine lv_iinc (v := (x3 + 1)) (lv' := [(3, .int (x3 + 1)), (2, .int q5.1), (0, .ref (a 86))]) hx hb dX8_fittingType_87 hl (k := 2) rfl rfl (by decide) rfl (fun ls hl => ?_)
          refine lv_goto (tgt := 48) hx hb dX8_fittingType_90 (by decide) ?_
          exact ih _ _ _ h _ _ _ hP hD hS (lv_sub hl [2, 1, 0] rfl)
        · replace h := iq hc h
          refine lv_iload_n hx hb dX8_fittingType_76 rfl (lv_at hl 1 rfl) ?_
          obtain rfl := Option.some.inj h
          exact W.iret hx hb hr (fun t ht hW => ⟨⟨_, (), rfl, rfl, ⟨by rw [ht]; exact hP, va_K.moved hW.alike hK, hD⟩⟩, hS.F ht⟩) hS.2.2 dX8_fittingType_77

set_option maxRecDepth 100000 in
set_option maxHeartbeats 4000000 in
theorem b_X8_fittingType_e {p : Program} {l : Launch} {e : Env} {s : State} {m : MethodId} {args : Array Value} {below : List Frame} {meth : Method} {c : Code} {dC : Nat → ClassId} {dI : Nat → Nat → Nat} {a : Nat → Nat} {k : Nat → ClassId} {A : Nat → Prop} {q : Int32 × ST} (hC : CxA p s m args meth c dC dI k A cX8_fittingType RX8 (some .int) 4)   {p0 : Int32} {σ : ST} (h : f_X8_fittingType  p0 σ = some q) : GoA p l e ({ frames := 2, cells := 0, slots := 0, locals := 42 } : Room) s m args below meth c (MQ below (qAi dC dI a k A q) args s 0 0 A) dC dI a k A 4 0 σ (lv_args 0 [.ref (a 86), .int p0]) [] := by
  have hC0 := hC
  obtain ⟨hx, hb, hr, hml, hown, hts, hlocks, hA, hN, hK⟩ := hC0
  intro H locs ls hP hD hS hl
  have hD0 : ∀ σ1 : ST, va_D A (wA a k σ1) := fun σ1 => wA_D hD
  replace hl : lv_has ls 4 [(0, .ref (a 86)), (1, .int p0)] := hl
  unfold f_X8_fittingType at h
  refine lv_aload_n hx hb dX8_fittingType_0 rfl (lv_at hl 0 rfl) ?_
  refine va_get (D := (dC, dI)) (ci := 8) (C := RX8) (T := TX8) (N := 3) hx hb hts inlX8 hown hK hP 86 gA_86 rfl 1 (by decide) (hts (.fieldLink RX8 15 "ShapeReader$ValueText" "shapes" "LShapeReader$Shapes;") mw_19_6) (fun _ h9 => h9) rfl dX8_fittingType_1 ?_
  refine lv_iload_n hx hb dX8_fittingType_4 rfl (lv_at hl 1 rfl) ?_
  obtain ⟨q1, hc, h⟩ := ib h
  have hF := va_frees hD hS hA
  refine va_calli (va_runV (As := [.int p0]) (rest := []) ⟨hx, hb, hml, hown, hts⟩ (s_X5_sortOf_4 hc) (cwV 1 hts (gV mw_19_18 mw_2_13 mw_2_14 mw_0_9 mw_50_6) rfl rfl rfl (by decide +kernel) ⟨(Nat.le_of_ble_eq_true rfl), (Nat.le_of_ble_eq_true rfl)⟩) (vV (ci := 5) (q0 := 4) hK hP hD hN rfl gA_4) rfl rfl hl.1 rfl (lv_room (Nat.le_of_ble_eq_true rfl)) dX8_fittingType_5 ⟨(Nat.le_of_ble_eq_true rfl), (Nat.le_of_ble_eq_true rfl)⟩) hS (fun q _ h => hF q h) hF (fun r2 u t H locs ht hvm hw hB _ _ hS => ?_)
  obtain rfl : r2 = q1.1 := hw
  replace hP : va_P (dC, dI) vwCl (wA a k q1.2) H := by rw [← ht]; exact hB.1
  replace hD := hD0 (q1.2)
  clear hB hF
  refine lv_bipush (v := 8) hx hb dX8_fittingType_8 (by decide) ?_
  refine lv_icmp_eq (tgt := 37) hx hb dX8_fittingType_10 (by decide) (fun hc => ?_) (fun hc => ?_)
  · replace h := ip hc h
    refine lv_aload_n hx hb dX8_fittingType_37 rfl (lv_at hl 0 rfl) ?_
    refine va_get (D := (dC, dI)) (ci := 8) (C := RX8) (T := TX8) (N := 3) hx hb hts inlX8 hown hK hP 86 gA_86 rfl 1 (by decide) (hts (.fieldLink RX8 15 "ShapeReader$ValueText" "shapes" "LShapeReader$Shapes;") mw_19_6) (fun _ h9 => h9) rfl dX8_fittingType_38 ?_
    refine lv_iload_n hx hb dX8_fittingType_41 rfl (lv_at hl 1 rfl) ?_
    obtain ⟨q3, hc, h⟩ := ib h
    have hF := va_frees hD hS hA
    refine va_calli (va_runV (As := [.int p0]) (rest := []) ⟨hx, hb, hml, hown, hts⟩ (s_X5_innerOf_4 hc) (cwV 1 hts (gV mw_19_23 mw_2_16 mw_2_17 mw_0_9 mw_50_7) rfl rfl rfl (by decide +kernel) ⟨(Nat.le_of_ble_eq_true rfl), (Nat.le_of_ble_eq_true rfl)⟩) (vV (ci := 5) (q0 := 4) hK hP hD hN rfl gA_4) rfl rfl hl.1 rfl (lv_room (Nat.le_of_ble_eq_true rfl)) dX8_fittingType_42 ⟨(Nat.le_of_ble_eq_true rfl), (Nat.le_of_ble_eq_true rfl)⟩) hS (fun q _ h => hF q h) hF (fun r4 u t H locs ht hvm hw hB _ _ hS => ?_)
    obtain rfl : r4 = q3.1 := hw
    replace hP : va_P (dC, dI) vwCl (wA a k q3.2) H := by rw [← ht]; exact hB.1
    replace hD := hD0 (q3.2)
    clear hB hF
    refine lv_istore_n (lv' := [(2, .int q3.1), (0, .ref (a 86)), (1, .int p0)]) hx hb dX8_fittingType_45 rfl hl (by decide) rfl (fun ls hl => ?_)
    refine lv_iconst (v := 0) hx hb dX8_fittingType_46 (by decide) ?_
    refine lv_istore_n (lv' := [(3, .int 0), (2, .int q3.1), (0, .ref (a 86)), (1, .int p0)]) hx hb dX8_fittingType_47 rfl hl (by decide) rfl (fun ls hl => ?_)
    exact b_X8_fittingType_48 hC FU _ _ _ h _ _ _ hP hD hS (lv_sub hl [2, 1, 0] rfl)
  · replace h := iq hc h
    refine lv_aload_n hx hb dX8_fittingType_13 rfl (lv_at hl 0 rfl) ?_
    refine va_get (D := (dC, dI)) (ci := 8) (C := RX8) (T := TX8) (N := 3) hx hb hts inlX8 hown hK hP 86 gA_86 rfl 0 (by decide) (hts (.fieldLink RX8 9 "ShapeReader$ValueText" "tokens" "LShapeReader$Tokens;") mw_19_5) (fun _ h9 => h9) rfl dX8_fittingType_14 ?_
    refine lv_aload_n hx hb dX8_fittingType_17 rfl (lv_at hl 0 rfl) ?_
    refine va_get (D := (dC, dI)) (ci := 8) (C := RX8) (T := TX8) (N := 3) hx hb hts inlX8 hown hK hP 86 gA_86 rfl 1 (by decide) (hts (.fieldLink RX8 15 "ShapeReader$ValueText" "shapes" "LShapeReader$Shapes;") mw_19_6) (fun _ h9 => h9) rfl dX8_fittingType_18 ?_
    refine lv_iload_n hx hb dX8_fittingType_21 rfl (lv_at hl 1 rfl) ?_
    obtain ⟨q5, hc, h⟩ := ib h
    have hF := va_frees hD hS hA
    refine va_calli (va_runV (As := [.int p0]) (rest := [.ref (a 2)]) ⟨hx, hb, hml, hown, hts⟩ (s_X5_sortOf_4 hc) (cwV 1 hts (gV mw_19_18 mw_2_13 mw_2_14 mw_0_9 mw_50_6) rfl rfl rfl (by decide +kernel) ⟨(Nat.le_of_ble_eq_true rfl), (Nat.le_of_ble_eq_true rfl)⟩) (vV (ci := 5) (q0 := 4) hK hP hD hN rfl gA_4) rfl rfl hl.1 rfl (lv_room (Nat.le_of_ble_eq_true rfl)) dX8_fittingType_22 ⟨(Nat.le_of_ble_eq_true rfl), (Nat.le_of_ble_eq_true rfl)⟩) hS (fun q _ h => hF q h) hF (fun r6 u t H locs ht hvm hw hB _ _ hS => ?_)
    obtain rfl : r6 = q5.1 := hw
    replace hP : va_P (dC, dI) vwCl (wA a k q5.2) H := by rw [← ht]; exact hB.1
    replace hD := hD0 (q5.2)
    clear hB hF
    obtain ⟨q7, hc, h⟩ := ib h
    have hF := va_frees hD hS hA
    refine va_calli (va_runV (As := [.int q5.1]) (rest := []) ⟨hx, hb, hml, hown, hts⟩ (s_X6_fits hc) (cwV 1 hts (gV mw_20_0 mw_10_11 mw_10_12 mw_0_10 mw_51_18) rfl rfl rfl (by decide +kernel) ⟨(Nat.le_of_ble_eq_true rfl), (Nat.le_of_ble_eq_true rfl)⟩) (vV (ci := 6) (q0 := 2) hK hP hD hN rfl gA_2) rfl rfl hl.1 rfl (lv_room (Nat.le_of_ble_eq_true rfl)) dX8_fittingType_25 ⟨(Nat.le_of_ble_eq_true rfl), (Nat.le_of_ble_eq_true rfl)⟩) hS (fun q _ h => hF q h) hF (fun r8 u t H locs ht hvm hw hB _ _ hS => ?_)
    obtain rfl : r8 = q7.1 := hw
    replace hP : va_P (dC, dI) vwCl (wA a k q7.2) H := by rw [← ht]; exact hB.1
    replace hD := hD0 (q7.2)
    clear hB hF
    refine lv_if_eq (tgt := 35) hx hb dX8_fittingType_28 (by decide) (fun hc => ?_) (fun hc => ?_)
    · replace h := ip hc h
      refine lv_iconst (v := (-1)) hx hb dX8_fittingType_35 (by decide) ?_
      obtain rfl := Option.some.inj h
      exact W.iret hx hb hr (fun t ht hW => ⟨⟨_, (), rfl, rfl, ⟨by rw [ht]; exact hP, va_K.moved hW.alike hK, hD⟩⟩, hS.F ht⟩) hS.2.2 dX8_fittingType_36
    · replace h := iq hc h
      refine lv_iload_n hx hb dX8_fittingType_31 rfl (lv_at hl 1 rfl) ?_
      refine lv_goto (tgt := 36) hx hb dX8_fittingType_32 (by decide) ?_
      obtain rfl := Option.some.inj h
      exact W.iret hx hb hr (fun t ht hW => ⟨⟨_, (), rfl, rfl, ⟨by rw [ht]; exact hP, va_K.moved hW.alike hK, hD⟩⟩, hS.F ht⟩) hS.2.2 dX8_fittingType_36

theorem s_X8_fittingType {l : Launch} {dC : Nat → ClassId} {dI : Nat → Nat → Nat} {a : Nat → Nat} {k : Nat → ClassId} {sz : Nat} {p0 : Int32} {σ : ST} {q : Int32 × ST} (h : f_X8_fittingType  p0 σ = some q) : Met l yX8_fittingType (.code yX8_fittingType cX8_fittingType 4 (some .int) :: pw) ({ frames := 2, cells := 0, slots := 0, locals := 42 } : Room) (va_Pc [.ref (a 86), .int p0] (vPre dC dI (wA a k σ) (tA k) sz)) (qAi dC dI a k (va_A (wA a k σ) sz) q) 0 0 (va_A (wA a k σ) sz) := metA (fun A => qAi dC dI a k A q) (plainFor_of_name (by decide)) (Nat.le_of_ble_eq_true rfl) (fun _ _ _ _ _ _ _ _ hC => b_X8_fittingType_e hC h)

def f_X8_closeRecord_44 (k2 : Int32 → Int32 → Int32 → ST → Option (Int32 × ST)) (x1 : Int32) (x2 : Int32) (x3 : Int32) (σ : ST) : Option (Int32 × ST) := k2 x1 x2 (x3 + 1) σ
def f_X8_closeRecord_2  : Nat → Int32 → Int32 → Int32 → ST → Option (Int32 × ST)
  | 0, _, _, _, _ => none
  | n + 1, x1, x2, x3, σ => (f_X5_fieldsOf 4 x1 σ).bind fun q1 => if q1.1 ≤ x3 then ((f_X6_advance   q1.2).bind fun q3 => some (1, q3)) else (if ((x2 >>> (x3 &&& 31)) &&& 1) = 0 then ((f_X5_hasElse 4 x1 x3 q1.2).bind fun q5 => if q5.1 = 0 then ((f_X6_refuse  6 q5.2).bind fun q7 => if q7.1 = 0 ∨ q7.1 = 1 then some (q7.1, q7.2) else none) else (f_X8_closeRecord_44 (f_X8_closeRecord_2  n) x1 x2 x3 q5.2)) else (f_X8_closeRecord_44 (f_X8_closeRecord_2  n) x1 x2 x3 q1.2))
def f_X8_closeRecord (p0 : Int32) (p1 : Int32) (σ : ST) : Option (Int32 × ST) := f_X8_closeRecord_2  FU p0 p1 0 σ

set_option maxRecDepth 100000 in
set_option maxHeartbeats 4000000 in
theorem b_X8_closeRecord_44 {p : Program} {l : Launch} {e : Env} {s : State} {m : MethodId} {args : Array Value} {below : List Frame} {meth : Method} {c : Code} {dC : Nat → ClassId} {dI : Nat → Nat → Nat} {a : Nat → Nat} {k : Nat → ClassId} {A : Nat → Prop} {q : Int32 × ST} (hC : CxA p s m args meth c dC dI k A cX8_closeRecord RX8 (some .boolean) 4)  {k2 : Int32 → Int32 → Int32 → ST → Option (Int32 × ST)} (hk2 : ∀ (x1 : Int32) (x2 : Int32) (x3 : Int32) (σ : ST), k2 x1 x2 x3 σ = some q → GoA p l e ({ frames := 3, cells := 0, slots := 0, locals := 68 } : Room) s m args below meth c (MQ below (qAi dC dI a k A q) args s 0 0 A) dC dI a k A 4 2 σ [(0, .ref (a 86)), (1, .int x1), (2, .int x2), (3, .int x3)] []) {x1 : Int32} {x2 : Int32} {x3 : Int32} {σ : ST} (h : f_X8_closeRecord_44 k2 x1 x2 x3 σ = some q) : GoA p l e ({ frames := 3, cells := 0, slots := 0, locals := 68 } : Room) s m args below meth c (MQ below (qAi dC dI a k A q) args s 0 0 A) dC dI a k A 4 44 σ [(0, .ref (a 86)), (1, .int x1), (2, .int x2), (3, .int x3)] [] := by
  have hC0 := hC
  obtain ⟨hx, hb, hr, hml, hown, hts, hlocks, hA, hN, hK⟩ := hC0
  intro H locs ls hP hD hS hl
  have hD0 : ∀ σ1 : ST, va_D A (wA a k σ1) := fun σ1 => wA_D hD
  unfold f_X8_closeRecord_44 at h
  refine lv_iinc (v := (x3 + 1)) (lv' := [(3, .int (x3 + 1)), (0, .ref (a 86)), (1, .int x1), (2, .int x2)]) hx hb dX8_closeRecord_44 hl (k := 3) rfl rfl (by decide) rfl (fun ls hl => ?_)
  refine lv_goto (tgt := 2) hx hb dX8_closeRecord_47 (by decide) ?_
  exact hk2 _ _ _ _ h _ _ _ hP hD hS (lv_sub hl [1, 2, 3, 0] rfl)

set_option maxRecDepth 100000 in
set_option maxHeartbeats 4000000 in
theorem b_X8_closeRecord_2 {p : Program} {l : Launch} {e : Env} {s : State} {m : MethodId} {args : Array Value} {below : List Frame} {meth : Method} {c : Code} {dC : Nat → ClassId} {dI : Nat → Nat → Nat} {a : Nat → Nat} {k : Nat → ClassId} {A : Nat → Prop} {q : Int32 × ST} (hC : CxA p s m args meth c dC dI k A cX8_closeRecord RX8 (some .boolean) 4)   : ∀ (n : Nat) (x1 : Int32) (x2 : Int32) (x3 : Int32) (σ : ST), f_X8_closeRecord_2  n x1 x2 x3 σ = some q → GoA p l e ({ frames := 3, cells := 0, slots := 0, locals := 68 } : Room) s m args below meth c (MQ below (qAi dC dI a k A q) args s 0 0 A) dC dI a k A 4 2 σ [(0, .ref (a 86)), (1, .int x1), (2, .int x2), (3, .int x3)] [] := by
  intro n
  induction n with
  | zero =>
    intro x1 x2 x3 σ h
    rw [f_X8_closeRecord_2] at h
    cases h
  | succ n ih =>
    intro x1 x2 x3 σ h
    have hC0 := hC
    obtain ⟨hx, hb, hr, hml, hown, hts, hlocks, hA, hN, hK⟩ := hC0
    intro H locs ls hP hD hS hl
    have hD0 : ∀ σ1 : ST, va_D A (wA a k σ1) := fun σ1 => wA_D hD
    rw [f_X8_closeRecord_2] at h
    refine lv_iload_n hx hb dX8_closeRecord_2 rfl (lv_at hl 3 rfl) ?_
    refine lv_aload_n hx hb dX8_closeRecord_3 rfl (lv_at hl 0 rfl) ?_
    refine va_get (D := (dC, dI)) (ci := 8) (C := RX8) (T := TX8) (N := 3) hx hb hts inlX8 hown hK hP 86 gA_86 rfl 1 (by decide) (hts (.fieldLink RX8 15 "ShapeReader$ValueText" "shapes" "LShapeReader$Shapes;") mw_19_6) (fun _ h9 => h9) rfl dX8_closeRecord_4 ?_
    refine lv_iload_n hx hb dX8_closeRecord_7 rfl (lv_at hl 1 rfl) ?_
    obtain ⟨q1, hc, h⟩ := ib h
    have hF := va_frees hD hS hA
    refine va_calli (va_runV (As := [.int x1]) (rest := [.int x3]) ⟨hx, hb, hml, hown, hts⟩ (s_X5_fieldsOf_4 hc) (cwV 1 hts (gV mw_20_8 mw_1_28 mw_1_29 mw_0_9 mw_49_29) rfl rfl rfl (by decide +kernel) ⟨(Nat.le_of_ble_eq_true rfl), (Nat.le_of_ble_eq_true rfl)⟩) (vV (ci := 5) (q0 := 4) hK hP hD hN rfl gA_4) rfl rfl hl.1 rfl (lv_room (Nat.le_of_ble_eq_true rfl)) dX8_closeRecord_8 ⟨(Nat.le_of_ble_eq_true rfl), (Nat.le_of_ble_eq_true rfl)⟩) hS (fun q _ h => hF q h) hF (fun r2 u t H locs ht hvm hw hB _ _ hS => ?_)
    obtain rfl : r2 = q1.1 := hw
    replace hP : va_P (dC, dI) vwCl (wA a k q1.2) H := by rw [← ht]; exact hB.1
    replace hD := hD0 (q1.2)
    clear hB hF
    refine lv_icmp_ge (tgt := 50) hx hb dX8_closeRecord_11 (by decide) (fun hc => ?_) (fun hc => ?_)
    · replace h := ip hc h
      refine lv_aload_n hx hb dX8_closeRecord_50 rfl (lv_at hl 0 rfl) ?_
      refine va_get (D := (dC, dI)) (ci := 8) (C := RX8) (T := TX8) (N := 3) hx hb hts inlX8 hown hK hP 86 gA_86 rfl 0 (by decide) (hts (.fieldLink RX8 9 "ShapeReader$ValueText" "tokens" "LShapeReader$Tokens;") mw_19_5) (fun _ h9 => h9) rfl dX8_closeRecord_51 ?_
      obtain ⟨q3, hc, h⟩ := ib h
      have hF := va_frees hD hS hA
      refine va_callv (va_runV (As := []) (rest := []) ⟨hx, hb, hml, hown, hts⟩ (s_X6_advance hc) (cwV 0 hts (gV mw_19_22 mw_8_6 mw_8_7 mw_0_10 mw_51_8) rfl rfl rfl (by decide +kernel) ⟨(Nat.le_of_ble_eq_true rfl), (Nat.le_of_ble_eq_true rfl)⟩) (vV (ci := 6) (q0 := 2) hK hP hD hN rfl gA_2) rfl rfl hl.1 rfl (lv_room (Nat.le_of_ble_eq_true rfl)) dX8_closeRecord_54 ⟨(Nat.le_of_ble_eq_true rfl), (Nat.le_of_ble_eq_true rfl)⟩) hS (fun q _ h => hF q h) hF (fun u t H locs ht hvm hw hB _ _ hS => ?_)
      replace hP : va_P (dC, dI) vwCl (wA a k q3) H := by rw [← ht]; exact hB.1
      replace hD := hD0 (q3)
      clear hB hF
      refine lv_iconst (v := 1) hx hb dX8_closeRecord_57 (by decide) ?_
      obtain rfl := Option.some.inj h
      exact W.zret hx hb hr rfl (fun t ht hW => ⟨⟨_, (), rfl, rfl, ⟨by rw [ht]; exact hP, va_K.moved hW.alike hK, hD⟩⟩, hS.F ht⟩) hS.2.2 dX8_closeRecord_58
    · replace h := iq hc h
      refine lv_iload_n hx hb dX8_closeRecord_14 rfl (lv_at hl 2 rfl) ?_
      refine lv_iload_n hx hb dX8_closeRecord_15 rfl (lv_at hl 3 rfl) ?_
      refine lv_ishr hx hb dX8_closeRecord_16 ?_
      refine lv_iconst (v := 1) hx hb dX8_closeRecord_17 (by decide) ?_
      refine lv_iand hx hb dX8_closeRecord_18 ?_
      refine lv_if_ne (tgt := 44) hx hb dX8_closeRecord_19 (by decide) (fun hc => ?_) (fun hc => ?_)
      · replace h := iq hc h
        exact b_X8_closeRecord_44 hC ih h _ _ _ hP hD hS (lv_sub hl [0, 1, 2, 3] rfl)
      · replace h := ip hc h
        refine lv_aload_n hx hb dX8_closeRecord_22 rfl (lv_at hl 0 rfl) ?_
        refine va_get (D := (dC, dI)) (ci := 8) (C := RX8) (T := TX8) (N := 3) hx hb hts inlX8 hown hK hP 86 gA_86 rfl 1 (by decide) (hts (.fieldLink RX8 15 "ShapeReader$ValueText" "shapes" "LShapeReader$Shapes;") mw_19_6) (fun _ h9 => h9) rfl dX8_closeRecord_23 ?_
        refine lv_iload_n hx hb dX8_closeRecord_26 rfl (lv_at hl 1 rfl) ?_
        refine lv_iload_n hx hb dX8_closeRecord_27 rfl (lv_at hl 3 rfl) ?_
        obtain ⟨q5, hc, h⟩ := ib h
        have hF := va_frees hD hS hA
        refine va_calli (va_runV (As := [.int x1, .int x3]) (rest := []) ⟨hx, hb, hml, hown, hts⟩ (s_X5_hasElse_4 hc) (cwV 2 hts (gV mw_20_9 mw_2_4 mw_2_5 mw_0_9 mw_50_4) rfl rfl rfl (by decide +kernel) ⟨(Nat.le_of_ble_eq_true rfl), (Nat.le_of_ble_eq_true rfl)⟩) (vV (ci := 5) (q0 := 4) hK hP hD hN rfl gA_4) rfl rfl hl.1 rfl (lv_room (Nat.le_of_ble_eq_true rfl)) dX8_closeRecord_28 ⟨(Nat.le_of_ble_eq_true rfl), (Nat.le_of_ble_eq_true rfl)⟩) hS (fun q _ h => hF q h) hF (fun r6 u t H locs ht hvm hw hB _ _ hS => ?_)
        obtain rfl : r6 = q5.1 := hw
        replace hP : va_P (dC, dI) vwCl (wA a k q5.2) H := by rw [← ht]; exact hB.1
        replace hD := hD0 (q5.2)
        clear hB hF
        refine lv_if_ne (tgt := 44) hx hb dX8_closeRecord_31 (by decide) (fun hc => ?_) (fun hc => ?_)
        · replace h := iq hc h
          exact b_X8_closeRecord_44 hC ih h _ _ _ hP hD hS (lv_sub hl [0, 1, 2, 3] rfl)
        · replace h := ip hc h
          refine lv_aload_n hx hb dX8_closeRecord_34 rfl (lv_at hl 0 rfl) ?_
          refine va_get (D := (dC, dI)) (ci := 8) (C := RX8) (T := TX8) (N := 3) hx hb hts inlX8 hown hK hP 86 gA_86 rfl 0 (by decide) (hts (.fieldLink RX8 9 "ShapeReader$ValueText" "tokens" "LShapeReader$Tokens;") mw_19_5) (fun _ h9 => h9) rfl dX8_closeRecord_35 ?_
          refine lv_bipush (v := 6) hx hb dX8_closeRecord_38 (by decide) ?_
          obtain ⟨q7, hc, h⟩ := ib h
          have hF := va_frees hD hS hA
          refine va_calli (va_runV (As := [.int 6]) (rest := []) ⟨hx, hb, hml, hown, hts⟩ (s_X6_refuse hc) (cwV 1 hts (gV mw_19_13 mw_7_15 mw_7_16 mw_0_10 mw_51_4) rfl rfl rfl (by decide +kernel) ⟨(Nat.le_of_ble_eq_true rfl), (Nat.le_of_ble_eq_true rfl)⟩) (vV (ci := 6) (q0 := 2) hK hP hD hN rfl gA_2) rfl rfl hl.1 rfl (lv_room (Nat.le_of_ble_eq_true rfl)) dX8_closeRecord_40 ⟨(Nat.le_of_ble_eq_true rfl), (Nat.le_of_ble_eq_true rfl)⟩) hS (fun q _ h => hF q h) hF (fun r8 u t H locs ht hvm hw hB _ _ hS => ?_)
          obtain rfl : r8 = q7.1 := hw
          replace hP : va_P (dC, dI) vwCl (wA a k q7.2) H := by rw [← ht]; exact hB.1
          replace hD := hD0 (q7.2)
          clear hB hF
          obtain ⟨hg, h⟩ := ig h
          obtain rfl := Option.some.inj h
          exact W.zret hx hb hr (zn hg) (fun t ht hW => ⟨⟨_, (), rfl, rfl, ⟨by rw [ht]; exact hP, va_K.moved hW.alike hK, hD⟩⟩, hS.F ht⟩) hS.2.2 dX8_closeRecord_43

set_option maxRecDepth 100000 in
set_option maxHeartbeats 4000000 in
theorem b_X8_closeRecord_e {p : Program} {l : Launch} {e : Env} {s : State} {m : MethodId} {args : Array Value} {below : List Frame} {meth : Method} {c : Code} {dC : Nat → ClassId} {dI : Nat → Nat → Nat} {a : Nat → Nat} {k : Nat → ClassId} {A : Nat → Prop} {q : Int32 × ST} (hC : CxA p s m args meth c dC dI k A cX8_closeRecord RX8 (some .boolean) 4)   {p0 : Int32} {p1 : Int32} {σ : ST} (h : f_X8_closeRecord  p0 p1 σ = some q) : GoA p l e ({ frames := 3, cells := 0, slots := 0, locals := 68 } : Room) s m args below meth c (MQ below (qAi dC dI a k A q) args s 0 0 A) dC dI a k A 4 0 σ (lv_args 0 [.ref (a 86), .int p0, .int p1]) [] := by
  have hC0 := hC
  obtain ⟨hx, hb, hr, hml, hown, hts, hlocks, hA, hN, hK⟩ := hC0
  intro H locs ls hP hD hS hl
  have hD0 : ∀ σ1 : ST, va_D A (wA a k σ1) := fun σ1 => wA_D hD
  replace hl : lv_has ls 4 [(0, .ref (a 86)), (1, .int p0), (2, .int p1)] := hl
  unfold f_X8_closeRecord at h
  refine lv_iconst (v := 0) hx hb dX8_closeRecord_0 (by decide) ?_
  refine lv_istore_n (lv' := [(3, .int 0), (0, .ref (a 86)), (1, .int p0), (2, .int p1)]) hx hb dX8_closeRecord_1 rfl hl (by decide) rfl (fun ls hl => ?_)
  exact b_X8_closeRecord_2 hC FU _ _ _ _ h _ _ _ hP hD hS (lv_sub hl [1, 2, 3, 0] rfl)

theorem s_X8_closeRecord {l : Launch} {dC : Nat → ClassId} {dI : Nat → Nat → Nat} {a : Nat → Nat} {k : Nat → ClassId} {sz : Nat} {p0 : Int32} {p1 : Int32} {σ : ST} {q : Int32 × ST} (h : f_X8_closeRecord  p0 p1 σ = some q) : Met l yX8_closeRecord (.code yX8_closeRecord cX8_closeRecord 4 (some .boolean) :: pw) ({ frames := 3, cells := 0, slots := 0, locals := 68 } : Room) (va_Pc [.ref (a 86), .int p0, .int p1] (vPre dC dI (wA a k σ) (tA k) sz)) (qAi dC dI a k (va_A (wA a k σ) sz) q) 0 0 (va_A (wA a k σ) sz) := metA (fun A => qAi dC dI a k A q) (plainFor_of_name (by decide)) (Nat.le_of_ble_eq_true rfl) (fun _ _ _ _ _ _ _ _ hC => b_X8_closeRecord_e hC h)
