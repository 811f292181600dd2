theorem dJ6_bitCount_0f7a4_0 : decode cJ6_bitCount_0f7a4 0 = .ok (.iload_n 0, 1) := by decide +kernel
theorem dJ6_bitCount_0f7a4_1 : decode cJ6_bitCount_0f7a4 1 = .ok (.iload_n 0, 1) := by decide +kernel
theorem dJ6_bitCount_0f7a4_2 : decode cJ6_bitCount_0f7a4 2 = .ok (.iconst 1, 1) := by decide +kernel
theorem dJ6_bitCount_0f7a4_3 : decode cJ6_bitCount_0f7a4 3 = .ok (.iushr, 1) := by decide +kernel
theorem dJ6_bitCount_0f7a4_4 : decode cJ6_bitCount_0f7a4 4 = .ok (.ldc_w 265, 3) := by decide +kernel
theorem dJ6_bitCount_0f7a4_7 : decode cJ6_bitCount_0f7a4 7 = .ok (.iand, 1) := by decide +kernel
theorem dJ6_bitCount_0f7a4_8 : decode cJ6_bitCount_0f7a4 8 = .ok (.isub, 1) := by decide +kernel
theorem dJ6_bitCount_0f7a4_9 : decode cJ6_bitCount_0f7a4 9 = .ok (.istore_n 0, 1) := by decide +kernel
theorem dJ6_bitCount_0f7a4_10 : decode cJ6_bitCount_0f7a4 10 = .ok (.iload_n 0, 1) := by decide +kernel
theorem dJ6_bitCount_0f7a4_11 : decode cJ6_bitCount_0f7a4 11 = .ok (.ldc_w 266, 3) := by decide +kernel
theorem dJ6_bitCount_0f7a4_14 : decode cJ6_bitCount_0f7a4 14 = .ok (.iand, 1) := by decide +kernel
theorem dJ6_bitCount_0f7a4_15 : decode cJ6_bitCount_0f7a4 15 = .ok (.iload_n 0, 1) := by decide +kernel
theorem dJ6_bitCount_0f7a4_16 : decode cJ6_bitCount_0f7a4 16 = .ok (.iconst 2, 1) := by decide +kernel
theorem dJ6_bitCount_0f7a4_17 : decode cJ6_bitCount_0f7a4 17 = .ok (.iushr, 1) := by decide +kernel
theorem dJ6_bitCount_0f7a4_18 : decode cJ6_bitCount_0f7a4 18 = .ok (.ldc_w 266, 3) := by decide +kernel
theorem dJ6_bitCount_0f7a4_21 : decode cJ6_bitCount_0f7a4 21 = .ok (.iand, 1) := by decide +kernel
theorem dJ6_bitCount_0f7a4_22 : decode cJ6_bitCount_0f7a4 22 = .ok (.iadd, 1) := by decide +kernel
theorem dJ6_bitCount_0f7a4_23 : decode cJ6_bitCount_0f7a4 23 = .ok (.istore_n 0, 1) := by decide +kernel
theorem dJ6_bitCount_0f7a4_24 : decode cJ6_bitCount_0f7a4 24 = .ok (.iload_n 0, 1) := by decide +kernel
theorem dJ6_bitCount_0f7a4_25 : decode cJ6_bitCount_0f7a4 25 = .ok (.iload_n 0, 1) := by decide +kernel
theorem dJ6_bitCount_0f7a4_26 : decode cJ6_bitCount_0f7a4 26 = .ok (.iconst 4, 1) := by decide +kernel
theorem dJ6_bitCount_0f7a4_27 : decode cJ6_bitCount_0f7a4 27 = .ok (.iushr, 1) := by decide +kernel
theorem dJ6_bitCount_0f7a4_28 : decode cJ6_bitCount_0f7a4 28 = .ok (.iadd, 1) := by decide +kernel
theorem dJ6_bitCount_0f7a4_29 : decode cJ6_bitCount_0f7a4 29 = .ok (.ldc_w 267, 3) := by decide +kernel
theorem dJ6_bitCount_0f7a4_32 : decode cJ6_bitCount_0f7a4 32 = .ok (.iand, 1) := by decide +kernel
theorem dJ6_bitCount_0f7a4_33 : decode cJ6_bitCount_0f7a4 33 = .ok (.istore_n 0, 1) := by decide +kernel
theorem dJ6_bitCount_0f7a4_34 : decode cJ6_bitCount_0f7a4 34 = .ok (.iload_n 0, 1) := by decide +kernel
theorem dJ6_bitCount_0f7a4_35 : decode cJ6_bitCount_0f7a4 35 = .ok (.iload_n 0, 1) := by decide +kernel
theorem dJ6_bitCount_0f7a4_36 : decode cJ6_bitCount_0f7a4 36 = .ok (.bipush 8, 2) := by decide +kernel
theorem dJ6_bitCount_0f7a4_38 : decode cJ6_bitCount_0f7a4 38 = .ok (.iushr, 1) := by decide +kernel
theorem dJ6_bitCount_0f7a4_39 : decode cJ6_bitCount_0f7a4 39 = .ok (.iadd, 1) := by decide +kernel
theorem dJ6_bitCount_0f7a4_40 : decode cJ6_bitCount_0f7a4 40 = .ok (.istore_n 0, 1) := by decide +kernel
theorem dJ6_bitCount_0f7a4_41 : decode cJ6_bitCount_0f7a4 41 = .ok (.iload_n 0, 1) := by decide +kernel
theorem dJ6_bitCount_0f7a4_42 : decode cJ6_bitCount_0f7a4 42 = .ok (.iload_n 0, 1) := by decide +kernel
theorem dJ6_bitCount_0f7a4_43 : decode cJ6_bitCount_0f7a4 43 = .ok (.bipush 16, 2) := by decide +kernel
theorem dJ6_bitCount_0f7a4_45 : decode cJ6_bitCount_0f7a4 45 = .ok (.iushr, 1) := by decide +kernel
theorem dJ6_bitCount_0f7a4_46 : decode cJ6_bitCount_0f7a4 46 = .ok (.iadd, 1) := by decide +kernel
theorem dJ6_bitCount_0f7a4_47 : decode cJ6_bitCount_0f7a4 47 = .ok (.istore_n 0, 1) := by decide +kernel
theorem dJ6_bitCount_0f7a4_48 : decode cJ6_bitCount_0f7a4 48 = .ok (.iload_n 0, 1) := by decide +kernel
theorem dJ6_bitCount_0f7a4_49 : decode cJ6_bitCount_0f7a4 49 = .ok (.bipush 63, 2) := by decide +kernel
theorem dJ6_bitCount_0f7a4_51 : decode cJ6_bitCount_0f7a4 51 = .ok (.iand, 1) := by decide +kernel
theorem dJ6_bitCount_0f7a4_52 : decode cJ6_bitCount_0f7a4 52 = .ok (.ireturn, 1) := by decide +kernel
theorem dJ7_fill_53178_0 : decode cJ7_fill_53178 0 = .ok (.iconst 0, 1) := by decide +kernel
theorem dJ7_fill_53178_1 : decode cJ7_fill_53178 1 = .ok (.istore_n 2, 1) := by decide +kernel
theorem dJ7_fill_53178_2 : decode cJ7_fill_53178 2 = .ok (.aload_n 0, 1) := by decide +kernel
theorem dJ7_fill_53178_3 : decode cJ7_fill_53178 3 = .ok (.arraylength, 1) := by decide +kernel
theorem dJ7_fill_53178_4 : decode cJ7_fill_53178 4 = .ok (.istore_n 3, 1) := by decide +kernel
theorem dJ7_fill_53178_5 : decode cJ7_fill_53178 5 = .ok (.iload_n 2, 1) := by decide +kernel
theorem dJ7_fill_53178_6 : decode cJ7_fill_53178 6 = .ok (.iload_n 3, 1) := by decide +kernel
theorem dJ7_fill_53178_7 : decode cJ7_fill_53178 7 = .ok (.if_icmp .ge 13, 3) := by decide +kernel
theorem dJ7_fill_53178_10 : decode cJ7_fill_53178 10 = .ok (.aload_n 0, 1) := by decide +kernel
theorem dJ7_fill_53178_11 : decode cJ7_fill_53178 11 = .ok (.iload_n 2, 1) := by decide +kernel
theorem dJ7_fill_53178_12 : decode cJ7_fill_53178 12 = .ok (.iload_n 1, 1) := by decide +kernel
theorem dJ7_fill_53178_13 : decode cJ7_fill_53178 13 = .ok (.iastore, 1) := by decide +kernel
theorem dJ7_fill_53178_14 : decode cJ7_fill_53178 14 = .ok (.iinc 2 1, 3) := by decide +kernel
theorem dJ7_fill_53178_17 : decode cJ7_fill_53178 17 = .ok (.goto (-12), 3) := by decide +kernel
theorem dJ7_fill_53178_20 : decode cJ7_fill_53178 20 = .ok (.return_, 1) := by decide +kernel
theorem dJ9_floorMod_7cf53_0 : decode cJ9_floorMod_7cf53 0 = .ok (.iload_n 0, 1) := by decide +kernel
theorem dJ9_floorMod_7cf53_1 : decode cJ9_floorMod_7cf53 1 = .ok (.iload_n 1, 1) := by decide +kernel
theorem dJ9_floorMod_7cf53_2 : decode cJ9_floorMod_7cf53 2 = .ok (.irem, 1) := by decide +kernel
theorem dJ9_floorMod_7cf53_3 : decode cJ9_floorMod_7cf53 3 = .ok (.istore_n 2, 1) := by decide +kernel
theorem dJ9_floorMod_7cf53_4 : decode cJ9_floorMod_7cf53 4 = .ok (.iload_n 0, 1) := by decide +kernel
theorem dJ9_floorMod_7cf53_5 : decode cJ9_floorMod_7cf53 5 = .ok (.iload_n 1, 1) := by decide +kernel
theorem dJ9_floorMod_7cf53_6 : decode cJ9_floorMod_7cf53 6 = .ok (.ixor, 1) := by decide +kernel
theorem dJ9_floorMod_7cf53_7 : decode cJ9_floorMod_7cf53 7 = .ok (.ifCond .ge 11, 3) := by decide +kernel
theorem dJ9_floorMod_7cf53_10 : decode cJ9_floorMod_7cf53 10 = .ok (.iload_n 2, 1) := by decide +kernel
theorem dJ9_floorMod_7cf53_11 : decode cJ9_floorMod_7cf53 11 = .ok (.ifCond .eq 7, 3) := by decide +kernel
theorem dJ9_floorMod_7cf53_14 : decode cJ9_floorMod_7cf53 14 = .ok (.iload_n 2, 1) := by decide +kernel
theorem dJ9_floorMod_7cf53_15 : decode cJ9_floorMod_7cf53 15 = .ok (.iload_n 1, 1) := by decide +kernel
theorem dJ9_floorMod_7cf53_16 : decode cJ9_floorMod_7cf53 16 = .ok (.iadd, 1) := by decide +kernel
theorem dJ9_floorMod_7cf53_17 : decode cJ9_floorMod_7cf53 17 = .ok (.ireturn, 1) := by decide +kernel
theorem dJ9_floorMod_7cf53_18 : decode cJ9_floorMod_7cf53 18 = .ok (.iload_n 2, 1) := by decide +kernel
theorem dJ9_floorMod_7cf53_19 : decode cJ9_floorMod_7cf53 19 = .ok (.ireturn, 1) := by decide +kernel
theorem dX0_addMiss_0 : decode cX0_addMiss 0 = .ok (.aload_n 0, 1) := by decide +kernel
theorem dX0_addMiss_1 : decode cX0_addMiss 1 = .ok (.getfield 30, 3) := by decide +kernel
theorem dX0_addMiss_4 : decode cX0_addMiss 4 = .ok (.ifCond .lt 28, 3) := by decide +kernel
theorem dX0_addMiss_7 : decode cX0_addMiss 7 = .ok (.aload_n 0, 1) := by decide +kernel
theorem dX0_addMiss_8 : decode cX0_addMiss 8 = .ok (.getfield 30, 3) := by decide +kernel
theorem dX0_addMiss_11 : decode cX0_addMiss 11 = .ok (.bipush 20, 2) := by decide +kernel
theorem dX0_addMiss_13 : decode cX0_addMiss 13 = .ok (.if_icmp .ge 19, 3) := by decide +kernel
theorem dX0_addMiss_16 : decode cX0_addMiss 16 = .ok (.aload_n 0, 1) := by decide +kernel
theorem dX0_addMiss_17 : decode cX0_addMiss 17 = .ok (.getfield 45, 3) := by decide +kernel
theorem dX0_addMiss_20 : decode cX0_addMiss 20 = .ok (.ifCond .lt 12, 3) := by decide +kernel
theorem dX0_addMiss_23 : decode cX0_addMiss 23 = .ok (.aload_n 0, 1) := by decide +kernel
theorem dX0_addMiss_24 : decode cX0_addMiss 24 = .ok (.getfield 45, 3) := by decide +kernel
theorem dX0_addMiss_27 : decode cX0_addMiss 27 = .ok (.bipush 32, 2) := by decide +kernel
theorem dX0_addMiss_29 : decode cX0_addMiss 29 = .ok (.if_icmp .le 4, 3) := by decide +kernel
theorem dX0_addMiss_32 : decode cX0_addMiss 32 = .ok (.return_, 1) := by decide +kernel
theorem dX0_addMiss_33 : decode cX0_addMiss 33 = .ok (.aload_n 0, 1) := by decide +kernel
theorem dX0_addMiss_34 : decode cX0_addMiss 34 = .ok (.getfield 33, 3) := by decide +kernel
theorem dX0_addMiss_37 : decode cX0_addMiss 37 = .ok (.aload_n 0, 1) := by decide +kernel
theorem dX0_addMiss_38 : decode cX0_addMiss 38 = .ok (.getfield 30, 3) := by decide +kernel
theorem dX0_addMiss_41 : decode cX0_addMiss 41 = .ok (.iload_n 1, 1) := by decide +kernel
theorem dX0_addMiss_42 : decode cX0_addMiss 42 = .ok (.iastore, 1) := by decide +kernel
theorem dX0_addMiss_43 : decode cX0_addMiss 43 = .ok (.aload_n 0, 1) := by decide +kernel
theorem dX0_addMiss_44 : decode cX0_addMiss 44 = .ok (.getfield 36, 3) := by decide +kernel
theorem dX0_addMiss_47 : decode cX0_addMiss 47 = .ok (.aload_n 0, 1) := by decide +kernel
theorem dX0_addMiss_48 : decode cX0_addMiss 48 = .ok (.getfield 30, 3) := by decide +kernel
theorem dX0_addMiss_51 : decode cX0_addMiss 51 = .ok (.aload_n 0, 1) := by decide +kernel
theorem dX0_addMiss_52 : decode cX0_addMiss 52 = .ok (.getfield 45, 3) := by decide +kernel
theorem dX0_addMiss_55 : decode cX0_addMiss 55 = .ok (.iastore, 1) := by decide +kernel
theorem dX0_addMiss_56 : decode cX0_addMiss 56 = .ok (.aload_n 0, 1) := by decide +kernel
theorem dX0_addMiss_57 : decode cX0_addMiss 57 = .ok (.getfield 42, 3) := by decide +kernel
theorem dX0_addMiss_60 : decode cX0_addMiss 60 = .ok (.iconst 0, 1) := by decide +kernel
theorem dX0_addMiss_61 : decode cX0_addMiss 61 = .ok (.aload_n 0, 1) := by decide +kernel
theorem dX0_addMiss_62 : decode cX0_addMiss 62 = .ok (.getfield 39, 3) := by decide +kernel
theorem dX0_addMiss_65 : decode cX0_addMiss 65 = .ok (.aload_n 0, 1) := by decide +kernel
theorem dX0_addMiss_66 : decode cX0_addMiss 66 = .ok (.getfield 30, 3) := by decide +kernel
theorem dX0_addMiss_69 : decode cX0_addMiss 69 = .ok (.bipush 32, 2) := by decide +kernel
theorem dX0_addMiss_71 : decode cX0_addMiss 71 = .ok (.imul, 1) := by decide +kernel
theorem dX0_addMiss_72 : decode cX0_addMiss 72 = .ok (.aload_n 0, 1) := by decide +kernel
theorem dX0_addMiss_73 : decode cX0_addMiss 73 = .ok (.getfield 45, 3) := by decide +kernel
theorem dX0_addMiss_76 : decode cX0_addMiss 76 = .ok (.invokestatic 165, 3) := by decide +kernel
theorem dX0_addMiss_79 : decode cX0_addMiss 79 = .ok (.aload_n 0, 1) := by decide +kernel
theorem dX0_addMiss_80 : decode cX0_addMiss 80 = .ok (.dup, 1) := by decide +kernel
theorem dX0_addMiss_81 : decode cX0_addMiss 81 = .ok (.getfield 30, 3) := by decide +kernel
theorem dX0_addMiss_84 : decode cX0_addMiss 84 = .ok (.iconst 1, 1) := by decide +kernel
theorem dX0_addMiss_85 : decode cX0_addMiss 85 = .ok (.iadd, 1) := by decide +kernel
theorem dX0_addMiss_86 : decode cX0_addMiss 86 = .ok (.putfield 30, 3) := by decide +kernel
theorem dX0_addMiss_89 : decode cX0_addMiss 89 = .ok (.return_, 1) := by decide +kernel
theorem dX0_bitOf_0 : decode cX0_bitOf 0 = .ok (.lconst 1, 1) := by decide +kernel
theorem dX0_bitOf_1 : decode cX0_bitOf 1 = .ok (.iload_n 0, 1) := by decide +kernel
theorem dX0_bitOf_2 : decode cX0_bitOf 2 = .ok (.bipush 6, 2) := by decide +kernel
theorem dX0_bitOf_4 : decode cX0_bitOf 4 = .ok (.invokestatic 61, 3) := by decide +kernel
theorem dX0_bitOf_7 : decode cX0_bitOf 7 = .ok (.bipush 6, 2) := by decide +kernel
theorem dX0_bitOf_9 : decode cX0_bitOf 9 = .ok (.imul, 1) := by decide +kernel
theorem dX0_bitOf_10 : decode cX0_bitOf 10 = .ok (.iload_n 1, 1) := by decide +kernel
theorem dX0_bitOf_11 : decode cX0_bitOf 11 = .ok (.bipush 6, 2) := by decide +kernel
theorem dX0_bitOf_13 : decode cX0_bitOf 13 = .ok (.invokestatic 61, 3) := by decide +kernel
theorem dX0_bitOf_16 : decode cX0_bitOf 16 = .ok (.iadd, 1) := by decide +kernel
theorem dX0_bitOf_17 : decode cX0_bitOf 17 = .ok (.lshl, 1) := by decide +kernel
theorem dX0_bitOf_18 : decode cX0_bitOf 18 = .ok (.lreturn, 1) := by decide +kernel
theorem dX0_chosen_0 : decode cX0_chosen 0 = .ok (.aload_n 0, 1) := by decide +kernel
theorem dX0_chosen_1 : decode cX0_chosen 1 = .ok (.iload_n 1, 1) := by decide +kernel
theorem dX0_chosen_2 : decode cX0_chosen 2 = .ok (.iload_n 2, 1) := by decide +kernel
theorem dX0_chosen_3 : decode cX0_chosen 3 = .ok (.iconst 0, 1) := by decide +kernel
theorem dX0_chosen_4 : decode cX0_chosen 4 = .ok (.invokevirtual 123, 3) := by decide +kernel
theorem dX0_chosen_7 : decode cX0_chosen 7 = .ok (.ireturn, 1) := by decide +kernel
theorem dX0_chosenWithin_0 : decode cX0_chosenWithin 0 = .ok (.iconst (-1), 1) := by decide +kernel
theorem dX0_chosenWithin_1 : decode cX0_chosenWithin 1 = .ok (.istore 4, 2) := by decide +kernel
theorem dX0_chosenWithin_3 : decode cX0_chosenWithin 3 = .ok (.aload_n 0, 1) := by decide +kernel
theorem dX0_chosenWithin_4 : decode cX0_chosenWithin 4 = .ok (.getfield 51, 3) := by decide +kernel
theorem dX0_chosenWithin_7 : decode cX0_chosenWithin 7 = .ok (.iload_n 2, 1) := by decide +kernel
theorem dX0_chosenWithin_8 : decode cX0_chosenWithin 8 = .ok (.invokevirtual 117, 3) := by decide +kernel
theorem dX0_chosenWithin_11 : decode cX0_chosenWithin 11 = .ok (.istore 5, 2) := by decide +kernel
theorem dX0_chosenWithin_13 : decode cX0_chosenWithin 13 = .ok (.iconst 0, 1) := by decide +kernel
theorem dX0_chosenWithin_14 : decode cX0_chosenWithin 14 = .ok (.istore 6, 2) := by decide +kernel
theorem dX0_chosenWithin_16 : decode cX0_chosenWithin 16 = .ok (.iload 6, 2) := by decide +kernel
theorem dX0_chosenWithin_18 : decode cX0_chosenWithin 18 = .ok (.iconst 4, 1) := by decide +kernel
theorem dX0_chosenWithin_19 : decode cX0_chosenWithin 19 = .ok (.if_icmp .ge 77, 3) := by decide +kernel
theorem dX0_chosenWithin_22 : decode cX0_chosenWithin 22 = .ok (.iload 5, 2) := by decide +kernel
theorem dX0_chosenWithin_24 : decode cX0_chosenWithin 24 = .ok (.iconst (-1), 1) := by decide +kernel
theorem dX0_chosenWithin_25 : decode cX0_chosenWithin 25 = .ok (.if_icmp .eq 71, 3) := by decide +kernel
theorem dX0_chosenWithin_28 : decode cX0_chosenWithin 28 = .ok (.aload_n 0, 1) := by decide +kernel
theorem dX0_chosenWithin_29 : decode cX0_chosenWithin 29 = .ok (.iload_n 1, 1) := by decide +kernel
theorem dX0_chosenWithin_30 : decode cX0_chosenWithin 30 = .ok (.iload 5, 2) := by decide +kernel
theorem dX0_chosenWithin_32 : decode cX0_chosenWithin 32 = .ok (.iload_n 3, 1) := by decide +kernel
theorem dX0_chosenWithin_33 : decode cX0_chosenWithin 33 = .ok (.iconst 1, 1) := by decide +kernel
theorem dX0_chosenWithin_34 : decode cX0_chosenWithin 34 = .ok (.iadd, 1) := by decide +kernel
theorem dX0_chosenWithin_35 : decode cX0_chosenWithin 35 = .ok (.invokevirtual 110, 3) := by decide +kernel
theorem dX0_chosenWithin_38 : decode cX0_chosenWithin 38 = .ok (.ifCond .eq 41, 3) := by decide +kernel
theorem dX0_chosenWithin_41 : decode cX0_chosenWithin 41 = .ok (.aload_n 0, 1) := by decide +kernel
theorem dX0_chosenWithin_42 : decode cX0_chosenWithin 42 = .ok (.getfield 51, 3) := by decide +kernel
theorem dX0_chosenWithin_45 : decode cX0_chosenWithin 45 = .ok (.iload 5, 2) := by decide +kernel
theorem dX0_chosenWithin_47 : decode cX0_chosenWithin 47 = .ok (.invokevirtual 114, 3) := by decide +kernel
theorem dX0_chosenWithin_50 : decode cX0_chosenWithin 50 = .ok (.aload_n 0, 1) := by decide +kernel
theorem dX0_chosenWithin_51 : decode cX0_chosenWithin 51 = .ok (.getfield 51, 3) := by decide +kernel
theorem dX0_chosenWithin_54 : decode cX0_chosenWithin 54 = .ok (.iload_n 1, 1) := by decide +kernel
theorem dX0_chosenWithin_55 : decode cX0_chosenWithin 55 = .ok (.invokevirtual 114, 3) := by decide +kernel
theorem dX0_chosenWithin_58 : decode cX0_chosenWithin 58 = .ok (.if_icmp .ne 6, 3) := by decide +kernel
theorem dX0_chosenWithin_61 : decode cX0_chosenWithin 61 = .ok (.iload 5, 2) := by decide +kernel
theorem dX0_chosenWithin_63 : decode cX0_chosenWithin 63 = .ok (.ireturn, 1) := by decide +kernel
theorem dX0_chosenWithin_64 : decode cX0_chosenWithin 64 = .ok (.iload 4, 2) := by decide +kernel
theorem dX0_chosenWithin_66 : decode cX0_chosenWithin 66 = .ok (.iconst (-1), 1) := by decide +kernel
theorem dX0_chosenWithin_67 : decode cX0_chosenWithin 67 = .ok (.if_icmp .ne 8, 3) := by decide +kernel
theorem dX0_chosenWithin_70 : decode cX0_chosenWithin 70 = .ok (.iload 5, 2) := by decide +kernel
theorem dX0_chosenWithin_72 : decode cX0_chosenWithin 72 = .ok (.goto 5, 3) := by decide +kernel
theorem dX0_chosenWithin_75 : decode cX0_chosenWithin 75 = .ok (.iload 4, 2) := by decide +kernel
theorem dX0_chosenWithin_77 : decode cX0_chosenWithin 77 = .ok (.istore 4, 2) := by decide +kernel
theorem dX0_chosenWithin_79 : decode cX0_chosenWithin 79 = .ok (.aload_n 0, 1) := by decide +kernel
theorem dX0_chosenWithin_80 : decode cX0_chosenWithin 80 = .ok (.getfield 51, 3) := by decide +kernel
theorem dX0_chosenWithin_83 : decode cX0_chosenWithin 83 = .ok (.iload 5, 2) := by decide +kernel
theorem dX0_chosenWithin_85 : decode cX0_chosenWithin 85 = .ok (.invokevirtual 120, 3) := by decide +kernel
theorem dX0_chosenWithin_88 : decode cX0_chosenWithin 88 = .ok (.istore 5, 2) := by decide +kernel
theorem dX0_chosenWithin_90 : decode cX0_chosenWithin 90 = .ok (.iinc 6 1, 3) := by decide +kernel
theorem dX0_chosenWithin_93 : decode cX0_chosenWithin 93 = .ok (.goto (-77), 3) := by decide +kernel
theorem dX0_chosenWithin_96 : decode cX0_chosenWithin 96 = .ok (.iload 4, 2) := by decide +kernel
theorem dX0_chosenWithin_98 : decode cX0_chosenWithin 98 = .ok (.ireturn, 1) := by decide +kernel
theorem dX0_clear_0 : decode cX0_clear 0 = .ok (.aload_n 0, 1) := by decide +kernel
theorem dX0_clear_1 : decode cX0_clear 1 = .ok (.lconst 0, 1) := by decide +kernel
theorem dX0_clear_2 : decode cX0_clear 2 = .ok (.putfield 15, 3) := by decide +kernel
theorem dX0_clear_5 : decode cX0_clear 5 = .ok (.aload_n 0, 1) := by decide +kernel
theorem dX0_clear_6 : decode cX0_clear 6 = .ok (.getfield 19, 3) := by decide +kernel
theorem dX0_clear_9 : decode cX0_clear 9 = .ok (.iconst (-1), 1) := by decide +kernel
theorem dX0_clear_10 : decode cX0_clear 10 = .ok (.invokestatic 55, 3) := by decide +kernel
theorem dX0_clear_13 : decode cX0_clear 13 = .ok (.aload_n 0, 1) := by decide +kernel
theorem dX0_clear_14 : decode cX0_clear 14 = .ok (.iconst (-1), 1) := by decide +kernel
theorem dX0_clear_15 : decode cX0_clear 15 = .ok (.putfield 26, 3) := by decide +kernel
theorem dX0_clear_18 : decode cX0_clear 18 = .ok (.aload_n 0, 1) := by decide +kernel
theorem dX0_clear_19 : decode cX0_clear 19 = .ok (.iconst 0, 1) := by decide +kernel
theorem dX0_clear_20 : decode cX0_clear 20 = .ok (.putfield 30, 3) := by decide +kernel
theorem dX0_clear_23 : decode cX0_clear 23 = .ok (.return_, 1) := by decide +kernel
theorem dX0_fitsWithin_0 : decode cX0_fitsWithin 0 = .ok (.iload_n 3, 1) := by decide +kernel
theorem dX0_fitsWithin_1 : decode cX0_fitsWithin 1 = .ok (.bipush 10, 2) := by decide +kernel
theorem dX0_fitsWithin_3 : decode cX0_fitsWithin 3 = .ok (.if_icmp .le 5, 3) := by decide +kernel
theorem dX0_fitsWithin_6 : decode cX0_fitsWithin 6 = .ok (.iconst 0, 1) := by decide +kernel
theorem dX0_fitsWithin_7 : decode cX0_fitsWithin 7 = .ok (.ireturn, 1) := by decide +kernel
theorem dX0_fitsWithin_8 : decode cX0_fitsWithin 8 = .ok (.aload_n 0, 1) := by decide +kernel
theorem dX0_fitsWithin_9 : decode cX0_fitsWithin 9 = .ok (.getfield 51, 3) := by decide +kernel
theorem dX0_fitsWithin_12 : decode cX0_fitsWithin 12 = .ok (.iload_n 1, 1) := by decide +kernel
theorem dX0_fitsWithin_13 : decode cX0_fitsWithin 13 = .ok (.invokevirtual 114, 3) := by decide +kernel
theorem dX0_fitsWithin_16 : decode cX0_fitsWithin 16 = .ok (.istore 4, 2) := by decide +kernel
theorem dX0_fitsWithin_18 : decode cX0_fitsWithin 18 = .ok (.aload_n 0, 1) := by decide +kernel
theorem dX0_fitsWithin_19 : decode cX0_fitsWithin 19 = .ok (.getfield 51, 3) := by decide +kernel
theorem dX0_fitsWithin_22 : decode cX0_fitsWithin 22 = .ok (.iload_n 2, 1) := by decide +kernel
theorem dX0_fitsWithin_23 : decode cX0_fitsWithin 23 = .ok (.invokevirtual 114, 3) := by decide +kernel
theorem dX0_fitsWithin_26 : decode cX0_fitsWithin 26 = .ok (.istore 5, 2) := by decide +kernel
theorem dX0_fitsWithin_28 : decode cX0_fitsWithin 28 = .ok (.iload 4, 2) := by decide +kernel
theorem dX0_fitsWithin_30 : decode cX0_fitsWithin 30 = .ok (.bipush 8, 2) := by decide +kernel
theorem dX0_fitsWithin_32 : decode cX0_fitsWithin 32 = .ok (.if_icmp .ne 62, 3) := by decide +kernel
theorem dX0_fitsWithin_35 : decode cX0_fitsWithin 35 = .ok (.aload_n 0, 1) := by decide +kernel
theorem dX0_fitsWithin_36 : decode cX0_fitsWithin 36 = .ok (.getfield 51, 3) := by decide +kernel
theorem dX0_fitsWithin_39 : decode cX0_fitsWithin 39 = .ok (.iload_n 1, 1) := by decide +kernel
theorem dX0_fitsWithin_40 : decode cX0_fitsWithin 40 = .ok (.invokevirtual 117, 3) := by decide +kernel
theorem dX0_fitsWithin_43 : decode cX0_fitsWithin 43 = .ok (.istore 6, 2) := by decide +kernel
theorem dX0_fitsWithin_45 : decode cX0_fitsWithin 45 = .ok (.iconst 0, 1) := by decide +kernel
theorem dX0_fitsWithin_46 : decode cX0_fitsWithin 46 = .ok (.istore 7, 2) := by decide +kernel
theorem dX0_fitsWithin_48 : decode cX0_fitsWithin 48 = .ok (.iload 7, 2) := by decide +kernel
theorem dX0_fitsWithin_50 : decode cX0_fitsWithin 50 = .ok (.iconst 4, 1) := by decide +kernel
theorem dX0_fitsWithin_51 : decode cX0_fitsWithin 51 = .ok (.if_icmp .ge 41, 3) := by decide +kernel
theorem dX0_fitsWithin_54 : decode cX0_fitsWithin 54 = .ok (.iload 6, 2) := by decide +kernel
theorem dX0_fitsWithin_56 : decode cX0_fitsWithin 56 = .ok (.iconst (-1), 1) := by decide +kernel
theorem dX0_fitsWithin_57 : decode cX0_fitsWithin 57 = .ok (.if_icmp .eq 35, 3) := by decide +kernel
theorem dX0_fitsWithin_60 : decode cX0_fitsWithin 60 = .ok (.aload_n 0, 1) := by decide +kernel
theorem dX0_fitsWithin_61 : decode cX0_fitsWithin 61 = .ok (.iload 6, 2) := by decide +kernel
theorem dX0_fitsWithin_63 : decode cX0_fitsWithin 63 = .ok (.iload_n 2, 1) := by decide +kernel
theorem dX0_fitsWithin_64 : decode cX0_fitsWithin 64 = .ok (.iload_n 3, 1) := by decide +kernel
theorem dX0_fitsWithin_65 : decode cX0_fitsWithin 65 = .ok (.iconst 1, 1) := by decide +kernel
theorem dX0_fitsWithin_66 : decode cX0_fitsWithin 66 = .ok (.iadd, 1) := by decide +kernel
theorem dX0_fitsWithin_67 : decode cX0_fitsWithin 67 = .ok (.invokevirtual 110, 3) := by decide +kernel
theorem dX0_fitsWithin_70 : decode cX0_fitsWithin 70 = .ok (.ifCond .eq 5, 3) := by decide +kernel
theorem dX0_fitsWithin_73 : decode cX0_fitsWithin 73 = .ok (.iconst 1, 1) := by decide +kernel
theorem dX0_fitsWithin_74 : decode cX0_fitsWithin 74 = .ok (.ireturn, 1) := by decide +kernel
theorem dX0_fitsWithin_75 : decode cX0_fitsWithin 75 = .ok (.aload_n 0, 1) := by decide +kernel
theorem dX0_fitsWithin_76 : decode cX0_fitsWithin 76 = .ok (.getfield 51, 3) := by decide +kernel
theorem dX0_fitsWithin_79 : decode cX0_fitsWithin 79 = .ok (.iload 6, 2) := by decide +kernel
theorem dX0_fitsWithin_81 : decode cX0_fitsWithin 81 = .ok (.invokevirtual 120, 3) := by decide +kernel
theorem dX0_fitsWithin_84 : decode cX0_fitsWithin 84 = .ok (.istore 6, 2) := by decide +kernel
theorem dX0_fitsWithin_86 : decode cX0_fitsWithin 86 = .ok (.iinc 7 1, 3) := by decide +kernel
theorem dX0_fitsWithin_89 : decode cX0_fitsWithin 89 = .ok (.goto (-41), 3) := by decide +kernel
theorem dX0_fitsWithin_92 : decode cX0_fitsWithin 92 = .ok (.iconst 0, 1) := by decide +kernel
theorem dX0_fitsWithin_93 : decode cX0_fitsWithin 93 = .ok (.ireturn, 1) := by decide +kernel
theorem dX0_fitsWithin_94 : decode cX0_fitsWithin 94 = .ok (.iload 5, 2) := by decide +kernel
theorem dX0_fitsWithin_96 : decode cX0_fitsWithin 96 = .ok (.bipush 8, 2) := by decide +kernel
theorem dX0_fitsWithin_98 : decode cX0_fitsWithin 98 = .ok (.if_icmp .ne 22, 3) := by decide +kernel
theorem dX0_fitsWithin_101 : decode cX0_fitsWithin 101 = .ok (.aload_n 0, 1) := by decide +kernel
theorem dX0_fitsWithin_102 : decode cX0_fitsWithin 102 = .ok (.iload_n 1, 1) := by decide +kernel
theorem dX0_fitsWithin_103 : decode cX0_fitsWithin 103 = .ok (.iload_n 2, 1) := by decide +kernel
theorem dX0_fitsWithin_104 : decode cX0_fitsWithin 104 = .ok (.iload_n 3, 1) := by decide +kernel
theorem dX0_fitsWithin_105 : decode cX0_fitsWithin 105 = .ok (.iconst 1, 1) := by decide +kernel
theorem dX0_fitsWithin_106 : decode cX0_fitsWithin 106 = .ok (.iadd, 1) := by decide +kernel
theorem dX0_fitsWithin_107 : decode cX0_fitsWithin 107 = .ok (.invokevirtual 123, 3) := by decide +kernel
theorem dX0_fitsWithin_110 : decode cX0_fitsWithin 110 = .ok (.iconst (-1), 1) := by decide +kernel
theorem dX0_fitsWithin_111 : decode cX0_fitsWithin 111 = .ok (.if_icmp .eq 7, 3) := by decide +kernel
theorem dX0_fitsWithin_114 : decode cX0_fitsWithin 114 = .ok (.iconst 1, 1) := by decide +kernel
theorem dX0_fitsWithin_115 : decode cX0_fitsWithin 115 = .ok (.goto 4, 3) := by decide +kernel
theorem dX0_fitsWithin_118 : decode cX0_fitsWithin 118 = .ok (.iconst 0, 1) := by decide +kernel
theorem dX0_fitsWithin_119 : decode cX0_fitsWithin 119 = .ok (.ireturn, 1) := by decide +kernel
theorem dX0_fitsWithin_120 : decode cX0_fitsWithin 120 = .ok (.iload 4, 2) := by decide +kernel
theorem dX0_fitsWithin_122 : decode cX0_fitsWithin 122 = .ok (.bipush 6, 2) := by decide +kernel
theorem dX0_fitsWithin_124 : decode cX0_fitsWithin 124 = .ok (.if_icmp .ne 34, 3) := by decide +kernel
theorem dX0_fitsWithin_127 : decode cX0_fitsWithin 127 = .ok (.iload 5, 2) := by decide +kernel
theorem dX0_fitsWithin_129 : decode cX0_fitsWithin 129 = .ok (.bipush 6, 2) := by decide +kernel
theorem dX0_fitsWithin_131 : decode cX0_fitsWithin 131 = .ok (.if_icmp .ne 27, 3) := by decide +kernel
theorem dX0_fitsWithin_134 : decode cX0_fitsWithin 134 = .ok (.aload_n 0, 1) := by decide +kernel
theorem dX0_fitsWithin_135 : decode cX0_fitsWithin 135 = .ok (.aload_n 0, 1) := by decide +kernel
theorem dX0_fitsWithin_136 : decode cX0_fitsWithin 136 = .ok (.getfield 51, 3) := by decide +kernel
theorem dX0_fitsWithin_139 : decode cX0_fitsWithin 139 = .ok (.iload_n 1, 1) := by decide +kernel
theorem dX0_fitsWithin_140 : decode cX0_fitsWithin 140 = .ok (.invokevirtual 117, 3) := by decide +kernel
theorem dX0_fitsWithin_143 : decode cX0_fitsWithin 143 = .ok (.aload_n 0, 1) := by decide +kernel
theorem dX0_fitsWithin_144 : decode cX0_fitsWithin 144 = .ok (.getfield 51, 3) := by decide +kernel
theorem dX0_fitsWithin_147 : decode cX0_fitsWithin 147 = .ok (.iload_n 2, 1) := by decide +kernel
theorem dX0_fitsWithin_148 : decode cX0_fitsWithin 148 = .ok (.invokevirtual 117, 3) := by decide +kernel
theorem dX0_fitsWithin_151 : decode cX0_fitsWithin 151 = .ok (.iload_n 3, 1) := by decide +kernel
theorem dX0_fitsWithin_152 : decode cX0_fitsWithin 152 = .ok (.iconst 1, 1) := by decide +kernel
theorem dX0_fitsWithin_153 : decode cX0_fitsWithin 153 = .ok (.iadd, 1) := by decide +kernel
theorem dX0_fitsWithin_154 : decode cX0_fitsWithin 154 = .ok (.invokevirtual 110, 3) := by decide +kernel
theorem dX0_fitsWithin_157 : decode cX0_fitsWithin 157 = .ok (.ireturn, 1) := by decide +kernel
theorem dX0_fitsWithin_158 : decode cX0_fitsWithin 158 = .ok (.iload 4, 2) := by decide +kernel
theorem dX0_fitsWithin_160 : decode cX0_fitsWithin 160 = .ok (.bipush 7, 2) := by decide +kernel
theorem dX0_fitsWithin_162 : decode cX0_fitsWithin 162 = .ok (.if_icmp .ne 45, 3) := by decide +kernel
theorem dX0_fitsWithin_165 : decode cX0_fitsWithin 165 = .ok (.iload 5, 2) := by decide +kernel
theorem dX0_fitsWithin_167 : decode cX0_fitsWithin 167 = .ok (.bipush 7, 2) := by decide +kernel
theorem dX0_fitsWithin_169 : decode cX0_fitsWithin 169 = .ok (.if_icmp .ne 38, 3) := by decide +kernel
theorem dX0_fitsWithin_172 : decode cX0_fitsWithin 172 = .ok (.aload_n 0, 1) := by decide +kernel
theorem dX0_fitsWithin_173 : decode cX0_fitsWithin 173 = .ok (.getfield 23, 3) := by decide +kernel
theorem dX0_fitsWithin_176 : decode cX0_fitsWithin 176 = .ok (.aload_n 0, 1) := by decide +kernel
theorem dX0_fitsWithin_177 : decode cX0_fitsWithin 177 = .ok (.getfield 51, 3) := by decide +kernel
theorem dX0_fitsWithin_180 : decode cX0_fitsWithin 180 = .ok (.iload_n 1, 1) := by decide +kernel
theorem dX0_fitsWithin_181 : decode cX0_fitsWithin 181 = .ok (.invokevirtual 117, 3) := by decide +kernel
theorem dX0_fitsWithin_184 : decode cX0_fitsWithin 184 = .ok (.aload_n 0, 1) := by decide +kernel
theorem dX0_fitsWithin_185 : decode cX0_fitsWithin 185 = .ok (.getfield 51, 3) := by decide +kernel
theorem dX0_fitsWithin_188 : decode cX0_fitsWithin 188 = .ok (.iload_n 2, 1) := by decide +kernel
theorem dX0_fitsWithin_189 : decode cX0_fitsWithin 189 = .ok (.invokevirtual 117, 3) := by decide +kernel
theorem dX0_fitsWithin_192 : decode cX0_fitsWithin 192 = .ok (.invokestatic 84, 3) := by decide +kernel
theorem dX0_fitsWithin_195 : decode cX0_fitsWithin 195 = .ok (.land, 1) := by decide +kernel
theorem dX0_fitsWithin_196 : decode cX0_fitsWithin 196 = .ok (.lconst 0, 1) := by decide +kernel
theorem dX0_fitsWithin_197 : decode cX0_fitsWithin 197 = .ok (.lcmp, 1) := by decide +kernel
theorem dX0_fitsWithin_198 : decode cX0_fitsWithin 198 = .ok (.ifCond .eq 7, 3) := by decide +kernel
theorem dX0_fitsWithin_201 : decode cX0_fitsWithin 201 = .ok (.iconst 1, 1) := by decide +kernel
theorem dX0_fitsWithin_202 : decode cX0_fitsWithin 202 = .ok (.goto 4, 3) := by decide +kernel
theorem dX0_fitsWithin_205 : decode cX0_fitsWithin 205 = .ok (.iconst 0, 1) := by decide +kernel
theorem dX0_fitsWithin_206 : decode cX0_fitsWithin 206 = .ok (.ireturn, 1) := by decide +kernel
theorem dX0_fitsWithin_207 : decode cX0_fitsWithin 207 = .ok (.iload 4, 2) := by decide +kernel
theorem dX0_fitsWithin_209 : decode cX0_fitsWithin 209 = .ok (.iload 5, 2) := by decide +kernel
theorem dX0_fitsWithin_211 : decode cX0_fitsWithin 211 = .ok (.invokestatic 126, 3) := by decide +kernel
theorem dX0_fitsWithin_214 : decode cX0_fitsWithin 214 = .ok (.ireturn, 1) := by decide +kernel
theorem dX0_plainFits_0 : decode cX0_plainFits 0 = .ok (.iload_n 0, 1) := by decide +kernel
theorem dX0_plainFits_1 : decode cX0_plainFits 1 = .ok (.ifCond .lt 8, 3) := by decide +kernel
theorem dX0_plainFits_4 : decode cX0_plainFits 4 = .ok (.iload_n 0, 1) := by decide +kernel
theorem dX0_plainFits_5 : decode cX0_plainFits 5 = .ok (.iconst 5, 1) := by decide +kernel
theorem dX0_plainFits_6 : decode cX0_plainFits 6 = .ok (.if_icmp .le 5, 3) := by decide +kernel
theorem dX0_plainFits_9 : decode cX0_plainFits 9 = .ok (.iconst 0, 1) := by decide +kernel
theorem dX0_plainFits_10 : decode cX0_plainFits 10 = .ok (.ireturn, 1) := by decide +kernel
theorem dX0_plainFits_11 : decode cX0_plainFits 11 = .ok (.iload_n 0, 1) := by decide +kernel
theorem dX0_plainFits_12 : decode cX0_plainFits 12 = .ok (.iload_n 1, 1) := by decide +kernel
theorem dX0_plainFits_13 : decode cX0_plainFits 13 = .ok (.if_icmp .eq 28, 3) := by decide +kernel
theorem dX0_plainFits_16 : decode cX0_plainFits 16 = .ok (.iload_n 0, 1) := by decide +kernel
theorem dX0_plainFits_17 : decode cX0_plainFits 17 = .ok (.iconst 2, 1) := by decide +kernel
theorem dX0_plainFits_18 : decode cX0_plainFits 18 = .ok (.if_icmp .ne 13, 3) := by decide +kernel
theorem dX0_plainFits_21 : decode cX0_plainFits 21 = .ok (.iload_n 1, 1) := by decide +kernel
theorem dX0_plainFits_22 : decode cX0_plainFits 22 = .ok (.iconst 3, 1) := by decide +kernel
theorem dX0_plainFits_23 : decode cX0_plainFits 23 = .ok (.if_icmp .eq 18, 3) := by decide +kernel
theorem dX0_plainFits_26 : decode cX0_plainFits 26 = .ok (.iload_n 1, 1) := by decide +kernel
theorem dX0_plainFits_27 : decode cX0_plainFits 27 = .ok (.iconst 4, 1) := by decide +kernel
theorem dX0_plainFits_28 : decode cX0_plainFits 28 = .ok (.if_icmp .eq 13, 3) := by decide +kernel
theorem dX0_plainFits_31 : decode cX0_plainFits 31 = .ok (.iload_n 0, 1) := by decide +kernel
theorem dX0_plainFits_32 : decode cX0_plainFits 32 = .ok (.iconst 3, 1) := by decide +kernel
theorem dX0_plainFits_33 : decode cX0_plainFits 33 = .ok (.if_icmp .ne 12, 3) := by decide +kernel
theorem dX0_plainFits_36 : decode cX0_plainFits 36 = .ok (.iload_n 1, 1) := by decide +kernel
theorem dX0_plainFits_37 : decode cX0_plainFits 37 = .ok (.iconst 4, 1) := by decide +kernel
theorem dX0_plainFits_38 : decode cX0_plainFits 38 = .ok (.if_icmp .ne 7, 3) := by decide +kernel
theorem dX0_plainFits_41 : decode cX0_plainFits 41 = .ok (.iconst 1, 1) := by decide +kernel
theorem dX0_plainFits_42 : decode cX0_plainFits 42 = .ok (.goto 4, 3) := by decide +kernel
theorem dX0_plainFits_45 : decode cX0_plainFits 45 = .ok (.iconst 0, 1) := by decide +kernel
theorem dX0_plainFits_46 : decode cX0_plainFits 46 = .ok (.ireturn, 1) := by decide +kernel
theorem dX5_branchAfter_0 : decode cX5_branchAfter 0 = .ok (.aload_n 0, 1) := by decide +kernel
theorem dX5_branchAfter_1 : decode cX5_branchAfter 1 = .ok (.iload_n 1, 1) := by decide +kernel
theorem dX5_branchAfter_2 : decode cX5_branchAfter 2 = .ok (.invokevirtual 79, 3) := by decide +kernel
theorem dX5_branchAfter_5 : decode cX5_branchAfter 5 = .ok (.ifCond .eq 12, 3) := by decide +kernel
theorem dX5_branchAfter_8 : decode cX5_branchAfter 8 = .ok (.aload_n 0, 1) := by decide +kernel
theorem dX5_branchAfter_9 : decode cX5_branchAfter 9 = .ok (.getfield 56, 3) := by decide +kernel
theorem dX5_branchAfter_12 : decode cX5_branchAfter 12 = .ok (.iload_n 1, 1) := by decide +kernel
theorem dX5_branchAfter_13 : decode cX5_branchAfter 13 = .ok (.iaload, 1) := by decide +kernel
theorem dX5_branchAfter_14 : decode cX5_branchAfter 14 = .ok (.goto 4, 3) := by decide +kernel
theorem dX5_branchAfter_17 : decode cX5_branchAfter 17 = .ok (.iconst (-1), 1) := by decide +kernel
theorem dX5_branchAfter_18 : decode cX5_branchAfter 18 = .ok (.ireturn, 1) := by decide +kernel
theorem dX5_innerOf_0 : decode cX5_innerOf 0 = .ok (.aload_n 0, 1) := by decide +kernel
theorem dX5_innerOf_1 : decode cX5_innerOf 1 = .ok (.iload_n 1, 1) := by decide +kernel
theorem dX5_innerOf_2 : decode cX5_innerOf 2 = .ok (.invokevirtual 79, 3) := by decide +kernel
theorem dX5_innerOf_5 : decode cX5_innerOf 5 = .ok (.ifCond .eq 12, 3) := by decide +kernel
theorem dX5_innerOf_8 : decode cX5_innerOf 8 = .ok (.aload_n 0, 1) := by decide +kernel
theorem dX5_innerOf_9 : decode cX5_innerOf 9 = .ok (.getfield 53, 3) := by decide +kernel
theorem dX5_innerOf_12 : decode cX5_innerOf 12 = .ok (.iload_n 1, 1) := by decide +kernel
theorem dX5_innerOf_13 : decode cX5_innerOf 13 = .ok (.iaload, 1) := by decide +kernel
theorem dX5_innerOf_14 : decode cX5_innerOf 14 = .ok (.goto 4, 3) := by decide +kernel
theorem dX5_innerOf_17 : decode cX5_innerOf 17 = .ok (.iconst (-1), 1) := by decide +kernel
theorem dX5_innerOf_18 : decode cX5_innerOf 18 = .ok (.ireturn, 1) := by decide +kernel
theorem dX5_isType_0 : decode cX5_isType 0 = .ok (.iload_n 1, 1) := by decide +kernel
theorem dX5_isType_1 : decode cX5_isType 1 = .ok (.ifCond .lt 22, 3) := by decide +kernel
theorem dX5_isType_4 : decode cX5_isType 4 = .ok (.iload_n 1, 1) := by decide +kernel
theorem dX5_isType_5 : decode cX5_isType 5 = .ok (.aload_n 0, 1) := by decide +kernel
theorem dX5_isType_6 : decode cX5_isType 6 = .ok (.getfield 15, 3) := by decide +kernel
theorem dX5_isType_9 : decode cX5_isType 9 = .ok (.if_icmp .ge 14, 3) := by decide +kernel
theorem dX5_isType_12 : decode cX5_isType 12 = .ok (.iload_n 1, 1) := by decide +kernel
theorem dX5_isType_13 : decode cX5_isType 13 = .ok (.sipush 262, 3) := by decide +kernel
theorem dX5_isType_16 : decode cX5_isType 16 = .ok (.if_icmp .ge 7, 3) := by decide +kernel
theorem dX5_isType_19 : decode cX5_isType 19 = .ok (.iconst 1, 1) := by decide +kernel
theorem dX5_isType_20 : decode cX5_isType 20 = .ok (.goto 4, 3) := by decide +kernel
theorem dX5_isType_23 : decode cX5_isType 23 = .ok (.iconst 0, 1) := by decide +kernel
theorem dX5_isType_24 : decode cX5_isType 24 = .ok (.ireturn, 1) := by decide +kernel
theorem dX5_sortOf_0 : decode cX5_sortOf 0 = .ok (.aload_n 0, 1) := by decide +kernel
theorem dX5_sortOf_1 : decode cX5_sortOf 1 = .ok (.iload_n 1, 1) := by decide +kernel
theorem dX5_sortOf_2 : decode cX5_sortOf 2 = .ok (.invokevirtual 79, 3) := by decide +kernel
theorem dX5_sortOf_5 : decode cX5_sortOf 5 = .ok (.ifCond .eq 12, 3) := by decide +kernel
theorem dX5_sortOf_8 : decode cX5_sortOf 8 = .ok (.aload_n 0, 1) := by decide +kernel
theorem dX5_sortOf_9 : decode cX5_sortOf 9 = .ok (.getfield 50, 3) := by decide +kernel
theorem dX5_sortOf_12 : decode cX5_sortOf 12 = .ok (.iload_n 1, 1) := by decide +kernel
theorem dX5_sortOf_13 : decode cX5_sortOf 13 = .ok (.iaload, 1) := by decide +kernel
theorem dX5_sortOf_14 : decode cX5_sortOf 14 = .ok (.goto 4, 3) := by decide +kernel
theorem dX5_sortOf_17 : decode cX5_sortOf 17 = .ok (.iconst (-1), 1) := by decide +kernel
theorem dX5_sortOf_18 : decode cX5_sortOf 18 = .ok (.ireturn, 1) := by decide +kernel
def f_J6_bitCount_0f7a4 (p0 : Int32) (σ : ST) : Option (Int32 × ST) := (some (p0 - (((p0.toUInt32 >>> ((1 : Int32).toUInt32 &&& Int32.toUInt32 31)).toInt32) &&& 1431655765))).bind fun x1 => (some ((x1 &&& 858993459) + (((x1.toUInt32 >>> ((2 : Int32).toUInt32 &&& Int32.toUInt32 31)).toInt32) &&& 858993459))).bind fun x2 => (some ((x2 + ((x2.toUInt32 >>> ((4 : Int32).toUInt32 &&& Int32.toUInt32 31)).toInt32)) &&& 252645135)).bind fun x3 => (some (x3 + ((x3.toUInt32 >>> ((8 : Int32).toUInt32 &&& Int32.toUInt32 31)).toInt32))).bind fun x4 => (some (x4 + ((x4.toUInt32 >>> ((16 : Int32).toUInt32 &&& Int32.toUInt32 31)).toInt32))).bind fun x5 => some ((x5 &&& 63), σ)

set_option maxRecDepth 100000 in
set_option maxHeartbeats 4000000 in
theorem b_J6_bitCount_0f7a4_e {p : Program} {l : Launch} {e : Env} {s : State} {m : MethodId} {args : Array Value} {below : List Frame} {meth : Method} {c : Code} {dC : Nat → ClassId} {dI : Nat → Nat → Nat} {a : Nat → Nat} {k : Nat → ClassId} {A : Nat → Prop} {q : Int32 × ST} (hC : CxA p s m args meth c dC dI k A cJ6_bitCount_0f7a4 RJ6 (some .int) 1)   {p0 : Int32} {σ : ST} (h : f_J6_bitCount_0f7a4  p0 σ = some q) : GoA p l e ({ frames := 0, cells := 0, slots := 0, locals := 0 } : Room) s m args below meth c (MQ below (qAi dC dI a k A q) args s 0 0 A) dC dI a k A 1 0 σ (lv_args 0 [.int p0]) [] := by
  have hC0 := hC
  obtain ⟨hx, hb, hr, hml, hown, hts, hlocks, hA, hN, hK⟩ := hC0
  intro H locs ls hP hD hS hl
  have hD0 : ∀ σ1 : ST, va_D A (wA a k σ1) := fun σ1 => wA_D hD
  replace hl : lv_has ls 1 [(0, .int p0)] := hl
  unfold f_J6_bitCount_0f7a4 at h
  refine lv_iload_n hx hb dJ6_bitCount_0f7a4_0 rfl (lv_at hl 0 rfl) ?_
  refine lv_iload_n hx hb dJ6_bitCount_0f7a4_1 rfl (lv_at hl 0 rfl) ?_
  refine lv_iconst (v := 1) hx hb dJ6_bitCount_0f7a4_2 (by decide) ?_
  refine lv_iushr (v := ((p0.toUInt32 >>> ((1 : Int32).toUInt32 &&& Int32.toUInt32 31)).toInt32)) hx hb dJ6_bitCount_0f7a4_3 rfl ?_
  refine lv_ldcw (v := 1431655765) hx hb hown (hts (.constant RJ6 265 (1431655765)) mw_39_25) dJ6_bitCount_0f7a4_4 ?_
  refine lv_iand hx hb dJ6_bitCount_0f7a4_7 ?_
  refine lv_isub hx hb dJ6_bitCount_0f7a4_8 ?_
  obtain ⟨x1, hs, h⟩ := ib h
  replace hs := Option.some.inj hs
  refine lv_topi (fun y9 e9 => ?_)
  obtain rfl : x1 = y9 := (e9.trans hs).symm
  clear hs e9
  refine lv_istore_n (lv' := [(0, .int x1)]) hx hb dJ6_bitCount_0f7a4_9 rfl hl (by decide) rfl (fun ls hl => ?_)
  refine lv_iload_n hx hb dJ6_bitCount_0f7a4_10 rfl (lv_at hl 0 rfl) ?_
  refine lv_ldcw (v := 858993459) hx hb hown (hts (.constant RJ6 266 (858993459)) mw_39_26) dJ6_bitCount_0f7a4_11 ?_
  refine lv_iand hx hb dJ6_bitCount_0f7a4_14 ?_
  refine lv_iload_n hx hb dJ6_bitCount_0f7a4_15 rfl (lv_at hl 0 rfl) ?_
  refine lv_iconst (v := 2) hx hb dJ6_bitCount_0f7a4_16 (by decide) ?_
  refine lv_iushr (v := ((x1.toUInt32 >>> ((2 : Int32).toUInt32 &&& Int32.toUInt32 31)).toInt32)) hx hb dJ6_bitCount_0f7a4_17 rfl ?_
  refine lv_ldcw (v := 858993459) hx hb hown (hts (.constant RJ6 266 (858993459)) mw_39_26) dJ6_bitCount_0f7a4_18 ?_
  refine lv_iand hx hb dJ6_bitCount_0f7a4_21 ?_
  refine lv_iadd hx hb dJ6_bitCount_0f7a4_22 ?_
  obtain ⟨x2, hs, h⟩ := ib h
  replace hs := Option.some.inj hs
  refine lv_topi (fun y9 e9 => ?_)
  obtain rfl : x2 = y9 := (e9.trans hs).symm
  clear hs e9
  refine lv_istore_n (lv' := [(0, .int x2)]) hx hb dJ6_bitCount_0f7a4_23 rfl hl (by decide) rfl (fun ls hl => ?_)
  refine lv_iload_n hx hb dJ6_bitCount_0f7a4_24 rfl (lv_at hl 0 rfl) ?_
  refine lv_iload_n hx hb dJ6_bitCount_0f7a4_25 rfl (lv_at hl 0 rfl) ?_
  refine lv_iconst (v := 4) hx hb dJ6_bitCount_0f7a4_26 (by decide) ?_
  refine lv_iushr (v := ((x2.toUInt32 >>> ((4 : Int32).toUInt32 &&& Int32.toUInt32 31)).toInt32)) hx hb dJ6_bitCount_0f7a4_27 rfl ?_
  refine lv_iadd hx hb dJ6_bitCount_0f7a4_28 ?_
  refine lv_ldcw (v := 252645135) hx hb hown (hts (.constant RJ6 267 (252645135)) mw_39_27) dJ6_bitCount_0f7a4_29 ?_
  refine lv_iand hx hb dJ6_bitCount_0f7a4_32 ?_
  obtain ⟨x3, hs, h⟩ := ib h
  replace hs := Option.some.inj hs
  refine lv_topi (fun y9 e9 => ?_)
  obtain rfl : x3 = y9 := (e9.trans hs).symm
  clear hs e9
  refine lv_istore_n (lv' := [(0, .int x3)]) hx hb dJ6_bitCount_0f7a4_33 rfl hl (by decide) rfl (fun ls hl => ?_)
  refine lv_iload_n hx hb dJ6_bitCount_0f7a4_34 rfl (lv_at hl 0 rfl) ?_
  refine lv_iload_n hx hb dJ6_bitCount_0f7a4_35 rfl (lv_at hl 0 rfl) ?_
  refine lv_bipush (v := 8) hx hb dJ6_bitCount_0f7a4_36 (by decide) ?_
  refine lv_iushr (v := ((x3.toUInt32 >>> ((8 : Int32).toUInt32 &&& Int32.toUInt32 31)).toInt32)) hx hb dJ6_bitCount_0f7a4_38 rfl ?_
  refine lv_iadd hx hb dJ6_bitCount_0f7a4_39 ?_
  obtain ⟨x4, hs, h⟩ := ib h
  replace hs := Option.some.inj hs
  refine lv_topi (fun y9 e9 => ?_)
  obtain rfl : x4 = y9 := (e9.trans hs).symm
  clear hs e9
  refine lv_istore_n (lv' := [(0, .int x4)]) hx hb dJ6_bitCount_0f7a4_40 rfl hl (by decide) rfl (fun ls hl => ?_)
  refine lv_iload_n hx hb dJ6_bitCount_0f7a4_41 rfl (lv_at hl 0 rfl) ?_
  refine lv_iload_n hx hb dJ6_bitCount_0f7a4_42 rfl (lv_at hl 0 rfl) ?_
  refine lv_bipush (v := 16) hx hb dJ6_bitCount_0f7a4_43 (by decide) ?_
  refine lv_iushr (v := ((x4.toUInt32 >>> ((16 : Int32).toUInt32 &&& Int32.toUInt32 31)).toInt32)) hx hb dJ6_bitCount_0f7a4_45 rfl ?_
  refine lv_iadd hx hb dJ6_bitCount_0f7a4_46 ?_
  obtain ⟨x5, hs, h⟩ := ib h
  replace hs := Option.some.inj hs
  refine lv_topi (fun y9 e9 => ?_)
  obtain rfl : x5 = y9 := (e9.trans hs).symm
  clear hs e9
  refine lv_istore_n (lv' := [(0, .int x5)]) hx hb dJ6_bitCount_0f7a4_47 rfl hl (by decide) rfl (fun ls hl => ?_)
  refine lv_iload_n hx hb dJ6_bitCount_0f7a4_48 rfl (lv_at hl 0 rfl) ?_
  refine lv_bipush (v := 63) hx hb dJ6_bitCount_0f7a4_49 (by decide) ?_
  refine lv_iand hx hb dJ6_bitCount_0f7a4_51 ?_
  obtain rfl := Option.some.inj h
  exact W.iret hx hb hr (fun t ht hW => ⟨⟨_, (), rfl, rfl, ⟨by rw [ht]; exact hP, va_K.moved hW.alike hK, hD⟩⟩, hS.F ht⟩) hS.2.2 dJ6_bitCount_0f7a4_52

theorem s_J6_bitCount_0f7a4 {l : Launch} {dC : Nat → ClassId} {dI : Nat → Nat → Nat} {a : Nat → Nat} {k : Nat → ClassId} {sz : Nat} {p0 : Int32} {σ : ST} {q : Int32 × ST} (h : f_J6_bitCount_0f7a4  p0 σ = some q) : Met l yJ6_bitCount_0f7a4 (.code yJ6_bitCount_0f7a4 cJ6_bitCount_0f7a4 1 (some .int) :: pw) ({ frames := 0, cells := 0, slots := 0, locals := 0 } : Room) (va_Pc [.int p0] (vPre dC dI (wA a k σ) (tA k) sz)) (qAi dC dI a k (va_A (wA a k σ) sz) q) 0 0 (va_A (wA a k σ) sz) := metA (fun A => qAi dC dI a k A q) (plainFor_of_name (by decide)) (Nat.le_of_ble_eq_true rfl) (fun _ _ _ _ _ _ _ _ hC => b_J6_bitCount_0f7a4_e hC h)

def f_J7_fill_53178_5 (u : Nat) : Nat → Int32 → Int32 → Int32 → ST → Option (ST)
  | 0, _, _, _, _ => none
  | n + 1, x1, x2, x3, σ => if x3 ≤ x2 then (some σ) else (if 0 ≤ x2.toInt ∧ x2.toInt < (lnA u : Nat) then (f_J7_fill_53178_5 u n x1 (x2 + 1) x3 (stI σ u x2.toNatClampNeg x1)) else none)
def f_J7_fill_53178 (u : Nat) (p1 : Int32) (σ : ST) : Option (ST) := f_J7_fill_53178_5 u FU p1 0 (nI (lnA u : Nat)) σ

set_option maxRecDepth 100000 in
set_option maxHeartbeats 4000000 in
theorem b_J7_fill_53178_5_10 {p : Program} {l : Launch} {e : Env} {s : State} {m : MethodId} {args : Array Value} {below : List Frame} {meth : Method} {c : Code} {dC : Nat → ClassId} {dI : Nat → Nat → Nat} {a : Nat → Nat} {k : Nat → ClassId} {A : Nat → Prop} {q : ST} (hC : CxA p s m args meth c dC dI k A cJ7_fill_53178 RJ7 none 4)   : ∀ (n : Nat) (x1 : Int32) (x2 : Int32) (x3 : Int32) (σ : ST), f_J7_fill_53178_5 10 n x1 x2 x3 σ = some q → GoA p l e ({ frames := 0, cells := 0, slots := 0, locals := 0 } : Room) s m args below meth c (MQ below (qAv dC dI a k A q) args s 0 0 A) dC dI a k A 4 5 σ [(0, .ref (a 10)), (1, .int x1), (2, .int x2), (3, .int x3)] [] := by
  intro n
  induction n with
  | zero =>
    intro x1 x2 x3 σ h
    rw [f_J7_fill_53178_5] at h
    cases h
  | succ n ih =>
    intro x1 x2 x3 σ h
    have hC0 := hC
    obtain ⟨hx, hb, hr, hml, hown, hts, hlocks, hA, hN, hK⟩ := hC0
    intro H locs ls hP hD hS hl
    have hD0 : ∀ σ1 : ST, va_D A (wA a k σ1) := fun σ1 => wA_D hD
    rw [f_J7_fill_53178_5] at h
    refine lv_iload_n hx hb dJ7_fill_53178_5 rfl (lv_at hl 2 rfl) ?_
    refine lv_iload_n hx hb dJ7_fill_53178_6 rfl (lv_at hl 3 rfl) ?_
    refine lv_icmp_ge (tgt := 20) hx hb dJ7_fill_53178_7 (by decide) (fun hc => ?_) (fun hc => ?_)
    · replace h := ip hc h
      obtain rfl := Option.some.inj h
      exact W.vret hx hb hr (fun t ht hW => ⟨⟨(), rfl, trivial, ⟨by rw [ht]; exact hP, va_K.moved hW.alike hK, hD⟩⟩, hS.F ht⟩) hS.2.2 dJ7_fill_53178_20
    · replace h := iq hc h
      refine lv_aload_n hx hb dJ7_fill_53178_10 rfl (lv_at hl 0 rfl) ?_
      refine lv_iload_n hx hb dJ7_fill_53178_11 rfl (lv_at hl 2 rfl) ?_
      refine lv_iload_n hx hb dJ7_fill_53178_12 rfl (lv_at hl 1 rfl) ?_
      obtain ⟨hg1, h⟩ := ig h
      refine va_iast hx hb hK hP hD hS 10 7 gA_10 yA_10 (vp_in_iff.mpr hg1) dJ7_fill_53178_13 (fun H locs hP hD hS => ?_)
      replace hP := uA_10 hP
      replace hD := hD0 ((stI σ 10 x2.toNatClampNeg x1))
      refine lv_iinc (v := (x2 + 1)) (lv' := [(2, .int (x2 + 1)), (0, .ref (a 10)), (1, .int x1), (3, .int x3)]) hx hb dJ7_fill_53178_14 hl (k := 2) rfl rfl (by decide) rfl (fun ls hl => ?_)
      refine lv_goto (tgt := 5) hx hb dJ7_fill_53178_17 (by decide) ?_
      exact ih _ _ _ _ h _ _ _ hP hD hS (lv_sub hl [1, 2, 0, 3] rfl)

set_option maxRecDepth 100000 in
set_option maxHeartbeats 4000000 in
theorem b_J7_fill_53178_e_10 {p : Program} {l : Launch} {e : Env} {s : State} {m : MethodId} {args : Array Value} {below : List Frame} {meth : Method} {c : Code} {dC : Nat → ClassId} {dI : Nat → Nat → Nat} {a : Nat → Nat} {k : Nat → ClassId} {A : Nat → Prop} {q : ST} (hC : CxA p s m args meth c dC dI k A cJ7_fill_53178 RJ7 none 4)   {p1 : Int32} {σ : ST} (h : f_J7_fill_53178 10 p1 σ = some q) : GoA p l e ({ frames := 0, cells := 0, slots := 0, locals := 0 } : Room) s m args below meth c (MQ below (qAv dC dI a k A q) args s 0 0 A) dC dI a k A 4 0 σ (lv_args 0 [.ref (a 10), .int p1]) [] := by
  have hC0 := hC
  obtain ⟨hx, hb, hr, hml, hown, hts, hlocks, hA, hN, hK⟩ := hC0
  intro H locs ls hP hD hS hl
  have hD0 : ∀ σ1 : ST, va_D A (wA a k σ1) := fun σ1 => wA_D hD
  replace hl : lv_has ls 4 [(0, .ref (a 10)), (1, .int p1)] := hl
  unfold f_J7_fill_53178 at h
  refine lv_iconst (v := 0) hx hb dJ7_fill_53178_0 (by decide) ?_
  refine lv_istore_n (lv' := [(2, .int 0), (0, .ref (a 10)), (1, .int p1)]) hx hb dJ7_fill_53178_1 rfl hl (by decide) rfl (fun ls hl => ?_)
  refine lv_aload_n hx hb dJ7_fill_53178_2 rfl (lv_at hl 1 rfl) ?_
  refine va_alen hx hb hK hP 10 7 gA_10 yA_10 (v := nI 36) rfl dJ7_fill_53178_3 ?_
  refine lv_istore_n (lv' := [(3, .int (nI (lnA 10 : Nat))), (2, .int 0), (0, .ref (a 10)), (1, .int p1)]) hx hb dJ7_fill_53178_4 rfl hl (by decide) rfl (fun ls hl => ?_)
  exact b_J7_fill_53178_5_10 hC FU _ _ _ _ h _ _ _ hP hD hS (lv_sub hl [2, 3, 1, 0] rfl)

theorem s_J7_fill_53178_10 {l : Launch} {dC : Nat → ClassId} {dI : Nat → Nat → Nat} {a : Nat → Nat} {k : Nat → ClassId} {sz : Nat} {p1 : Int32} {σ : ST} {q : ST} (h : f_J7_fill_53178 10 p1 σ = some q) : Met l yJ7_fill_53178 (.code yJ7_fill_53178 cJ7_fill_53178 4 none :: pw) ({ frames := 0, cells := 0, slots := 0, locals := 0 } : Room) (va_Pc [.ref (a 10), .int p1] (vPre dC dI (wA a k σ) (tA k) sz)) (qAv dC dI a k (va_A (wA a k σ) sz) q) 0 0 (va_A (wA a k σ) sz) := metA (fun A => qAv dC dI a k A q) (plainFor_of_name (by decide)) (Nat.le_of_ble_eq_true rfl) (fun _ _ _ _ _ _ _ _ hC => b_J7_fill_53178_e_10 hC h)

set_option maxRecDepth 100000 in
set_option maxHeartbeats 4000000 in
theorem b_J7_fill_53178_5_40 {p : Program} {l : Launch} {e : Env} {s : State} {m : MethodId} {args : Array Value} {below : List Frame} {meth : Method} {c : Code} {dC : Nat → ClassId} {dI : Nat → Nat → Nat} {a : Nat → Nat} {k : Nat → ClassId} {A : Nat → Prop} {q : ST} (hC : CxA p s m args meth c dC dI k A cJ7_fill_53178 RJ7 none 4)   : ∀ (n : Nat) (x1 : Int32) (x2 : Int32) (x3 : Int32) (σ : ST), f_J7_fill_53178_5 40 n x1 x2 x3 σ = some q → GoA p l e ({ frames := 0, cells := 0, slots := 0, locals := 0 } : Room) s m args below meth c (MQ below (qAv dC dI a k A q) args s 0 0 A) dC dI a k A 4 5 σ [(0, .ref (a 40)), (1, .int x1), (2, .int x2), (3, .int x3)] [] := by
  intro n
  induction n with
  | zero =>
    intro x1 x2 x3 σ h
    rw [f_J7_fill_53178_5] at h
    cases h
  | succ n ih =>
    intro x1 x2 x3 σ h
    have hC0 := hC
    obtain ⟨hx, hb, hr, hml, hown, hts, hlocks, hA, hN, hK⟩ := hC0
    intro H locs ls hP hD hS hl
    have hD0 : ∀ σ1 : ST, va_D A (wA a k σ1) := fun σ1 => wA_D hD
    rw [f_J7_fill_53178_5] at h
    refine lv_iload_n hx hb dJ7_fill_53178_5 rfl (lv_at hl 2 rfl) ?_
    refine lv_iload_n hx hb dJ7_fill_53178_6 rfl (lv_at hl 3 rfl) ?_
    refine lv_icmp_ge (tgt := 20) hx hb dJ7_fill_53178_7 (by decide) (fun hc => ?_) (fun hc => ?_)
    · replace h := ip hc h
      obtain rfl := Option.some.inj h
      exact W.vret hx hb hr (fun t ht hW => ⟨⟨(), rfl, trivial, ⟨by rw [ht]; exact hP, va_K.moved hW.alike hK, hD⟩⟩, hS.F ht⟩) hS.2.2 dJ7_fill_53178_20
    · replace h := iq hc h
      refine lv_aload_n hx hb dJ7_fill_53178_10 rfl (lv_at hl 0 rfl) ?_
      refine lv_iload_n hx hb dJ7_fill_53178_11 rfl (lv_at hl 2 rfl) ?_
      refine lv_iload_n hx hb dJ7_fill_53178_12 rfl (lv_at hl 1 rfl) ?_
      obtain ⟨hg1, h⟩ := ig h
      refine va_iast hx hb hK hP hD hS 40 34 gA_40 yA_40 (vp_in_iff.mpr hg1) dJ7_fill_53178_13 (fun H locs hP hD hS => ?_)
      replace hP := uA_40 hP
      replace hD := hD0 ((stI σ 40 x2.toNatClampNeg x1))
      refine lv_iinc (v := (x2 + 1)) (lv' := [(2, .int (x2 + 1)), (0, .ref (a 40)), (1, .int x1), (3, .int x3)]) hx hb dJ7_fill_53178_14 hl (k := 2) rfl rfl (by decide) rfl (fun ls hl => ?_)
      refine lv_goto (tgt := 5) hx hb dJ7_fill_53178_17 (by decide) ?_
      exact ih _ _ _ _ h _ _ _ hP hD hS (lv_sub hl [1, 2, 0, 3] rfl)

set_option maxRecDepth 100000 in
set_option maxHeartbeats 4000000 in
theorem b_J7_fill_53178_e_40 {p : Program} {l : Launch} {e : Env} {s : State} {m : MethodId} {args : Array Value} {below : List Frame} {meth : Method} {c : Code} {dC : Nat → ClassId} {dI : Nat → Nat → Nat} {a : Nat → Nat} {k : Nat → ClassId} {A : Nat → Prop} {q : ST} (hC : CxA p s m args meth c dC dI k A cJ7_fill_53178 RJ7 none 4)   {p1 : Int32} {σ : ST} (h : f_J7_fill_53178 40 p1 σ = some q) : GoA p l e ({ frames := 0, cells := 0, slots := 0, locals := 0 } : Room) s m args below meth c (MQ below (qAv dC dI a k A q) args s 0 0 A) dC dI a k A 4 0 σ (lv_args 0 [.ref (a 40), .int p1]) [] := by
  have hC0 := hC
  obtain ⟨hx, hb, hr, hml, hown, hts, hlocks, hA, hN, hK⟩ := hC0
  intro H locs ls hP hD hS hl
  have hD0 : ∀ σ1 : ST, va_D A (wA a k σ1) := fun σ1 => wA_D hD
  replace hl : lv_has ls 4 [(0, .ref (a 40)), (1, .int p1)] := hl
  unfold f_J7_fill_53178 at h
  refine lv_iconst (v := 0) hx hb dJ7_fill_53178_0 (by decide) ?_
  refine lv_istore_n (lv' := [(2, .int 0), (0, .ref (a 40)), (1, .int p1)]) hx hb dJ7_fill_53178_1 rfl hl (by decide) rfl (fun ls hl => ?_)
  refine lv_aload_n hx hb dJ7_fill_53178_2 rfl (lv_at hl 1 rfl) ?_
  refine va_alen hx hb hK hP 40 34 gA_40 yA_40 (v := nI 4) rfl dJ7_fill_53178_3 ?_
  refine lv_istore_n (lv' := [(3, .int (nI (lnA 40 : Nat))), (2, .int 0), (0, .ref (a 40)), (1, .int p1)]) hx hb dJ7_fill_53178_4 rfl hl (by decide) rfl (fun ls hl => ?_)
  exact b_J7_fill_53178_5_40 hC FU _ _ _ _ h _ _ _ hP hD hS (lv_sub hl [2, 3, 1, 0] rfl)

theorem s_J7_fill_53178_40 {l : Launch} {dC : Nat → ClassId} {dI : Nat → Nat → Nat} {a : Nat → Nat} {k : Nat → ClassId} {sz : Nat} {p1 : Int32} {σ : ST} {q : ST} (h : f_J7_fill_53178 40 p1 σ = some q) : Met l yJ7_fill_53178 (.code yJ7_fill_53178 cJ7_fill_53178 4 none :: pw) ({ frames := 0, cells := 0, slots := 0, locals := 0 } : Room) (va_Pc [.ref (a 40), .int p1] (vPre dC dI (wA a k σ) (tA k) sz)) (qAv dC dI a k (va_A (wA a k σ) sz) q) 0 0 (va_A (wA a k σ) sz) := metA (fun A => qAv dC dI a k A q) (plainFor_of_name (by decide)) (Nat.le_of_ble_eq_true rfl) (fun _ _ _ _ _ _ _ _ hC => b_J7_fill_53178_e_40 hC h)

set_option maxRecDepth 100000 in
set_option maxHeartbeats 4000000 in
theorem b_J7_fill_53178_5_43 {p : Program} {l : Launch} {e : Env} {s : State} {m : MethodId} {args : Array Value} {below : List Frame} {meth : Method} {c : Code} {dC : Nat → ClassId} {dI : Nat → Nat → Nat} {a : Nat → Nat} {k : Nat → ClassId} {A : Nat → Prop} {q : ST} (hC : CxA p s m args meth c dC dI k A cJ7_fill_53178 RJ7 none 4)   : ∀ (n : Nat) (x1 : Int32) (x2 : Int32) (x3 : Int32) (σ : ST), f_J7_fill_53178_5 43 n x1 x2 x3 σ = some q → GoA p l e ({ frames := 0, cells := 0, slots := 0, locals := 0 } : Room) s m args below meth c (MQ below (qAv dC dI a k A q) args s 0 0 A) dC dI a k A 4 5 σ [(0, .ref (a 43)), (1, .int x1), (2, .int x2), (3, .int x3)] [] := by
  intro n
  induction n with
  | zero =>
    intro x1 x2 x3 σ h
    rw [f_J7_fill_53178_5] at h
    cases h
  | succ n ih =>
    intro x1 x2 x3 σ h
    have hC0 := hC
    obtain ⟨hx, hb, hr, hml, hown, hts, hlocks, hA, hN, hK⟩ := hC0
    intro H locs ls hP hD hS hl
    have hD0 : ∀ σ1 : ST, va_D A (wA a k σ1) := fun σ1 => wA_D hD
    rw [f_J7_fill_53178_5] at h
    refine lv_iload_n hx hb dJ7_fill_53178_5 rfl (lv_at hl 2 rfl) ?_
    refine lv_iload_n hx hb dJ7_fill_53178_6 rfl (lv_at hl 3 rfl) ?_
    refine lv_icmp_ge (tgt := 20) hx hb dJ7_fill_53178_7 (by decide) (fun hc => ?_) (fun hc => ?_)
    · replace h := ip hc h
      obtain rfl := Option.some.inj h
      exact W.vret hx hb hr (fun t ht hW => ⟨⟨(), rfl, trivial, ⟨by rw [ht]; exact hP, va_K.moved hW.alike hK, hD⟩⟩, hS.F ht⟩) hS.2.2 dJ7_fill_53178_20
    · replace h := iq hc h
      refine lv_aload_n hx hb dJ7_fill_53178_10 rfl (lv_at hl 0 rfl) ?_
      refine lv_iload_n hx hb dJ7_fill_53178_11 rfl (lv_at hl 2 rfl) ?_
      refine lv_iload_n hx hb dJ7_fill_53178_12 rfl (lv_at hl 1 rfl) ?_
      obtain ⟨hg1, h⟩ := ig h
      refine va_iast hx hb hK hP hD hS 43 36 gA_43 yA_43 (vp_in_iff.mpr hg1) dJ7_fill_53178_13 (fun H locs hP hD hS => ?_)
      replace hP := uA_43 hP
      replace hD := hD0 ((stI σ 43 x2.toNatClampNeg x1))
      refine lv_iinc (v := (x2 + 1)) (lv' := [(2, .int (x2 + 1)), (0, .ref (a 43)), (1, .int x1), (3, .int x3)]) hx hb dJ7_fill_53178_14 hl (k := 2) rfl rfl (by decide) rfl (fun ls hl => ?_)
      refine lv_goto (tgt := 5) hx hb dJ7_fill_53178_17 (by decide) ?_
      exact ih _ _ _ _ h _ _ _ hP hD hS (lv_sub hl [1, 2, 0, 3] rfl)

set_option maxRecDepth 100000 in
set_option maxHeartbeats 4000000 in
theorem b_J7_fill_53178_e_43 {p : Program} {l : Launch} {e : Env} {s : State} {m : MethodId} {args : Array Value} {below : List Frame} {meth : Method} {c : Code} {dC : Nat → ClassId} {dI : Nat → Nat → Nat} {a : Nat → Nat} {k : Nat → ClassId} {A : Nat → Prop} {q : ST} (hC : CxA p s m args meth c dC dI k A cJ7_fill_53178 RJ7 none 4)   {p1 : Int32} {σ : ST} (h : f_J7_fill_53178 43 p1 σ = some q) : GoA p l e ({ frames := 0, cells := 0, slots := 0, locals := 0 } : Room) s m args below meth c (MQ below (qAv dC dI a k A q) args s 0 0 A) dC dI a k A 4 0 σ (lv_args 0 [.ref (a 43), .int p1]) [] := by
  have hC0 := hC
  obtain ⟨hx, hb, hr, hml, hown, hts, hlocks, hA, hN, hK⟩ := hC0
  intro H locs ls hP hD hS hl
  have hD0 : ∀ σ1 : ST, va_D A (wA a k σ1) := fun σ1 => wA_D hD
  replace hl : lv_has ls 4 [(0, .ref (a 43)), (1, .int p1)] := hl
  unfold f_J7_fill_53178 at h
  refine lv_iconst (v := 0) hx hb dJ7_fill_53178_0 (by decide) ?_
  refine lv_istore_n (lv' := [(2, .int 0), (0, .ref (a 43)), (1, .int p1)]) hx hb dJ7_fill_53178_1 rfl hl (by decide) rfl (fun ls hl => ?_)
  refine lv_aload_n hx hb dJ7_fill_53178_2 rfl (lv_at hl 1 rfl) ?_
  refine va_alen hx hb hK hP 43 36 gA_43 yA_43 (v := nI 36) rfl dJ7_fill_53178_3 ?_
  refine lv_istore_n (lv' := [(3, .int (nI (lnA 43 : Nat))), (2, .int 0), (0, .ref (a 43)), (1, .int p1)]) hx hb dJ7_fill_53178_4 rfl hl (by decide) rfl (fun ls hl => ?_)
  exact b_J7_fill_53178_5_43 hC FU _ _ _ _ h _ _ _ hP hD hS (lv_sub hl [2, 3, 1, 0] rfl)

theorem s_J7_fill_53178_43 {l : Launch} {dC : Nat → ClassId} {dI : Nat → Nat → Nat} {a : Nat → Nat} {k : Nat → ClassId} {sz : Nat} {p1 : Int32} {σ : ST} {q : ST} (h : f_J7_fill_53178 43 p1 σ = some q) : Met l yJ7_fill_53178 (.code yJ7_fill_53178 cJ7_fill_53178 4 none :: pw) ({ frames := 0, cells := 0, slots := 0, locals := 0 } : Room) (va_Pc [.ref (a 43), .int p1] (vPre dC dI (wA a k σ) (tA k) sz)) (qAv dC dI a k (va_A (wA a k σ) sz) q) 0 0 (va_A (wA a k σ) sz) := metA (fun A => qAv dC dI a k A q) (plainFor_of_name (by decide)) (Nat.le_of_ble_eq_true rfl) (fun _ _ _ _ _ _ _ _ hC => b_J7_fill_53178_e_43 hC h)

def f_J9_floorMod_7cf53 (p0 : Int32) (p1 : Int32) (σ : ST) : Option (Int32 × ST) := if ¬ p1 = 0 then (if 0 ≤ (p0 ^^^ p1) then (some ((p0 - p0 / p1 * p1), σ)) else (if (p0 - p0 / p1 * p1) = 0 then (some ((p0 - p0 / p1 * p1), σ)) else (some (((p0 - p0 / p1 * p1) + p1), σ)))) else none

set_option maxRecDepth 100000 in
set_option maxHeartbeats 4000000 in
theorem b_J9_floorMod_7cf53_e {p : Program} {l : Launch} {e : Env} {s : State} {m : MethodId} {args : Array Value} {below : List Frame} {meth : Method} {c : Code} {dC : Nat → ClassId} {dI : Nat → Nat → Nat} {a : Nat → Nat} {k : Nat → ClassId} {A : Nat → Prop} {q : Int32 × ST} (hC : CxA p s m args meth c dC dI k A cJ9_floorMod_7cf53 RJ9 (some .int) 3)   {p0 : Int32} {p1 : Int32} {σ : ST} (h : f_J9_floorMod_7cf53  p0 p1 σ = some q) : GoA p l e ({ frames := 0, cells := 0, slots := 0, locals := 0 } : Room) s m args below meth c (MQ below (qAi dC dI a k A q) args s 0 0 A) dC dI a k A 3 0 σ (lv_args 0 [.int p0, .int p1]) [] := by
  have hC0 := hC
  obtain ⟨hx, hb, hr, hml, hown, hts, hlocks, hA, hN, hK⟩ := hC0
  intro H locs ls hP hD hS hl
  have hD0 : ∀ σ1 : ST, va_D A (wA a k σ1) := fun σ1 => wA_D hD
  replace hl : lv_has ls 3 [(0, .int p0), (1, .int p1)] := hl
  unfold f_J9_floorMod_7cf53 at h
  refine lv_iload_n hx hb dJ9_floorMod_7cf53_0 rfl (lv_at hl 0 rfl) ?_
  refine lv_iload_n hx hb dJ9_floorMod_7cf53_1 rfl (lv_at hl 1 rfl) ?_
  obtain ⟨hg1, h⟩ := ig h
  refine lv_irem hx hb dJ9_floorMod_7cf53_2 hg1 ?_
  refine lv_istore_n (lv' := [(2, .int (p0 - p0 / p1 * p1)), (0, .int p0), (1, .int p1)]) hx hb dJ9_floorMod_7cf53_3 rfl hl (by decide) rfl (fun ls hl => ?_)
  refine lv_iload_n hx hb dJ9_floorMod_7cf53_4 rfl (lv_at hl 1 rfl) ?_
  refine lv_iload_n hx hb dJ9_floorMod_7cf53_5 rfl (lv_at hl 2 rfl) ?_
  refine lv_ixor hx hb dJ9_floorMod_7cf53_6 ?_
  refine lv_if_ge (tgt := 18) hx hb dJ9_floorMod_7cf53_7 (by decide) (fun hc => ?_) (fun hc => ?_)
  · replace h := ip hc h
    refine lv_iload_n hx hb dJ9_floorMod_7cf53_18 rfl (lv_at hl 0 rfl) ?_
    obtain rfl := Option.some.inj h
    exact W.iret hx hb hr (fun t ht hW => ⟨⟨_, (), rfl, rfl, ⟨by rw [ht]; exact hP, va_K.moved hW.alike hK, hD⟩⟩, hS.F ht⟩) hS.2.2 dJ9_floorMod_7cf53_19
  · replace h := iq hc h
    refine lv_iload_n hx hb dJ9_floorMod_7cf53_10 rfl (lv_at hl 0 rfl) ?_
    refine lv_if_eq (tgt := 18) hx hb dJ9_floorMod_7cf53_11 (by decide) (fun hc => ?_) (fun hc => ?_)
    · replace h := ip hc h
      refine lv_iload_n hx hb dJ9_floorMod_7cf53_18 rfl (lv_at hl 0 rfl) ?_
      obtain rfl := Option.some.inj h
      exact W.iret hx hb hr (fun t ht hW => ⟨⟨_, (), rfl, rfl, ⟨by rw [ht]; exact hP, va_K.moved hW.alike hK, hD⟩⟩, hS.F ht⟩) hS.2.2 dJ9_floorMod_7cf53_19
    · replace h := iq hc h
      refine lv_iload_n hx hb dJ9_floorMod_7cf53_14 rfl (lv_at hl 0 rfl) ?_
      refine lv_iload_n hx hb dJ9_floorMod_7cf53_15 rfl (lv_at hl 2 rfl) ?_
      refine lv_iadd hx hb dJ9_floorMod_7cf53_16 ?_
      obtain rfl := Option.some.inj h
      exact W.iret hx hb hr (fun t ht hW => ⟨⟨_, (), rfl, rfl, ⟨by rw [ht]; exact hP, va_K.moved hW.alike hK, hD⟩⟩, hS.F ht⟩) hS.2.2 dJ9_floorMod_7cf53_17

theorem s_J9_floorMod_7cf53 {l : Launch} {dC : Nat → ClassId} {dI : Nat → Nat → Nat} {a : Nat → Nat} {k : Nat → ClassId} {sz : Nat} {p0 : Int32} {p1 : Int32} {σ : ST} {q : Int32 × ST} (h : f_J9_floorMod_7cf53  p0 p1 σ = some q) : Met l yJ9_floorMod_7cf53 (.code yJ9_floorMod_7cf53 cJ9_floorMod_7cf53 3 (some .int) :: pw) ({ frames := 0, cells := 0, slots := 0, locals := 0 } : Room) (va_Pc [.int p0, .int p1] (vPre dC dI (wA a k σ) (tA k) sz)) (qAi dC dI a k (va_A (wA a k σ) sz) q) 0 0 (va_A (wA a k σ) sz) := metA (fun A => qAi dC dI a k A q) (by decide +kernel) (Nat.le_of_ble_eq_true rfl) (fun _ _ _ _ _ _ _ _ hC => b_J9_floorMod_7cf53_e hC h)

def f_X0_addMiss (p0 : Int32) (σ : ST) : Option (ST) := if (σ.1 41 6) < 0 then (some σ) else (if 20 ≤ (σ.1 41 6) then (some σ) else (if (σ.1 41 11) < 0 then (some σ) else (if (σ.1 41 11) ≤ 32 then (if 0 ≤ (σ.1 41 6).toInt ∧ (σ.1 41 6).toInt < 20 then (if 0 ≤ ((stI σ 44 (σ.1 41 6).toNatClampNeg p0).1 41 6).toInt ∧ ((stI σ 44 (σ.1 41 6).toNatClampNeg p0).1 41 6).toInt < 20 then ((some (stI (stI σ 44 (σ.1 41 6).toNatClampNeg p0) 45 ((stI σ 44 (σ.1 41 6).toNatClampNeg p0).1 41 6).toNatClampNeg ((stI σ 44 (σ.1 41 6).toNatClampNeg p0).1 41 11))).bind fun z3 => if ¬ (0 : Int32) < 0 ∧ ¬ ((z3.1 41 6) * 32) < 0 ∧ ¬ (z3.1 41 11) < 0 ∧ (0 : Int32).toNatClampNeg + (z3.1 41 11).toNatClampNeg ≤ 32 ∧ ((z3.1 41 6) * 32).toNatClampNeg + (z3.1 41 11).toNatClampNeg ≤ 640 then ((some (stF z3 46 (va_cpy (z3.1 47) (z3.1 46) (0 : Int32).toNatClampNeg ((z3.1 41 6) * 32).toNatClampNeg (z3.1 41 11).toNatClampNeg))).bind fun z4 => some (stI z4 41 6 ((z4.1 41 6) + 1))) else none) else none) else none) else (some σ))))

set_option maxRecDepth 100000 in
set_option maxHeartbeats 4000000 in
theorem b_X0_addMiss_e {p : Program} {l : Launch} {e : Env} {s : State} {m : MethodId} {args : Array Value} {below : List Frame} {meth : Method} {c : Code} {dC : Nat → ClassId} {dI : Nat → Nat → Nat} {a : Nat → Nat} {k : Nat → ClassId} {A : Nat → Prop} {q : ST} (hC : CxA p s m args meth c dC dI k A cX0_addMiss RX0 none 2)   {p0 : Int32} {σ : ST} (h : f_X0_addMiss  p0 σ = some q) : GoA p l e ({ frames := 1, cells := 0, slots := 0, locals := 30 } : Room) s m args below meth c (MQ below (qAv dC dI a k A q) args s 0 0 A) dC dI a k A 2 0 σ (lv_args 0 [.ref (a 41), .int p0]) [] := by
  have hC0 := hC
  obtain ⟨hx, hb, hr, hml, hown, hts, hlocks, hA, hN, hK⟩ := hC0
  intro H locs ls hP hD hS hl
  have hD0 : ∀ σ1 : ST, va_D A (wA a k σ1) := fun σ1 => wA_D hD
  replace hl : lv_has ls 2 [(0, .ref (a 41)), (1, .int p0)] := hl
  unfold f_X0_addMiss at h
  refine lv_aload_n hx hb dX0_addMiss_0 rfl (lv_at hl 0 rfl) ?_
  refine va_get (D := (dC, dI)) (ci := 0) (C := RX0) (T := TX0) (N := 13) hx hb hts inlX0 hown hK hP 41 gA_41 rfl 6 (by decide) (hts (.fieldLink RX0 30 "ShapeReader$Matcher" "missCount" "I") mw_0_23) (fun _ h9 => h9) rfl dX0_addMiss_1 ?_
  refine lv_if_lt (tgt := 32) hx hb dX0_addMiss_4 (by decide) (fun hc => ?_) (fun hc => ?_)
  · replace h := ip hc h
    obtain rfl := Option.some.inj h
    exact W.vret hx hb hr (fun t ht hW => ⟨⟨(), rfl, trivial, ⟨by rw [ht]; exact hP, va_K.moved hW.alike hK, hD⟩⟩, hS.F ht⟩) hS.2.2 dX0_addMiss_32
  · replace h := iq hc h
    refine lv_aload_n hx hb dX0_addMiss_7 rfl (lv_at hl 0 rfl) ?_
    refine va_get (D := (dC, dI)) (ci := 0) (C := RX0) (T := TX0) (N := 13) hx hb hts inlX0 hown hK hP 41 gA_41 rfl 6 (by decide) (hts (.fieldLink RX0 30 "ShapeReader$Matcher" "missCount" "I") mw_0_23) (fun _ h9 => h9) rfl dX0_addMiss_8 ?_
    refine lv_bipush (v := 20) hx hb dX0_addMiss_11 (by decide) ?_
    refine lv_icmp_ge (tgt := 32) hx hb dX0_addMiss_13 (by decide) (fun hc => ?_) (fun hc => ?_)
    · replace h := ip hc h
      obtain rfl := Option.some.inj h
      exact W.vret hx hb hr (fun t ht hW => ⟨⟨(), rfl, trivial, ⟨by rw [ht]; exact hP, va_K.moved hW.alike hK, hD⟩⟩, hS.F ht⟩) hS.2.2 dX0_addMiss_32
    · replace h := iq hc h
      refine lv_aload_n hx hb dX0_addMiss_16 rfl (lv_at hl 0 rfl) ?_
      refine va_get (D := (dC, dI)) (ci := 0) (C := RX0) (T := TX0) (N := 13) hx hb hts inlX0 hown hK hP 41 gA_41 rfl 11 (by decide) (hts (.fieldLink RX0 45 "ShapeReader$Matcher" "steps" "I") mw_0_28) (fun _ h9 => h9) rfl dX0_addMiss_17 ?_
      refine lv_if_lt (tgt := 32) hx hb dX0_addMiss_20 (by decide) (fun hc => ?_) (fun hc => ?_)
      · replace h := ip hc h
        obtain rfl := Option.some.inj h
        exact W.vret hx hb hr (fun t ht hW => ⟨⟨(), rfl, trivial, ⟨by rw [ht]; exact hP, va_K.moved hW.alike hK, hD⟩⟩, hS.F ht⟩) hS.2.2 dX0_addMiss_32
      · replace h := iq hc h
        refine lv_aload_n hx hb dX0_addMiss_23 rfl (lv_at hl 0 rfl) ?_
        refine va_get (D := (dC, dI)) (ci := 0) (C := RX0) (T := TX0) (N := 13) hx hb hts inlX0 hown hK hP 41 gA_41 rfl 11 (by decide) (hts (.fieldLink RX0 45 "ShapeReader$Matcher" "steps" "I") mw_0_28) (fun _ h9 => h9) rfl dX0_addMiss_24 ?_
        refine lv_bipush (v := 32) hx hb dX0_addMiss_27 (by decide) ?_
        refine lv_icmp_le (tgt := 33) hx hb dX0_addMiss_29 (by decide) (fun hc => ?_) (fun hc => ?_)
        · replace h := ip hc h
          refine lv_aload_n hx hb dX0_addMiss_33 rfl (lv_at hl 0 rfl) ?_
          refine va_get (D := (dC, dI)) (ci := 0) (C := RX0) (T := TX0) (N := 13) hx hb hts inlX0 hown hK hP 41 gA_41 rfl 7 (by decide) (hts (.fieldLink RX0 33 "ShapeReader$Matcher" "missKinds" "[I") mw_0_24) (fun _ h9 => h9) rfl dX0_addMiss_34 ?_
          refine lv_aload_n hx hb dX0_addMiss_37 rfl (lv_at hl 0 rfl) ?_
          refine va_get (D := (dC, dI)) (ci := 0) (C := RX0) (T := TX0) (N := 13) hx hb hts inlX0 hown hK hP 41 gA_41 rfl 6 (by decide) (hts (.fieldLink RX0 30 "ShapeReader$Matcher" "missCount" "I") mw_0_23) (fun _ h9 => h9) rfl dX0_addMiss_38 ?_
          refine lv_iload_n hx hb dX0_addMiss_41 rfl (lv_at hl 1 rfl) ?_
          obtain ⟨hg1, h⟩ := ig h
          refine va_iast hx hb hK hP hD hS 44 37 gA_44 yA_44 (vp_in_iff.mpr hg1) dX0_addMiss_42 (fun H locs hP hD hS => ?_)
          replace hP := uA_44 hP
          replace hD := hD0 ((stI σ 44 (σ.1 41 6).toNatClampNeg p0))
          refine lv_aload_n hx hb dX0_addMiss_43 rfl (lv_at hl 0 rfl) ?_
          refine va_get (D := (dC, dI)) (ci := 0) (C := RX0) (T := TX0) (N := 13) hx hb hts inlX0 hown hK hP 41 gA_41 rfl 8 (by decide) (hts (.fieldLink RX0 36 "ShapeReader$Matcher" "missSizes" "[I") mw_0_25) (fun _ h9 => h9) rfl dX0_addMiss_44 ?_
          refine lv_aload_n hx hb dX0_addMiss_47 rfl (lv_at hl 0 rfl) ?_
          refine va_get (D := (dC, dI)) (ci := 0) (C := RX0) (T := TX0) (N := 13) hx hb hts inlX0 hown hK hP 41 gA_41 rfl 6 (by decide) (hts (.fieldLink RX0 30 "ShapeReader$Matcher" "missCount" "I") mw_0_23) (fun _ h9 => h9) rfl dX0_addMiss_48 ?_
          refine lv_aload_n hx hb dX0_addMiss_51 rfl (lv_at hl 0 rfl) ?_
          refine va_get (D := (dC, dI)) (ci := 0) (C := RX0) (T := TX0) (N := 13) hx hb hts inlX0 hown hK hP 41 gA_41 rfl 11 (by decide) (hts (.fieldLink RX0 45 "ShapeReader$Matcher" "steps" "I") mw_0_28) (fun _ h9 => h9) rfl dX0_addMiss_52 ?_
          obtain ⟨hg2, h⟩ := ig h
          refine va_iast hx hb hK hP hD hS 45 38 gA_45 yA_45 (vp_in_iff.mpr hg2) dX0_addMiss_55 (fun H locs hP hD hS => ?_)
          replace hP := uA_45 hP
          replace hD := hD0 ((stI (stI σ 44 (σ.1 41 6).toNatClampNeg p0) 45 ((stI σ 44 (σ.1 41 6).toNatClampNeg p0).1 41 6).toNatClampNeg ((stI σ 44 (σ.1 41 6).toNatClampNeg p0).1 41 11)))
          obtain ⟨z3, hs, h⟩ := ib h
          replace hs := Option.some.inj hs
          replace hP : va_P (dC, dI) vwCl (wA a k z3) H := by rw [← hs]; exact hP
          replace hD := hD0 z3
          clear hs
          refine lv_aload_n hx hb dX0_addMiss_56 rfl (lv_at hl 0 rfl) ?_
          refine va_get (D := (dC, dI)) (ci := 0) (C := RX0) (T := TX0) (N := 13) hx hb hts inlX0 hown hK hP 41 gA_41 rfl 10 (by decide) (hts (.fieldLink RX0 42 "ShapeReader$Matcher" "path" "[I") mw_0_27) (fun _ h9 => h9) rfl dX0_addMiss_57 ?_
          refine lv_iconst (v := 0) hx hb dX0_addMiss_60 (by decide) ?_
          refine lv_aload_n hx hb dX0_addMiss_61 rfl (lv_at hl 0 rfl) ?_
          refine va_get (D := (dC, dI)) (ci := 0) (C := RX0) (T := TX0) (N := 13) hx hb hts inlX0 hown hK hP 41 gA_41 rfl 9 (by decide) (hts (.fieldLink RX0 39 "ShapeReader$Matcher" "missPaths" "[I") mw_0_26) (fun _ h9 => h9) rfl dX0_addMiss_62 ?_
          refine lv_aload_n hx hb dX0_addMiss_65 rfl (lv_at hl 0 rfl) ?_
          refine va_get (D := (dC, dI)) (ci := 0) (C := RX0) (T := TX0) (N := 13) hx hb hts inlX0 hown hK hP 41 gA_41 rfl 6 (by decide) (hts (.fieldLink RX0 30 "ShapeReader$Matcher" "missCount" "I") mw_0_23) (fun _ h9 => h9) rfl dX0_addMiss_66 ?_
          refine lv_bipush (v := 32) hx hb dX0_addMiss_69 (by decide) ?_
          refine lv_imul hx hb dX0_addMiss_71 ?_
          refine lv_aload_n hx hb dX0_addMiss_72 rfl (lv_at hl 0 rfl) ?_
          refine va_get (D := (dC, dI)) (ci := 0) (C := RX0) (T := TX0) (N := 13) hx hb hts inlX0 hown hK hP 41 gA_41 rfl 11 (by decide) (hts (.fieldLink RX0 45 "ShapeReader$Matcher" "steps" "I") mw_0_28) (fun _ h9 => h9) rfl dX0_addMiss_73 ?_
          obtain ⟨hg, h⟩ := ig h
          refine va_copyi hx hb (hml.trans hl.1.symm) hown (hts (.methodLink RX0 165 arraycopyName) mw_3_29) (hts (.native arraycopyName) mw_4_0) (hts (.static arraycopyName) mw_4_1) (hts (.initialized "java/lang/System") mw_4_2) hK hP hD hS 47 46 40 39 gA_47 gA_46 yA_47 yA_46 rfl hg.1 hg.2.1 hg.2.2.1 hg.2.2.2.1 hg.2.2.2.2 (fun _ _ => rfl) (Nat.le_of_ble_eq_true rfl) (Nat.le_of_ble_eq_true rfl) dX0_addMiss_76 (fun H locs hP hD hS => ?_)
          replace hP := vA_46 hP
          obtain ⟨z4, hs, h⟩ := ib h
          replace hs := Option.some.inj hs
          replace hP : va_P (dC, dI) vwCl (wA a k z4) H := by rw [← hs]; exact hP
          replace hD := hD0 z4
          clear hs
          refine lv_aload_n hx hb dX0_addMiss_79 rfl (lv_at hl 0 rfl) ?_
          refine lv_dup hx hb dX0_addMiss_80 rfl ?_
          refine va_get (D := (dC, dI)) (ci := 0) (C := RX0) (T := TX0) (N := 13) hx hb hts inlX0 hown hK hP 41 gA_41 rfl 6 (by decide) (hts (.fieldLink RX0 30 "ShapeReader$Matcher" "missCount" "I") mw_0_23) (fun _ h9 => h9) rfl dX0_addMiss_81 ?_
          refine lv_iconst (v := 1) hx hb dX0_addMiss_84 (by decide) ?_
          refine lv_iadd hx hb dX0_addMiss_85 ?_
          refine va_put (D := (dC, dI)) (ci := 0) (ty := .int) (C := RX0) (T := TX0) (N := 13) hx hb hts inlX0 tyX0 tyX0_ok nmX0 hown hK hP hD hS 41 gA_41 rfl 6 (by decide) (hts (.fieldLink RX0 30 "ShapeReader$Matcher" "missCount" "I") mw_0_23) (fun _ h9 => h9) rfl (by decide +kernel) rfl rfl (Nat.le_of_ble_eq_true rfl) dX0_addMiss_86 (fun H locs hP hD hS => ?_)
          replace hP := uA_41_6 hP
          replace hD := hD0 ((stI z4 41 6 ((z4.1 41 6) + 1)))
          obtain rfl := Option.some.inj h
          exact W.vret hx hb hr (fun t ht hW => ⟨⟨(), rfl, trivial, ⟨by rw [ht]; exact hP, va_K.moved hW.alike hK, hD⟩⟩, hS.F ht⟩) hS.2.2 dX0_addMiss_89
        · replace h := iq hc h
          obtain rfl := Option.some.inj h
          exact W.vret hx hb hr (fun t ht hW => ⟨⟨(), rfl, trivial, ⟨by rw [ht]; exact hP, va_K.moved hW.alike hK, hD⟩⟩, hS.F ht⟩) hS.2.2 dX0_addMiss_32

theorem s_X0_addMiss {l : Launch} {dC : Nat → ClassId} {dI : Nat → Nat → Nat} {a : Nat → Nat} {k : Nat → ClassId} {sz : Nat} {p0 : Int32} {σ : ST} {q : ST} (h : f_X0_addMiss  p0 σ = some q) : Met l yX0_addMiss (.code yX0_addMiss cX0_addMiss 2 none :: pw) ({ frames := 1, cells := 0, slots := 0, locals := 30 } : Room) (va_Pc [.ref (a 41), .int p0] (vPre dC dI (wA a k σ) (tA k) sz)) (qAv dC dI a k (va_A (wA a k σ) sz) q) 0 0 (va_A (wA a k σ) sz) := metA (fun A => qAv dC dI a k A q) (plainFor_of_name (by decide)) (Nat.le_of_ble_eq_true rfl) (fun _ _ _ _ _ _ _ _ hC => b_X0_addMiss_e hC h)

def f_X0_bitOf (p0 : Int32) (p1 : Int32) (σ : ST) : Option (Int64 × ST) := (f_J9_floorMod_7cf53  p0 6 σ).bind fun q1 => (f_J9_floorMod_7cf53  p1 6 q1.2).bind fun q3 => some (((1 : Int64) <<< (((q1.1 * 6) + q3.1).toInt64 &&& 63)), q3.2)

set_option maxRecDepth 100000 in
set_option maxHeartbeats 4000000 in
theorem b_X0_bitOf_e {p : Program} {l : Launch} {e : Env} {s : State} {m : MethodId} {args : Array Value} {below : List Frame} {meth : Method} {c : Code} {dC : Nat → ClassId} {dI : Nat → Nat → Nat} {a : Nat → Nat} {k : Nat → ClassId} {A : Nat → Prop} {q : Int64 × ST} (hC : CxA p s m args meth c dC dI k A cX0_bitOf RX0 (some .long) 2)   {p0 : Int32} {p1 : Int32} {σ : ST} (h : f_X0_bitOf  p0 p1 σ = some q) : GoA p l e ({ frames := 1, cells := 0, slots := 0, locals := 22 } : Room) s m args below meth c (MQ below (qAl dC dI a k A q) args s 0 0 A) dC dI a k A 2 0 σ (lv_args 0 [.int p0, .int p1]) [] := by
  have hC0 := hC
  obtain ⟨hx, hb, hr, hml, hown, hts, hlocks, hA, hN, hK⟩ := hC0
  intro H locs ls hP hD hS hl
  have hD0 : ∀ σ1 : ST, va_D A (wA a k σ1) := fun σ1 => wA_D hD
  replace hl : lv_has ls 2 [(0, .int p0), (1, .int p1)] := hl
  unfold f_X0_bitOf at h
  refine lv_lconst (v := 1) hx hb dX0_bitOf_0 (by decide) ?_
  refine lv_iload_n hx hb dX0_bitOf_1 rfl (lv_at hl 0 rfl) ?_
  refine lv_bipush (v := 6) hx hb dX0_bitOf_2 (by decide) ?_
  obtain ⟨q1, hc, h⟩ := ib h
  have hF := va_frees hD hS hA
  refine va_calli (va_runS (As := [.int p0, .int 6]) (rest := [.long 1]) ⟨hx, hb, hml, hown, hts⟩ (s_J9_floorMod_7cf53 hc) (va_cwS 2 hts (gS mw_1_4 mw_1_5 mw_1_6 mw_57_22) rfl rfl rfl (by decide +kernel) ⟨(Nat.le_of_ble_eq_true rfl), (Nat.le_of_ble_eq_true rfl)⟩) (vS hK hP hD hN) rfl rfl hl.1 rfl (lv_room (Nat.le_of_ble_eq_true rfl)) dX0_bitOf_4 ⟨(Nat.le_of_ble_eq_true rfl), (Nat.le_of_ble_eq_true rfl)⟩) hS (fun q _ h => hF q h) hF (fun r2 u t H locs ht hvm hw hB _ _ hS => ?_)
  obtain rfl : r2 = q1.1 := hw
  replace hP : va_P (dC, dI) vwCl (wA a k q1.2) H := by rw [← ht]; exact hB.1
  replace hD := hD0 (q1.2)
  clear hB hF
  refine lv_bipush (v := 6) hx hb dX0_bitOf_7 (by decide) ?_
  refine lv_imul hx hb dX0_bitOf_9 ?_
  refine lv_iload_n hx hb dX0_bitOf_10 rfl (lv_at hl 1 rfl) ?_
  refine lv_bipush (v := 6) hx hb dX0_bitOf_11 (by decide) ?_
  obtain ⟨q3, hc, h⟩ := ib h
  have hF := va_frees hD hS hA
  refine va_calli (va_runS (As := [.int p1, .int 6]) (rest := [.int (q1.1 * 6), .long 1]) ⟨hx, hb, hml, hown, hts⟩ (s_J9_floorMod_7cf53 hc) (va_cwS 2 hts (gS mw_1_4 mw_1_5 mw_1_6 mw_57_22) rfl rfl rfl (by decide +kernel) ⟨(Nat.le_of_ble_eq_true rfl), (Nat.le_of_ble_eq_true rfl)⟩) (vS hK hP hD hN) rfl rfl hl.1 rfl (lv_room (Nat.le_of_ble_eq_true rfl)) dX0_bitOf_13 ⟨(Nat.le_of_ble_eq_true rfl), (Nat.le_of_ble_eq_true rfl)⟩) hS (fun q _ h => hF q h) hF (fun r4 u t H locs ht hvm hw hB _ _ hS => ?_)
  obtain rfl : r4 = q3.1 := hw
  replace hP : va_P (dC, dI) vwCl (wA a k q3.2) H := by rw [← ht]; exact hB.1
  replace hD := hD0 (q3.2)
  clear hB hF
  refine lv_iadd hx hb dX0_bitOf_16 ?_
  refine lv_lshl (v := ((1 : Int64) <<< (((q1.1 * 6) + q3.1).toInt64 &&& 63))) hx hb dX0_bitOf_17 rfl ?_
  obtain rfl := Option.some.inj h
  exact W.lret hx hb hr (fun t ht hW => ⟨⟨_, (), rfl, rfl, ⟨by rw [ht]; exact hP, va_K.moved hW.alike hK, hD⟩⟩, hS.F ht⟩) hS.2.2 dX0_bitOf_18

theorem s_X0_bitOf {l : Launch} {dC : Nat → ClassId} {dI : Nat → Nat → Nat} {a : Nat → Nat} {k : Nat → ClassId} {sz : Nat} {p0 : Int32} {p1 : Int32} {σ : ST} {q : Int64 × ST} (h : f_X0_bitOf  p0 p1 σ = some q) : Met l yX0_bitOf (.code yX0_bitOf cX0_bitOf 2 (some .long) :: pw) ({ frames := 1, cells := 0, slots := 0, locals := 22 } : Room) (va_Pc [.int p0, .int p1] (vPre dC dI (wA a k σ) (tA k) sz)) (qAl dC dI a k (va_A (wA a k σ) sz) q) 0 0 (va_A (wA a k σ) sz) := metA (fun A => qAl dC dI a k A q) (plainFor_of_name (by decide)) (Nat.le_of_ble_eq_true rfl) (fun _ _ _ _ _ _ _ _ hC => b_X0_bitOf_e hC h)

def f_X0_plainFits_41 (σ : ST) : Option (Int32 × ST) := some (1, σ)
def f_X0_plainFits_31 (x0 : Int32) (x1 : Int32) (σ : ST) : Option (Int32 × ST) := if x0 = 3 then (if x1 = 4 then (f_X0_plainFits_41   σ) else (some (0, σ))) else (some (0, σ))
def f_X0_plainFits (p0 : Int32) (p1 : Int32) (σ : ST) : Option (Int32 × ST) := if p0 < 0 then (some (0, σ)) else (if p0 ≤ 5 then (if p0 = p1 then (f_X0_plainFits_41   σ) else (if p0 = 2 then (if p1 = 3 then (f_X0_plainFits_41   σ) else (if p1 = 4 then (f_X0_plainFits_41   σ) else (f_X0_plainFits_31  p0 p1 σ))) else (f_X0_plainFits_31  p0 p1 σ))) else (some (0, σ)))

set_option maxRecDepth 100000 in
set_option maxHeartbeats 4000000 in
theorem b_X0_plainFits_41 {p : Program} {l : Launch} {e : Env} {s : State} {m : MethodId} {args : Array Value} {below : List Frame} {meth : Method} {c : Code} {dC : Nat → ClassId} {dI : Nat → Nat → Nat} {a : Nat → Nat} {k : Nat → ClassId} {A : Nat → Prop} {q : Int32 × ST} (hC : CxA p s m args meth c dC dI k A cX0_plainFits RX0 (some .boolean) 2)    {σ : ST} (h : f_X0_plainFits_41   σ = some q) : GoA p l e ({ frames := 0, cells := 0, slots := 0, locals := 0 } : Room) s m args below meth c (MQ below (qAi dC dI a k A q) args s 0 0 A) dC dI a k A 2 41 σ [] [] := by
  have hC0 := hC
  obtain ⟨hx, hb, hr, hml, hown, hts, hlocks, hA, hN, hK⟩ := hC0
  intro H locs ls hP hD hS hl
  have hD0 : ∀ σ1 : ST, va_D A (wA a k σ1) := fun σ1 => wA_D hD
  unfold f_X0_plainFits_41 at h
  refine lv_iconst (v := 1) hx hb dX0_plainFits_41 (by decide) ?_
  refine lv_goto (tgt := 46) hx hb dX0_plainFits_42 (by decide) ?_
  obtain rfl := Option.some.inj h
  exact W.zret hx hb hr rfl (fun t ht hW => ⟨⟨_, (), rfl, rfl, ⟨by rw [ht]; exact hP, va_K.moved hW.alike hK, hD⟩⟩, hS.F ht⟩) hS.2.2 dX0_plainFits_46

set_option maxRecDepth 100000 in
set_option maxHeartbeats 4000000 in
theorem b_X0_plainFits_31 {p : Program} {l : Launch} {e : Env} {s : State} {m : MethodId} {args : Array Value} {below : List Frame} {meth : Method} {c : Code} {dC : Nat → ClassId} {dI : Nat → Nat → Nat} {a : Nat → Nat} {k : Nat → ClassId} {A : Nat → Prop} {q : Int32 × ST} (hC : CxA p s m args meth c dC dI k A cX0_plainFits RX0 (some .boolean) 2)   {x0 : Int32} {x1 : Int32} {σ : ST} (h : f_X0_plainFits_31  x0 x1 σ = some q) : GoA p l e ({ frames := 0, cells := 0, slots := 0, locals := 0 } : Room) s m args below meth c (MQ below (qAi dC dI a k A q) args s 0 0 A) dC dI a k A 2 31 σ [(0, .int x0), (1, .int x1)] [] := by
  have hC0 := hC
  obtain ⟨hx, hb, hr, hml, hown, hts, hlocks, hA, hN, hK⟩ := hC0
  intro H locs ls hP hD hS hl
  have hD0 : ∀ σ1 : ST, va_D A (wA a k σ1) := fun σ1 => wA_D hD
  unfold f_X0_plainFits_31 at h
  refine lv_iload_n hx hb dX0_plainFits_31 rfl (lv_at hl 0 rfl) ?_
  refine lv_iconst (v := 3) hx hb dX0_plainFits_32 (by decide) ?_
  refine lv_icmp_ne (tgt := 45) hx hb dX0_plainFits_33 (by decide) (fun hc => ?_) (fun hc => ?_)
  · replace h := iq hc h
    refine lv_iconst (v := 0) hx hb dX0_plainFits_45 (by decide) ?_
    obtain rfl := Option.some.inj h
    exact W.zret hx hb hr rfl (fun t ht hW => ⟨⟨_, (), rfl, rfl, ⟨by rw [ht]; exact hP, va_K.moved hW.alike hK, hD⟩⟩, hS.F ht⟩) hS.2.2 dX0_plainFits_46
  · replace h := ip hc h
    refine lv_iload_n hx hb dX0_plainFits_36 rfl (lv_at hl 1 rfl) ?_
    refine lv_iconst (v := 4) hx hb dX0_plainFits_37 (by decide) ?_
    refine lv_icmp_ne (tgt := 45) hx hb dX0_plainFits_38 (by decide) (fun hc => ?_) (fun hc => ?_)
    · replace h := iq hc h
      refine lv_iconst (v := 0) hx hb dX0_plainFits_45 (by decide) ?_
      obtain rfl := Option.some.inj h
      exact W.zret hx hb hr rfl (fun t ht hW => ⟨⟨_, (), rfl, rfl, ⟨by rw [ht]; exact hP, va_K.moved hW.alike hK, hD⟩⟩, hS.F ht⟩) hS.2.2 dX0_plainFits_46
    · replace h := ip hc h
      exact b_X0_plainFits_41 hC h _ _ _ hP hD hS (lv_sub hl [] rfl)

set_option maxRecDepth 100000 in
set_option maxHeartbeats 4000000 in
theorem b_X0_plainFits_e {p : Program} {l : Launch} {e : Env} {s : State} {m : MethodId} {args : Array Value} {below : List Frame} {meth : Method} {c : Code} {dC : Nat → ClassId} {dI : Nat → Nat → Nat} {a : Nat → Nat} {k : Nat → ClassId} {A : Nat → Prop} {q : Int32 × ST} (hC : CxA p s m args meth c dC dI k A cX0_plainFits RX0 (some .boolean) 2)   {p0 : Int32} {p1 : Int32} {σ : ST} (h : f_X0_plainFits  p0 p1 σ = some q) : GoA p l e ({ frames := 0, cells := 0, slots := 0, locals := 0 } : Room) s m args below meth c (MQ below (qAi dC dI a k A q) args s 0 0 A) dC dI a k A 2 0 σ (lv_args 0 [.int p0, .int p1]) [] := by
  have hC0 := hC
  obtain ⟨hx, hb, hr, hml, hown, hts, hlocks, hA, hN, hK⟩ := hC0
  intro H locs ls hP hD hS hl
  have hD0 : ∀ σ1 : ST, va_D A (wA a k σ1) := fun σ1 => wA_D hD
  replace hl : lv_has ls 2 [(0, .int p0), (1, .int p1)] := hl
  unfold f_X0_plainFits at h
  refine lv_iload_n hx hb dX0_plainFits_0 rfl (lv_at hl 0 rfl) ?_
  refine lv_if_lt (tgt := 9) hx hb dX0_plainFits_1 (by decide) (fun hc => ?_) (fun hc => ?_)
  · replace h := ip hc h
    refine lv_iconst (v := 0) hx hb dX0_plainFits_9 (by decide) ?_
    obtain rfl := Option.some.inj h
    exact W.zret hx hb hr rfl (fun t ht hW => ⟨⟨_, (), rfl, rfl, ⟨by rw [ht]; exact hP, va_K.moved hW.alike hK, hD⟩⟩, hS.F ht⟩) hS.2.2 dX0_plainFits_10
  · replace h := iq hc h
    refine lv_iload_n hx hb dX0_plainFits_4 rfl (lv_at hl 0 rfl) ?_
    refine lv_iconst (v := 5) hx hb dX0_plainFits_5 (by decide) ?_
    refine lv_icmp_le (tgt := 11) hx hb dX0_plainFits_6 (by decide) (fun hc => ?_) (fun hc => ?_)
    · replace h := ip hc h
      refine lv_iload_n hx hb dX0_plainFits_11 rfl (lv_at hl 0 rfl) ?_
      refine lv_iload_n hx hb dX0_plainFits_12 rfl (lv_at hl 1 rfl) ?_
      refine lv_icmp_eq (tgt := 41) hx hb dX0_plainFits_13 (by decide) (fun hc => ?_) (fun hc => ?_)
      · replace h := ip hc h
        exact b_X0_plainFits_41 hC h _ _ _ hP hD hS (lv_sub hl [] rfl)
      · replace h := iq hc h
        refine lv_iload_n hx hb dX0_plainFits_16 rfl (lv_at hl 0 rfl) ?_
        refine lv_iconst (v := 2) hx hb dX0_plainFits_17 (by decide) ?_
        refine lv_icmp_ne (tgt := 31) hx hb dX0_plainFits_18 (by decide) (fun hc => ?_) (fun hc => ?_)
        · replace h := iq hc h
          exact b_X0_plainFits_31 hC h _ _ _ hP hD hS (lv_sub hl [0, 1] rfl)
        · replace h := ip hc h
          refine lv_iload_n hx hb dX0_plainFits_21 rfl (lv_at hl 1 rfl) ?_
          refine lv_iconst (v := 3) hx hb dX0_plainFits_22 (by decide) ?_
          refine lv_icmp_eq (tgt := 41) hx hb dX0_plainFits_23 (by decide) (fun hc => ?_) (fun hc => ?_)
          · replace h := ip hc h
            exact b_X0_plainFits_41 hC h _ _ _ hP hD hS (lv_sub hl [] rfl)
          · replace h := iq hc h
            refine lv_iload_n hx hb dX0_plainFits_26 rfl (lv_at hl 1 rfl) ?_
            refine lv_iconst (v := 4) hx hb dX0_plainFits_27 (by decide) ?_
            refine lv_icmp_eq (tgt := 41) hx hb dX0_plainFits_28 (by decide) (fun hc => ?_) (fun hc => ?_)
            · replace h := ip hc h
              exact b_X0_plainFits_41 hC h _ _ _ hP hD hS (lv_sub hl [] rfl)
            · replace h := iq hc h
              exact b_X0_plainFits_31 hC h _ _ _ hP hD hS (lv_sub hl [0, 1] rfl)
    · replace h := iq hc h
      refine lv_iconst (v := 0) hx hb dX0_plainFits_9 (by decide) ?_
      obtain rfl := Option.some.inj h
      exact W.zret hx hb hr rfl (fun t ht hW => ⟨⟨_, (), rfl, rfl, ⟨by rw [ht]; exact hP, va_K.moved hW.alike hK, hD⟩⟩, hS.F ht⟩) hS.2.2 dX0_plainFits_10

theorem s_X0_plainFits {l : Launch} {dC : Nat → ClassId} {dI : Nat → Nat → Nat} {a : Nat → Nat} {k : Nat → ClassId} {sz : Nat} {p0 : Int32} {p1 : Int32} {σ : ST} {q : Int32 × ST} (h : f_X0_plainFits  p0 p1 σ = some q) : Met l yX0_plainFits (.code yX0_plainFits cX0_plainFits 2 (some .boolean) :: pw) ({ frames := 0, cells := 0, slots := 0, locals := 0 } : Room) (va_Pc [.int p0, .int p1] (vPre dC dI (wA a k σ) (tA k) sz)) (qAi dC dI a k (va_A (wA a k σ) sz) q) 0 0 (va_A (wA a k σ) sz) := metA (fun A => qAi dC dI a k A q) (plainFor_of_name (by decide)) (Nat.le_of_ble_eq_true rfl) (fun _ _ _ _ _ _ _ _ hC => b_X0_plainFits_e hC h)

def f_X5_isType (b : Nat) (p0 : Int32) (σ : ST) : Option (Int32 × ST) := if p0 < 0 then (some (0, σ)) else (if (σ.1 b 1) ≤ p0 then (some (0, σ)) else (if 262 ≤ p0 then (some (0, σ)) else (some (1, σ))))

set_option maxRecDepth 100000 in
set_option maxHeartbeats 4000000 in
theorem b_X5_isType_e_4 {p : Program} {l : Launch} {e : Env} {s : State} {m : MethodId} {args : Array Value} {below : List Frame} {meth : Method} {c : Code} {dC : Nat → ClassId} {dI : Nat → Nat → Nat} {a : Nat → Nat} {k : Nat → ClassId} {A : Nat → Prop} {q : Int32 × ST} (hC : CxA p s m args meth c dC dI k A cX5_isType RX5 (some .boolean) 2)   {p0 : Int32} {σ : ST} (h : f_X5_isType 4 p0 σ = some q) : GoA p l e ({ frames := 0, cells := 0, slots := 0, locals := 0 } : Room) s m args below meth c (MQ below (qAi dC dI a k A q) args s 0 0 A) dC dI a k A 2 0 σ (lv_args 0 [.ref (a 4), .int p0]) [] := by
  have hC0 := hC
  obtain ⟨hx, hb, hr, hml, hown, hts, hlocks, hA, hN, hK⟩ := hC0
  intro H locs ls hP hD hS hl
  have hD0 : ∀ σ1 : ST, va_D A (wA a k σ1) := fun σ1 => wA_D hD
  replace hl : lv_has ls 2 [(0, .ref (a 4)), (1, .int p0)] := hl
  unfold f_X5_isType at h
  refine lv_iload_n hx hb dX5_isType_0 rfl (lv_at hl 1 rfl) ?_
  refine lv_if_lt (tgt := 23) hx hb dX5_isType_1 (by decide) (fun hc => ?_) (fun hc => ?_)
  · replace h := ip hc h
    refine lv_iconst (v := 0) hx hb dX5_isType_23 (by decide) ?_
    obtain rfl := Option.some.inj h
    exact W.zret hx hb hr rfl (fun t ht hW => ⟨⟨_, (), rfl, rfl, ⟨by rw [ht]; exact hP, va_K.moved hW.alike hK, hD⟩⟩, hS.F ht⟩) hS.2.2 dX5_isType_24
  · replace h := iq hc h
    refine lv_iload_n hx hb dX5_isType_4 rfl (lv_at hl 1 rfl) ?_
    refine lv_aload_n hx hb dX5_isType_5 rfl (lv_at hl 0 rfl) ?_
    refine va_get (D := (dC, dI)) (ci := 5) (C := RX5) (T := TX5) (N := 17) hx hb hts inlX5 hown hK hP 4 gA_4 rfl 1 (by decide) (hts (.fieldLink RX5 15 "ShapeReader$Shapes" "typeCount" "I") mw_14_18) (fun _ h9 => h9) rfl dX5_isType_6 ?_
    refine lv_icmp_ge (tgt := 23) hx hb dX5_isType_9 (by decide) (fun hc => ?_) (fun hc => ?_)
    · replace h := ip hc h
      refine lv_iconst (v := 0) hx hb dX5_isType_23 (by decide) ?_
      obtain rfl := Option.some.inj h
      exact W.zret hx hb hr rfl (fun t ht hW => ⟨⟨_, (), rfl, rfl, ⟨by rw [ht]; exact hP, va_K.moved hW.alike hK, hD⟩⟩, hS.F ht⟩) hS.2.2 dX5_isType_24
    · replace h := iq hc h
      refine lv_iload_n hx hb dX5_isType_12 rfl (lv_at hl 1 rfl) ?_
      refine lv_sipush (v := 262) hx hb dX5_isType_13 (by decide) ?_
      refine lv_icmp_ge (tgt := 23) hx hb dX5_isType_16 (by decide) (fun hc => ?_) (fun hc => ?_)
      · replace h := ip hc h
        refine lv_iconst (v := 0) hx hb dX5_isType_23 (by decide) ?_
        obtain rfl := Option.some.inj h
        exact W.zret hx hb hr rfl (fun t ht hW => ⟨⟨_, (), rfl, rfl, ⟨by rw [ht]; exact hP, va_K.moved hW.alike hK, hD⟩⟩, hS.F ht⟩) hS.2.2 dX5_isType_24
      · replace h := iq hc h
        refine lv_iconst (v := 1) hx hb dX5_isType_19 (by decide) ?_
        refine lv_goto (tgt := 24) hx hb dX5_isType_20 (by decide) ?_
        obtain rfl := Option.some.inj h
        exact W.zret hx hb hr rfl (fun t ht hW => ⟨⟨_, (), rfl, rfl, ⟨by rw [ht]; exact hP, va_K.moved hW.alike hK, hD⟩⟩, hS.F ht⟩) hS.2.2 dX5_isType_24

theorem s_X5_isType_4 {l : Launch} {dC : Nat → ClassId} {dI : Nat → Nat → Nat} {a : Nat → Nat} {k : Nat → ClassId} {sz : Nat} {p0 : Int32} {σ : ST} {q : Int32 × ST} (h : f_X5_isType 4 p0 σ = some q) : Met l yX5_isType (.code yX5_isType cX5_isType 2 (some .boolean) :: pw) ({ frames := 0, cells := 0, slots := 0, locals := 0 } : Room) (va_Pc [.ref (a 4), .int p0] (vPre dC dI (wA a k σ) (tA k) sz)) (qAi dC dI a k (va_A (wA a k σ) sz) q) 0 0 (va_A (wA a k σ) sz) := metA (fun A => qAi dC dI a k A q) (plainFor_of_name (by decide)) (Nat.le_of_ble_eq_true rfl) (fun _ _ _ _ _ _ _ _ hC => b_X5_isType_e_4 hC h)

set_option maxRecDepth 100000 in
set_option maxHeartbeats 4000000 in
theorem b_X5_isType_e_20 {p : Program} {l : Launch} {e : Env} {s : State} {m : MethodId} {args : Array Value} {below : List Frame} {meth : Method} {c : Code} {dC : Nat → ClassId} {dI : Nat → Nat → Nat} {a : Nat → Nat} {k : Nat → ClassId} {A : Nat → Prop} {q : Int32 × ST} (hC : CxA p s m args meth c dC dI k A cX5_isType RX5 (some .boolean) 2)   {p0 : Int32} {σ : ST} (h : f_X5_isType 20 p0 σ = some q) : GoA p l e ({ frames := 0, cells := 0, slots := 0, locals := 0 } : Room) s m args below meth c (MQ below (qAi dC dI a k A q) args s 0 0 A) dC dI a k A 2 0 σ (lv_args 0 [.ref (a 20), .int p0]) [] := by
  have hC0 := hC
  obtain ⟨hx, hb, hr, hml, hown, hts, hlocks, hA, hN, hK⟩ := hC0
  intro H locs ls hP hD hS hl
  have hD0 : ∀ σ1 : ST, va_D A (wA a k σ1) := fun σ1 => wA_D hD
  replace hl : lv_has ls 2 [(0, .ref (a 20)), (1, .int p0)] := hl
  unfold f_X5_isType at h
  refine lv_iload_n hx hb dX5_isType_0 rfl (lv_at hl 1 rfl) ?_
  refine lv_if_lt (tgt := 23) hx hb dX5_isType_1 (by decide) (fun hc => ?_) (fun hc => ?_)
  · replace h := ip hc h
    refine lv_iconst (v := 0) hx hb dX5_isType_23 (by decide) ?_
    obtain rfl := Option.some.inj h
    exact W.zret hx hb hr rfl (fun t ht hW => ⟨⟨_, (), rfl, rfl, ⟨by rw [ht]; exact hP, va_K.moved hW.alike hK, hD⟩⟩, hS.F ht⟩) hS.2.2 dX5_isType_24
  · replace h := iq hc h
    refine lv_iload_n hx hb dX5_isType_4 rfl (lv_at hl 1 rfl) ?_
    refine lv_aload_n hx hb dX5_isType_5 rfl (lv_at hl 0 rfl) ?_
    refine va_get (D := (dC, dI)) (ci := 5) (C := RX5) (T := TX5) (N := 17) hx hb hts inlX5 hown hK hP 20 gA_20 rfl 1 (by decide) (hts (.fieldLink RX5 15 "ShapeReader$Shapes" "typeCount" "I") mw_14_18) (fun _ h9 => h9) rfl dX5_isType_6 ?_
    refine lv_icmp_ge (tgt := 23) hx hb dX5_isType_9 (by decide) (fun hc => ?_) (fun hc => ?_)
    · replace h := ip hc h
      refine lv_iconst (v := 0) hx hb dX5_isType_23 (by decide) ?_
      obtain rfl := Option.some.inj h
      exact W.zret hx hb hr rfl (fun t ht hW => ⟨⟨_, (), rfl, rfl, ⟨by rw [ht]; exact hP, va_K.moved hW.alike hK, hD⟩⟩, hS.F ht⟩) hS.2.2 dX5_isType_24
    · replace h := iq hc h
      refine lv_iload_n hx hb dX5_isType_12 rfl (lv_at hl 1 rfl) ?_
      refine lv_sipush (v := 262) hx hb dX5_isType_13 (by decide) ?_
      refine lv_icmp_ge (tgt := 23) hx hb dX5_isType_16 (by decide) (fun hc => ?_) (fun hc => ?_)
      · replace h := ip hc h
        refine lv_iconst (v := 0) hx hb dX5_isType_23 (by decide) ?_
        obtain rfl := Option.some.inj h
        exact W.zret hx hb hr rfl (fun t ht hW => ⟨⟨_, (), rfl, rfl, ⟨by rw [ht]; exact hP, va_K.moved hW.alike hK, hD⟩⟩, hS.F ht⟩) hS.2.2 dX5_isType_24
      · replace h := iq hc h
        refine lv_iconst (v := 1) hx hb dX5_isType_19 (by decide) ?_
        refine lv_goto (tgt := 24) hx hb dX5_isType_20 (by decide) ?_
        obtain rfl := Option.some.inj h
        exact W.zret hx hb hr rfl (fun t ht hW => ⟨⟨_, (), rfl, rfl, ⟨by rw [ht]; exact hP, va_K.moved hW.alike hK, hD⟩⟩, hS.F ht⟩) hS.2.2 dX5_isType_24

theorem s_X5_isType_20 {l : Launch} {dC : Nat → ClassId} {dI : Nat → Nat → Nat} {a : Nat → Nat} {k : Nat → ClassId} {sz : Nat} {p0 : Int32} {σ : ST} {q : Int32 × ST} (h : f_X5_isType 20 p0 σ = some q) : Met l yX5_isType (.code yX5_isType cX5_isType 2 (some .boolean) :: pw) ({ frames := 0, cells := 0, slots := 0, locals := 0 } : Room) (va_Pc [.ref (a 20), .int p0] (vPre dC dI (wA a k σ) (tA k) sz)) (qAi dC dI a k (va_A (wA a k σ) sz) q) 0 0 (va_A (wA a k σ) sz) := metA (fun A => qAi dC dI a k A q) (plainFor_of_name (by decide)) (Nat.le_of_ble_eq_true rfl) (fun _ _ _ _ _ _ _ _ hC => b_X5_isType_e_20 hC h)

def f_X5_branchAfter (b : Nat) (p0 : Int32) (σ : ST) : Option (Int32 × ST) := (f_X5_isType b p0 σ).bind fun q1 => if q1.1 = 0 then (some ((-1), q1.2)) else (if 0 ≤ p0.toInt ∧ p0.toInt < 262 then (some ((q1.2.1 (b + 13) p0.toNatClampNeg), q1.2)) else none)

set_option maxRecDepth 100000 in
set_option maxHeartbeats 4000000 in
theorem b_X5_branchAfter_e_4 {p : Program} {l : Launch} {e : Env} {s : State} {m : MethodId} {args : Array Value} {below : List Frame} {meth : Method} {c : Code} {dC : Nat → ClassId} {dI : Nat → Nat → Nat} {a : Nat → Nat} {k : Nat → ClassId} {A : Nat → Prop} {q : Int32 × ST} (hC : CxA p s m args meth c dC dI k A cX5_branchAfter RX5 (some .int) 2)   {p0 : Int32} {σ : ST} (h : f_X5_branchAfter 4 p0 σ = some q) : GoA p l e ({ frames := 1, cells := 0, slots := 0, locals := 21 } : Room) s m args below meth c (MQ below (qAi dC dI a k A q) args s 0 0 A) dC dI a k A 2 0 σ (lv_args 0 [.ref (a 4), .int p0]) [] := by
  have hC0 := hC
  obtain ⟨hx, hb, hr, hml, hown, hts, hlocks, hA, hN, hK⟩ := hC0
  intro H locs ls hP hD hS hl
  have hD0 : ∀ σ1 : ST, va_D A (wA a k σ1) := fun σ1 => wA_D hD
  replace hl : lv_has ls 2 [(0, .ref (a 4)), (1, .int p0)] := hl
  unfold f_X5_branchAfter at h
  refine lv_aload_n hx hb dX5_branchAfter_0 rfl (lv_at hl 0 rfl) ?_
  refine lv_iload_n hx hb dX5_branchAfter_1 rfl (lv_at hl 1 rfl) ?_
  obtain ⟨q1, hc, h⟩ := ib h
  have hF := va_frees hD hS hA
  refine va_calli (va_runV (As := [.int p0]) (rest := []) ⟨hx, hb, hml, hown, hts⟩ (s_X5_isType_4 hc) (cwV 1 hts (gV mw_15_9 mw_15_10 mw_15_11 mw_0_9 mw_49_26) rfl rfl rfl (by decide +kernel) ⟨(Nat.le_of_ble_eq_true rfl), (Nat.le_of_ble_eq_true rfl)⟩) (vV (ci := 5) (q0 := 4) hK hP hD hN rfl gA_4) rfl rfl hl.1 rfl (lv_room (Nat.le_of_ble_eq_true rfl)) dX5_branchAfter_2 ⟨(Nat.le_of_ble_eq_true rfl), (Nat.le_of_ble_eq_true rfl)⟩) hS (fun q _ h => hF q h) hF (fun r2 u t H locs ht hvm hw hB _ _ hS => ?_)
  obtain rfl : r2 = q1.1 := hw
  replace hP : va_P (dC, dI) vwCl (wA a k q1.2) H := by rw [← ht]; exact hB.1
  replace hD := hD0 (q1.2)
  clear hB hF
  refine lv_if_eq (tgt := 17) hx hb dX5_branchAfter_5 (by decide) (fun hc => ?_) (fun hc => ?_)
  · replace h := ip hc h
    refine lv_iconst (v := (-1)) hx hb dX5_branchAfter_17 (by decide) ?_
    obtain rfl := Option.some.inj h
    exact W.iret hx hb hr (fun t ht hW => ⟨⟨_, (), rfl, rfl, ⟨by rw [ht]; exact hP, va_K.moved hW.alike hK, hD⟩⟩, hS.F ht⟩) hS.2.2 dX5_branchAfter_18
  · replace h := iq hc h
    refine lv_aload_n hx hb dX5_branchAfter_8 rfl (lv_at hl 0 rfl) ?_
    refine va_get (D := (dC, dI)) (ci := 5) (C := RX5) (T := TX5) (N := 17) hx hb hts inlX5 hown hK hP 4 gA_4 rfl 14 (by decide) (hts (.fieldLink RX5 56 "ShapeReader$Shapes" "nextBranches" "[I") mw_15_1) (fun _ h9 => h9) rfl dX5_branchAfter_9 ?_
    refine lv_iload_n hx hb dX5_branchAfter_12 rfl (lv_at hl 1 rfl) ?_
    obtain ⟨hg3, h⟩ := ig h
    refine va_iald hx hb hK hP 17 14 gA_17 yA_17 (vp_in_iff.mpr hg3) dX5_branchAfter_13 ?_
    refine lv_goto (tgt := 18) hx hb dX5_branchAfter_14 (by decide) ?_
    obtain rfl := Option.some.inj h
    exact W.iret hx hb hr (fun t ht hW => ⟨⟨_, (), rfl, rfl, ⟨by rw [ht]; exact hP, va_K.moved hW.alike hK, hD⟩⟩, hS.F ht⟩) hS.2.2 dX5_branchAfter_18

theorem s_X5_branchAfter_4 {l : Launch} {dC : Nat → ClassId} {dI : Nat → Nat → Nat} {a : Nat → Nat} {k : Nat → ClassId} {sz : Nat} {p0 : Int32} {σ : ST} {q : Int32 × ST} (h : f_X5_branchAfter 4 p0 σ = some q) : Met l yX5_branchAfter (.code yX5_branchAfter cX5_branchAfter 2 (some .int) :: pw) ({ frames := 1, cells := 0, slots := 0, locals := 21 } : Room) (va_Pc [.ref (a 4), .int p0] (vPre dC dI (wA a k σ) (tA k) sz)) (qAi dC dI a k (va_A (wA a k σ) sz) q) 0 0 (va_A (wA a k σ) sz) := metA (fun A => qAi dC dI a k A q) (plainFor_of_name (by decide)) (Nat.le_of_ble_eq_true rfl) (fun _ _ _ _ _ _ _ _ hC => b_X5_branchAfter_e_4 hC h)

def f_X5_innerOf (b : Nat) (p0 : Int32) (σ : ST) : Option (Int32 × ST) := (f_X5_isType b p0 σ).bind fun q1 => if q1.1 = 0 then (some ((-1), q1.2)) else (if 0 ≤ p0.toInt ∧ p0.toInt < 262 then (some ((q1.2.1 (b + 12) p0.toNatClampNeg), q1.2)) else none)

set_option maxRecDepth 100000 in
set_option maxHeartbeats 4000000 in
theorem b_X5_innerOf_e_4 {p : Program} {l : Launch} {e : Env} {s : State} {m : MethodId} {args : Array Value} {below : List Frame} {meth : Method} {c : Code} {dC : Nat → ClassId} {dI : Nat → Nat → Nat} {a : Nat → Nat} {k : Nat → ClassId} {A : Nat → Prop} {q : Int32 × ST} (hC : CxA p s m args meth c dC dI k A cX5_innerOf RX5 (some .int) 2)   {p0 : Int32} {σ : ST} (h : f_X5_innerOf 4 p0 σ = some q) : GoA p l e ({ frames := 1, cells := 0, slots := 0, locals := 21 } : Room) s m args below meth c (MQ below (qAi dC dI a k A q) args s 0 0 A) dC dI a k A 2 0 σ (lv_args 0 [.ref (a 4), .int p0]) [] := by
  have hC0 := hC
  obtain ⟨hx, hb, hr, hml, hown, hts, hlocks, hA, hN, hK⟩ := hC0
  intro H locs ls hP hD hS hl
  have hD0 : ∀ σ1 : ST, va_D A (wA a k σ1) := fun σ1 => wA_D hD
  replace hl : lv_has ls 2 [(0, .ref (a 4)), (1, .int p0)] := hl
  unfold f_X5_innerOf at h
  refine lv_aload_n hx hb dX5_innerOf_0 rfl (lv_at hl 0 rfl) ?_
  refine lv_iload_n hx hb dX5_innerOf_1 rfl (lv_at hl 1 rfl) ?_
  obtain ⟨q1, hc, h⟩ := ib h
  have hF := va_frees hD hS hA
  refine va_calli (va_runV (As := [.int p0]) (rest := []) ⟨hx, hb, hml, hown, hts⟩ (s_X5_isType_4 hc) (cwV 1 hts (gV mw_15_9 mw_15_10 mw_15_11 mw_0_9 mw_49_26) rfl rfl rfl (by decide +kernel) ⟨(Nat.le_of_ble_eq_true rfl), (Nat.le_of_ble_eq_true rfl)⟩) (vV (ci := 5) (q0 := 4) hK hP hD hN rfl gA_4) rfl rfl hl.1 rfl (lv_room (Nat.le_of_ble_eq_true rfl)) dX5_innerOf_2 ⟨(Nat.le_of_ble_eq_true rfl), (Nat.le_of_ble_eq_true rfl)⟩) hS (fun q _ h => hF q h) hF (fun r2 u t H locs ht hvm hw hB _ _ hS => ?_)
  obtain rfl : r2 = q1.1 := hw
  replace hP : va_P (dC, dI) vwCl (wA a k q1.2) H := by rw [← ht]; exact hB.1
  replace hD := hD0 (q1.2)
  clear hB hF
  refine lv_if_eq (tgt := 17) hx hb dX5_innerOf_5 (by decide) (fun hc => ?_) (fun hc => ?_)
  · replace h := ip hc h
    refine lv_iconst (v := (-1)) hx hb dX5_innerOf_17 (by decide) ?_
    obtain rfl := Option.some.inj h
    exact W.iret hx hb hr (fun t ht hW => ⟨⟨_, (), rfl, rfl, ⟨by rw [ht]; exact hP, va_K.moved hW.alike hK, hD⟩⟩, hS.F ht⟩) hS.2.2 dX5_innerOf_18
  · replace h := iq hc h
    refine lv_aload_n hx hb dX5_innerOf_8 rfl (lv_at hl 0 rfl) ?_
    refine va_get (D := (dC, dI)) (ci := 5) (C := RX5) (T := TX5) (N := 17) hx hb hts inlX5 hown hK hP 4 gA_4 rfl 13 (by decide) (hts (.fieldLink RX5 53 "ShapeReader$Shapes" "inners" "[I") mw_15_0) (fun _ h9 => h9) rfl dX5_innerOf_9 ?_
    refine lv_iload_n hx hb dX5_innerOf_12 rfl (lv_at hl 1 rfl) ?_
    obtain ⟨hg3, h⟩ := ig h
    refine va_iald hx hb hK hP 16 13 gA_16 yA_16 (vp_in_iff.mpr hg3) dX5_innerOf_13 ?_
    refine lv_goto (tgt := 18) hx hb dX5_innerOf_14 (by decide) ?_
    obtain rfl := Option.some.inj h
    exact W.iret hx hb hr (fun t ht hW => ⟨⟨_, (), rfl, rfl, ⟨by rw [ht]; exact hP, va_K.moved hW.alike hK, hD⟩⟩, hS.F ht⟩) hS.2.2 dX5_innerOf_18

theorem s_X5_innerOf_4 {l : Launch} {dC : Nat → ClassId} {dI : Nat → Nat → Nat} {a : Nat → Nat} {k : Nat → ClassId} {sz : Nat} {p0 : Int32} {σ : ST} {q : Int32 × ST} (h : f_X5_innerOf 4 p0 σ = some q) : Met l yX5_innerOf (.code yX5_innerOf cX5_innerOf 2 (some .int) :: pw) ({ frames := 1, cells := 0, slots := 0, locals := 21 } : Room) (va_Pc [.ref (a 4), .int p0] (vPre dC dI (wA a k σ) (tA k) sz)) (qAi dC dI a k (va_A (wA a k σ) sz) q) 0 0 (va_A (wA a k σ) sz) := metA (fun A => qAi dC dI a k A q) (plainFor_of_name (by decide)) (Nat.le_of_ble_eq_true rfl) (fun _ _ _ _ _ _ _ _ hC => b_X5_innerOf_e_4 hC h)

set_option maxRecDepth 100000 in
set_option maxHeartbeats 4000000 in
theorem b_X5_innerOf_e_20 {p : Program} {l : Launch} {e : Env} {s : State} {m : MethodId} {args : Array Value} {below : List Frame} {meth : Method} {c : Code} {dC : Nat → ClassId} {dI : Nat → Nat → Nat} {a : Nat → Nat} {k : Nat → ClassId} {A : Nat → Prop} {q : Int32 × ST} (hC : CxA p s m args meth c dC dI k A cX5_innerOf RX5 (some .int) 2)   {p0 : Int32} {σ : ST} (h : f_X5_innerOf 20 p0 σ = some q) : GoA p l e ({ frames := 1, cells := 0, slots := 0, locals := 21 } : Room) s m args below meth c (MQ below (qAi dC dI a k A q) args s 0 0 A) dC dI a k A 2 0 σ (lv_args 0 [.ref (a 20), .int p0]) [] := by
  have hC0 := hC
  obtain ⟨hx, hb, hr, hml, hown, hts, hlocks, hA, hN, hK⟩ := hC0
  intro H locs ls hP hD hS hl
  have hD0 : ∀ σ1 : ST, va_D A (wA a k σ1) := fun σ1 => wA_D hD
  replace hl : lv_has ls 2 [(0, .ref (a 20)), (1, .int p0)] := hl
  unfold f_X5_innerOf at h
  refine lv_aload_n hx hb dX5_innerOf_0 rfl (lv_at hl 0 rfl) ?_
  refine lv_iload_n hx hb dX5_innerOf_1 rfl (lv_at hl 1 rfl) ?_
  obtain ⟨q1, hc, h⟩ := ib h
  have hF := va_frees hD hS hA
  refine va_calli (va_runV (As := [.int p0]) (rest := []) ⟨hx, hb, hml, hown, hts⟩ (s_X5_isType_20 hc) (cwV 1 hts (gV mw_15_9 mw_15_10 mw_15_11 mw_0_9 mw_49_26) rfl rfl rfl (by decide +kernel) ⟨(Nat.le_of_ble_eq_true rfl), (Nat.le_of_ble_eq_true rfl)⟩) (vV (ci := 5) (q0 := 20) hK hP hD hN rfl gA_20) rfl rfl hl.1 rfl (lv_room (Nat.le_of_ble_eq_true rfl)) dX5_innerOf_2 ⟨(Nat.le_of_ble_eq_true rfl), (Nat.le_of_ble_eq_true rfl)⟩) hS (fun q _ h => hF q h) hF (fun r2 u t H locs ht hvm hw hB _ _ hS => ?_)
  obtain rfl : r2 = q1.1 := hw
  replace hP : va_P (dC, dI) vwCl (wA a k q1.2) H := by rw [← ht]; exact hB.1
  replace hD := hD0 (q1.2)
  clear hB hF
  refine lv_if_eq (tgt := 17) hx hb dX5_innerOf_5 (by decide) (fun hc => ?_) (fun hc => ?_)
  · replace h := ip hc h
    refine lv_iconst (v := (-1)) hx hb dX5_innerOf_17 (by decide) ?_
    obtain rfl := Option.some.inj h
    exact W.iret hx hb hr (fun t ht hW => ⟨⟨_, (), rfl, rfl, ⟨by rw [ht]; exact hP, va_K.moved hW.alike hK, hD⟩⟩, hS.F ht⟩) hS.2.2 dX5_innerOf_18
  · replace h := iq hc h
    refine lv_aload_n hx hb dX5_innerOf_8 rfl (lv_at hl 0 rfl) ?_
    refine va_get (D := (dC, dI)) (ci := 5) (C := RX5) (T := TX5) (N := 17) hx hb hts inlX5 hown hK hP 20 gA_20 rfl 13 (by decide) (hts (.fieldLink RX5 53 "ShapeReader$Shapes" "inners" "[I") mw_15_0) (fun _ h9 => h9) rfl dX5_innerOf_9 ?_
    refine lv_iload_n hx hb dX5_innerOf_12 rfl (lv_at hl 1 rfl) ?_
    obtain ⟨hg3, h⟩ := ig h
    refine va_iald hx hb hK hP 32 28 gA_32 yA_32 (vp_in_iff.mpr hg3) dX5_innerOf_13 ?_
    refine lv_goto (tgt := 18) hx hb dX5_innerOf_14 (by decide) ?_
    obtain rfl := Option.some.inj h
    exact W.iret hx hb hr (fun t ht hW => ⟨⟨_, (), rfl, rfl, ⟨by rw [ht]; exact hP, va_K.moved hW.alike hK, hD⟩⟩, hS.F ht⟩) hS.2.2 dX5_innerOf_18

theorem s_X5_innerOf_20 {l : Launch} {dC : Nat → ClassId} {dI : Nat → Nat → Nat} {a : Nat → Nat} {k : Nat → ClassId} {sz : Nat} {p0 : Int32} {σ : ST} {q : Int32 × ST} (h : f_X5_innerOf 20 p0 σ = some q) : Met l yX5_innerOf (.code yX5_innerOf cX5_innerOf 2 (some .int) :: pw) ({ frames := 1, cells := 0, slots := 0, locals := 21 } : Room) (va_Pc [.ref (a 20), .int p0] (vPre dC dI (wA a k σ) (tA k) sz)) (qAi dC dI a k (va_A (wA a k σ) sz) q) 0 0 (va_A (wA a k σ) sz) := metA (fun A => qAi dC dI a k A q) (plainFor_of_name (by decide)) (Nat.le_of_ble_eq_true rfl) (fun _ _ _ _ _ _ _ _ hC => b_X5_innerOf_e_20 hC h)

def f_X5_sortOf (b : Nat) (p0 : Int32) (σ : ST) : Option (Int32 × ST) := (f_X5_isType b p0 σ).bind fun q1 => if q1.1 = 0 then (some ((-1), q1.2)) else (if 0 ≤ p0.toInt ∧ p0.toInt < 262 then (some ((q1.2.1 (b + 11) p0.toNatClampNeg), q1.2)) else none)

set_option maxRecDepth 100000 in
set_option maxHeartbeats 4000000 in
theorem b_X5_sortOf_e_4 {p : Program} {l : Launch} {e : Env} {s : State} {m : MethodId} {args : Array Value} {below : List Frame} {meth : Method} {c : Code} {dC : Nat → ClassId} {dI : Nat → Nat → Nat} {a : Nat → Nat} {k : Nat → ClassId} {A : Nat → Prop} {q : Int32 × ST} (hC : CxA p s m args meth c dC dI k A cX5_sortOf RX5 (some .int) 2)   {p0 : Int32} {σ : ST} (h : f_X5_sortOf 4 p0 σ = some q) : GoA p l e ({ frames := 1, cells := 0, slots := 0, locals := 21 } : Room) s m args below meth c (MQ below (qAi dC dI a k A q) args s 0 0 A) dC dI a k A 2 0 σ (lv_args 0 [.ref (a 4), .int p0]) [] := by
  have hC0 := hC
  obtain ⟨hx, hb, hr, hml, hown, hts, hlocks, hA, hN, hK⟩ := hC0
  intro H locs ls hP hD hS hl
  have hD0 : ∀ σ1 : ST, va_D A (wA a k σ1) := fun σ1 => wA_D hD
  replace hl : lv_has ls 2 [(0, .ref (a 4)), (1, .int p0)] := hl
  unfold f_X5_sortOf at h
  refine lv_aload_n hx hb dX5_sortOf_0 rfl (lv_at hl 0 rfl) ?_
  refine lv_iload_n hx hb dX5_sortOf_1 rfl (lv_at hl 1 rfl) ?_
  obtain ⟨q1, hc, h⟩ := ib h
  have hF := va_frees hD hS hA
  refine va_calli (va_runV (As := [.int p0]) (rest := []) ⟨hx, hb, hml, hown, hts⟩ (s_X5_isType_4 hc) (cwV 1 hts (gV mw_15_9 mw_15_10 mw_15_11 mw_0_9 mw_49_26) rfl rfl rfl (by decide +kernel) ⟨(Nat.le_of_ble_eq_true rfl), (Nat.le_of_ble_eq_true rfl)⟩) (vV (ci := 5) (q0 := 4) hK hP hD hN rfl gA_4) rfl rfl hl.1 rfl (lv_room (Nat.le_of_ble_eq_true rfl)) dX5_sortOf_2 ⟨(Nat.le_of_ble_eq_true rfl), (Nat.le_of_ble_eq_true rfl)⟩) hS (fun q _ h => hF q h) hF (fun r2 u t H locs ht hvm hw hB _ _ hS => ?_)
  obtain rfl : r2 = q1.1 := hw
  replace hP : va_P (dC, dI) vwCl (wA a k q1.2) H := by rw [← ht]; exact hB.1
  replace hD := hD0 (q1.2)
  clear hB hF
  refine lv_if_eq (tgt := 17) hx hb dX5_sortOf_5 (by decide) (fun hc => ?_) (fun hc => ?_)
  · replace h := ip hc h
    refine lv_iconst (v := (-1)) hx hb dX5_sortOf_17 (by decide) ?_
    obtain rfl := Option.some.inj h
    exact W.iret hx hb hr (fun t ht hW => ⟨⟨_, (), rfl, rfl, ⟨by rw [ht]; exact hP, va_K.moved hW.alike hK, hD⟩⟩, hS.F ht⟩) hS.2.2 dX5_sortOf_18
  · replace h := iq hc h
    refine lv_aload_n hx hb dX5_sortOf_8 rfl (lv_at hl 0 rfl) ?_
    refine va_get (D := (dC, dI)) (ci := 5) (C := RX5) (T := TX5) (N := 17) hx hb hts inlX5 hown hK hP 4 gA_4 rfl 12 (by decide) (hts (.fieldLink RX5 50 "ShapeReader$Shapes" "sorts" "[I") mw_14_29) (fun _ h9 => h9) rfl dX5_sortOf_9 ?_
    refine lv_iload_n hx hb dX5_sortOf_12 rfl (lv_at hl 1 rfl) ?_
    obtain ⟨hg3, h⟩ := ig h
    refine va_iald hx hb hK hP 15 12 gA_15 yA_15 (vp_in_iff.mpr hg3) dX5_sortOf_13 ?_
    refine lv_goto (tgt := 18) hx hb dX5_sortOf_14 (by decide) ?_
    obtain rfl := Option.some.inj h
    exact W.iret hx hb hr (fun t ht hW => ⟨⟨_, (), rfl, rfl, ⟨by rw [ht]; exact hP, va_K.moved hW.alike hK, hD⟩⟩, hS.F ht⟩) hS.2.2 dX5_sortOf_18

theorem s_X5_sortOf_4 {l : Launch} {dC : Nat → ClassId} {dI : Nat → Nat → Nat} {a : Nat → Nat} {k : Nat → ClassId} {sz : Nat} {p0 : Int32} {σ : ST} {q : Int32 × ST} (h : f_X5_sortOf 4 p0 σ = some q) : Met l yX5_sortOf (.code yX5_sortOf cX5_sortOf 2 (some .int) :: pw) ({ frames := 1, cells := 0, slots := 0, locals := 21 } : Room) (va_Pc [.ref (a 4), .int p0] (vPre dC dI (wA a k σ) (tA k) sz)) (qAi dC dI a k (va_A (wA a k σ) sz) q) 0 0 (va_A (wA a k σ) sz) := metA (fun A => qAi dC dI a k A q) (plainFor_of_name (by decide)) (Nat.le_of_ble_eq_true rfl) (fun _ _ _ _ _ _ _ _ hC => b_X5_sortOf_e_4 hC h)

set_option maxRecDepth 100000 in
set_option maxHeartbeats 4000000 in
theorem b_X5_sortOf_e_20 {p : Program} {l : Launch} {e : Env} {s : State} {m : MethodId} {args : Array Value} {below : List Frame} {meth : Method} {c : Code} {dC : Nat → ClassId} {dI : Nat → Nat → Nat} {a : Nat → Nat} {k : Nat → ClassId} {A : Nat → Prop} {q : Int32 × ST} (hC : CxA p s m args meth c dC dI k A cX5_sortOf RX5 (some .int) 2)   {p0 : Int32} {σ : ST} (h : f_X5_sortOf 20 p0 σ = some q) : GoA p l e ({ frames := 1, cells := 0, slots := 0, locals := 21 } : Room) s m args below meth c (MQ below (qAi dC dI a k A q) args s 0 0 A) dC dI a k A 2 0 σ (lv_args 0 [.ref (a 20), .int p0]) [] := by
  have hC0 := hC
  obtain ⟨hx, hb, hr, hml, hown, hts, hlocks, hA, hN, hK⟩ := hC0
  intro H locs ls hP hD hS hl
  have hD0 : ∀ σ1 : ST, va_D A (wA a k σ1) := fun σ1 => wA_D hD
  replace hl : lv_has ls 2 [(0, .ref (a 20)), (1, .int p0)] := hl
  unfold f_X5_sortOf at h
  refine lv_aload_n hx hb dX5_sortOf_0 rfl (lv_at hl 0 rfl) ?_
  refine lv_iload_n hx hb dX5_sortOf_1 rfl (lv_at hl 1 rfl) ?_
  obtain ⟨q1, hc, h⟩ := ib h
  have hF := va_frees hD hS hA
  refine va_calli (va_runV (As := [.int p0]) (rest := []) ⟨hx, hb, hml, hown, hts⟩ (s_X5_isType_20 hc) (cwV 1 hts (gV mw_15_9 mw_15_10 mw_15_11 mw_0_9 mw_49_26) rfl rfl rfl (by decide +kernel) ⟨(Nat.le_of_ble_eq_true rfl), (Nat.le_of_ble_eq_true rfl)⟩) (vV (ci := 5) (q0 := 20) hK hP hD hN rfl gA_20) rfl rfl hl.1 rfl (lv_room (Nat.le_of_ble_eq_true rfl)) dX5_sortOf_2 ⟨(Nat.le_of_ble_eq_true rfl), (Nat.le_of_ble_eq_true rfl)⟩) hS (fun q _ h => hF q h) hF (fun r2 u t H locs ht hvm hw hB _ _ hS => ?_)
  obtain rfl : r2 = q1.1 := hw
  replace hP : va_P (dC, dI) vwCl (wA a k q1.2) H := by rw [← ht]; exact hB.1
  replace hD := hD0 (q1.2)
  clear hB hF
  refine lv_if_eq (tgt := 17) hx hb dX5_sortOf_5 (by decide) (fun hc => ?_) (fun hc => ?_)
  · replace h := ip hc h
    refine lv_iconst (v := (-1)) hx hb dX5_sortOf_17 (by decide) ?_
    obtain rfl := Option.some.inj h
    exact W.iret hx hb hr (fun t ht hW => ⟨⟨_, (), rfl, rfl, ⟨by rw [ht]; exact hP, va_K.moved hW.alike hK, hD⟩⟩, hS.F ht⟩) hS.2.2 dX5_sortOf_18
  · replace h := iq hc h
    refine lv_aload_n hx hb dX5_sortOf_8 rfl (lv_at hl 0 rfl) ?_
    refine va_get (D := (dC, dI)) (ci := 5) (C := RX5) (T := TX5) (N := 17) hx hb hts inlX5 hown hK hP 20 gA_20 rfl 12 (by decide) (hts (.fieldLink RX5 50 "ShapeReader$Shapes" "sorts" "[I") mw_14_29) (fun _ h9 => h9) rfl dX5_sortOf_9 ?_
    refine lv_iload_n hx hb dX5_sortOf_12 rfl (lv_at hl 1 rfl) ?_
    obtain ⟨hg3, h⟩ := ig h
    refine va_iald hx hb hK hP 31 27 gA_31 yA_31 (vp_in_iff.mpr hg3) dX5_sortOf_13 ?_
    refine lv_goto (tgt := 18) hx hb dX5_sortOf_14 (by decide) ?_
    obtain rfl := Option.some.inj h
    exact W.iret hx hb hr (fun t ht hW => ⟨⟨_, (), rfl, rfl, ⟨by rw [ht]; exact hP, va_K.moved hW.alike hK, hD⟩⟩, hS.F ht⟩) hS.2.2 dX5_sortOf_18

theorem s_X5_sortOf_20 {l : Launch} {dC : Nat → ClassId} {dI : Nat → Nat → Nat} {a : Nat → Nat} {k : Nat → ClassId} {sz : Nat} {p0 : Int32} {σ : ST} {q : Int32 × ST} (h : f_X5_sortOf 20 p0 σ = some q) : Met l yX5_sortOf (.code yX5_sortOf cX5_sortOf 2 (some .int) :: pw) ({ frames := 1, cells := 0, slots := 0, locals := 21 } : Room) (va_Pc [.ref (a 20), .int p0] (vPre dC dI (wA a k σ) (tA k) sz)) (qAi dC dI a k (va_A (wA a k σ) sz) q) 0 0 (va_A (wA a k σ) sz) := metA (fun A => qAi dC dI a k A q) (plainFor_of_name (by decide)) (Nat.le_of_ble_eq_true rfl) (fun _ _ _ _ _ _ _ _ hC => b_X5_sortOf_e_20 hC h)

def f_X0_chosenWithin_79 (r_X0_chosenWithin : Int32 → Int32 → Int32 → ST → Option (Int32 × ST)) (r_X0_fitsWithin : Int32 → Int32 → Int32 → ST → Option (Int32 × ST)) (k16 : Int32 → Int32 → Int32 → Int32 → Int32 → ST → Option (Int32 × ST)) (x1 : Int32) (x3 : Int32) (x4 : Int32) (x5 : Int32) (x6 : Int32) (σ : ST) : Option (Int32 × ST) := (f_X5_branchAfter 4 x5 σ).bind fun q1 => k16 x1 x3 x4 q1.1 (x6 + 1) q1.2
def f_X0_chosenWithin_77 (r_X0_chosenWithin : Int32 → Int32 → Int32 → ST → Option (Int32 × ST)) (r_X0_fitsWithin : Int32 → Int32 → Int32 → ST → Option (Int32 × ST)) (k16 : Int32 → Int32 → Int32 → Int32 → Int32 → ST → Option (Int32 × ST)) (x1 : Int32) (x3 : Int32) (x5 : Int32) (x6 : Int32) (y0 : Int32) (σ : ST) : Option (Int32 × ST) := f_X0_chosenWithin_79 r_X0_chosenWithin r_X0_fitsWithin k16 x1 x3 y0 x5 x6 σ
def f_X0_chosenWithin_16 (r_X0_chosenWithin : Int32 → Int32 → Int32 → ST → Option (Int32 × ST)) (r_X0_fitsWithin : Int32 → Int32 → Int32 → ST → Option (Int32 × ST)) : Nat → Int32 → Int32 → Int32 → Int32 → Int32 → ST → Option (Int32 × ST)
  | 0, _, _, _, _, _, _ => none
  | n + 1, x1, x3, x4, x5, x6, σ => if 4 ≤ x6 then (some (x4, σ)) else (if x5 = (-1) then (some (x4, σ)) else ((r_X0_fitsWithin  x1 x5 (x3 + 1) σ).bind fun q1 => if q1.1 = 0 then (f_X0_chosenWithin_79 r_X0_chosenWithin r_X0_fitsWithin (f_X0_chosenWithin_16 r_X0_chosenWithin r_X0_fitsWithin n) x1 x3 x4 x5 x6 q1.2) else ((f_X5_sortOf 4 x5 q1.2).bind fun q3 => (f_X5_sortOf 4 x1 q3.2).bind fun q5 => if q3.1 = q5.1 then (some (x5, q5.2)) else (if x4 = (-1) then (f_X0_chosenWithin_77 r_X0_chosenWithin r_X0_fitsWithin (f_X0_chosenWithin_16 r_X0_chosenWithin r_X0_fitsWithin n) x1 x3 x5 x6 x5 q5.2) else (f_X0_chosenWithin_77 r_X0_chosenWithin r_X0_fitsWithin (f_X0_chosenWithin_16 r_X0_chosenWithin r_X0_fitsWithin n) x1 x3 x5 x6 x4 q5.2)))))
def f_X0_chosenWithin (r_X0_chosenWithin : Int32 → Int32 → Int32 → ST → Option (Int32 × ST)) (r_X0_fitsWithin : Int32 → Int32 → Int32 → ST → Option (Int32 × ST)) (p0 : Int32) (p1 : Int32) (p2 : Int32) (σ : ST) : Option (Int32 × ST) := (f_X5_innerOf 4 p1 σ).bind fun q1 => f_X0_chosenWithin_16 r_X0_chosenWithin r_X0_fitsWithin FU p0 p2 (-1) q1.1 0 q1.2

def f_X0_fitsWithin_48 (r_X0_chosenWithin : Int32 → Int32 → Int32 → ST → Option (Int32 × ST)) (r_X0_fitsWithin : Int32 → Int32 → Int32 → ST → Option (Int32 × ST)) : Nat → Int32 → Int32 → Int32 → Int32 → ST → Option (Int32 × ST)
  | 0, _, _, _, _, _ => none
  | n + 1, x2, x3, x6, x7, σ => if 4 ≤ x7 then (some (0, σ)) else (if x6 = (-1) then (some (0, σ)) else ((r_X0_fitsWithin  x6 x2 (x3 + 1) σ).bind fun q1 => if q1.1 = 0 then ((f_X5_branchAfter 4 x6 q1.2).bind fun q3 => f_X0_fitsWithin_48 r_X0_chosenWithin r_X0_fitsWithin n x2 x3 q3.1 (x7 + 1) q3.2) else (some (1, q1.2))))
def f_X0_fitsWithin_207 (r_X0_chosenWithin : Int32 → Int32 → Int32 → ST → Option (Int32 × ST)) (r_X0_fitsWithin : Int32 → Int32 → Int32 → ST → Option (Int32 × ST)) (x4 : Int32) (x5 : Int32) (σ : ST) : Option (Int32 × ST) := (f_X0_plainFits  x4 x5 σ).bind fun q1 => if q1.1 = 0 ∨ q1.1 = 1 then some (q1.1, q1.2) else none
def f_X0_fitsWithin_158 (r_X0_chosenWithin : Int32 → Int32 → Int32 → ST → Option (Int32 × ST)) (r_X0_fitsWithin : Int32 → Int32 → Int32 → ST → Option (Int32 × ST)) (x1 : Int32) (x2 : Int32) (x4 : Int32) (x5 : Int32) (σ : ST) : Option (Int32 × ST) := if x4 = 7 then (if x5 = 7 then ((f_X5_innerOf 4 x1 σ).bind fun q1 => (f_X5_innerOf 4 x2 q1.2).bind fun q3 => (f_X0_bitOf  q1.1 q3.1 q3.2).bind fun q5 => if (lg_cmp ((σ.2.1 41 4) &&& q5.1) 0) = 0 then (some (0, q5.2)) else (some (1, q5.2))) else (f_X0_fitsWithin_207 r_X0_chosenWithin r_X0_fitsWithin x4 x5 σ)) else (f_X0_fitsWithin_207 r_X0_chosenWithin r_X0_fitsWithin x4 x5 σ)
def f_X0_fitsWithin (r_X0_chosenWithin : Int32 → Int32 → Int32 → ST → Option (Int32 × ST)) (r_X0_fitsWithin : Int32 → Int32 → Int32 → ST → Option (Int32 × ST)) (p0 : Int32) (p1 : Int32) (p2 : Int32) (σ : ST) : Option (Int32 × ST) := if p2 ≤ 10 then ((f_X5_sortOf 4 p0 σ).bind fun q1 => (f_X5_sortOf 4 p1 q1.2).bind fun q3 => if q1.1 = 8 then ((f_X5_innerOf 4 p0 q3.2).bind fun q13 => f_X0_fitsWithin_48 r_X0_chosenWithin r_X0_fitsWithin FU p1 p2 q13.1 0 q13.2) else (if q3.1 = 8 then ((r_X0_chosenWithin  p0 p1 (p2 + 1) q3.2).bind fun q11 => if q11.1 = (-1) then (some (0, q11.2)) else (some (1, q11.2))) else (if q1.1 = 6 then (if q3.1 = 6 then ((f_X5_innerOf 4 p0 q3.2).bind fun q5 => (f_X5_innerOf 4 p1 q5.2).bind fun q7 => (r_X0_fitsWithin  q5.1 q7.1 (p2 + 1) q7.2).bind fun q9 => if q9.1 = 0 ∨ q9.1 = 1 then some (q9.1, q9.2) else none) else (f_X0_fitsWithin_158 r_X0_chosenWithin r_X0_fitsWithin p0 p1 q1.1 q3.1 q3.2)) else (f_X0_fitsWithin_158 r_X0_chosenWithin r_X0_fitsWithin p0 p1 q1.1 q3.1 q3.2)))) else (some (0, σ))

def R_X0_chosenWithin : Nat → (Int32 → Int32 → Int32 → ST → Option (Int32 × ST)) × (Int32 → Int32 → Int32 → ST → Option (Int32 × ST))
  | 0 => ((fun _ _ _ _ => none), (fun _ _ _ _ => none))
  | n + 1 => (f_X0_chosenWithin ((R_X0_chosenWithin n).1) ((R_X0_chosenWithin n).2), f_X0_fitsWithin ((R_X0_chosenWithin n).1) ((R_X0_chosenWithin n).2))
def f_T_X0_chosenWithin (p0 : Int32) (p1 : Int32) (p2 : Int32) (σ : ST) : Option (Int32 × ST) := (R_X0_chosenWithin FR).1 p0 p1 p2 σ
def f_T_X0_fitsWithin (p0 : Int32) (p1 : Int32) (p2 : Int32) (σ : ST) : Option (Int32 × ST) := (R_X0_chosenWithin FR).2 p0 p1 p2 σ

set_option maxRecDepth 100000 in
set_option maxHeartbeats 4000000 in
theorem b_X0_chosenWithin_79 {p : Program} {l : Launch} {e : Env} {s : State} {m : MethodId} {args : Array Value} {below : List Frame} {meth : Method} {c : Code} {dC : Nat → ClassId} {dI : Nat → Nat → Nat} {a : Nat → Nat} {k : Nat → ClassId} {A : Nat → Prop} {q : Int32 × ST} (hC : CxA p s m args meth c dC dI k A cX0_chosenWithin RX0 (some .int) 7) {nn : Nat} {r_X0_chosenWithin : Int32 → Int32 → Int32 → ST → Option (Int32 × ST)} (hr_X0_chosenWithin : ∀ {sz : Nat} {p0 : Int32} {p1 : Int32} {p2 : Int32} {σ : ST} {q : Int32 × ST}, r_X0_chosenWithin  p0 p1 p2 σ = some q → Met l yX0_chosenWithin (.code yX0_chosenWithin cX0_chosenWithin 7 (some .int) :: pw) ({ frames := 2 + nn, cells := 0, slots := 0, locals := 43 + 27 * nn } : Room) (va_Pc [.ref (a 41), .int p0, .int p1, .int p2] (vPre dC dI (wA a k σ) (tA k) sz)) (qAi dC dI a k (va_A (wA a k σ) sz) q) 0 0 (va_A (wA a k σ) sz)) {r_X0_fitsWithin : Int32 → Int32 → Int32 → ST → Option (Int32 × ST)} (hr_X0_fitsWithin : ∀ {sz : Nat} {p0 : Int32} {p1 : Int32} {p2 : Int32} {σ : ST} {q : Int32 × ST}, r_X0_fitsWithin  p0 p1 p2 σ = some q → Met l yX0_fitsWithin (.code yX0_fitsWithin cX0_fitsWithin 8 (some .boolean) :: pw) ({ frames := 2 + nn, cells := 0, slots := 0, locals := 43 + 27 * nn } : Room) (va_Pc [.ref (a 41), .int p0, .int p1, .int p2] (vPre dC dI (wA a k σ) (tA k) sz)) (qAi dC dI a k (va_A (wA a k σ) sz) q) 0 0 (va_A (wA a k σ) sz)) {k16 : Int32 → Int32 → Int32 → Int32 → Int32 → ST → Option (Int32 × ST)} (hk16 : ∀ (x1 : Int32) (x3 : Int32) (x4 : Int32) (x5 : Int32) (x6 : Int32) (σ : ST), k16 x1 x3 x4 x5 x6 σ = some q → GoA p l e ({ frames := 2 + (nn + 1), cells := 0, slots := 0, locals := 43 + 27 * (nn + 1) } : Room) s m args below meth c (MQ below (qAi dC dI a k A q) args s 0 0 A) dC dI a k A 7 16 σ [(0, .ref (a 41)), (1, .int x1), (3, .int x3), (4, .int x4), (5, .int x5), (6, .int x6)] []) {x1 : Int32} {x3 : Int32} {x4 : Int32} {x5 : Int32} {x6 : Int32} {σ : ST} (h : f_X0_chosenWithin_79 r_X0_chosenWithin r_X0_fitsWithin k16 x1 x3 x4 x5 x6 σ = some q) : GoA p l e ({ frames := 2 + (nn + 1), cells := 0, slots := 0, locals := 43 + 27 * (nn + 1) } : Room) s m args below meth c (MQ below (qAi dC dI a k A q) args s 0 0 A) dC dI a k A 7 79 σ [(0, .ref (a 41)), (1, .int x1), (3, .int x3), (4, .int x4), (5, .int x5), (6, .int x6)] [] := by
  have hC0 := hC
  obtain ⟨hx, hb, hr, hml, hown, hts, hlocks, hA, hN, hK⟩ := hC0
  intro H locs ls hP hD hS hl
  have hD0 : ∀ σ1 : ST, va_D A (wA a k σ1) := fun σ1 => wA_D hD
  unfold f_X0_chosenWithin_79 at h
  refine lv_aload_n hx hb dX0_chosenWithin_79 rfl (lv_at hl 0 rfl) ?_
  refine va_get (D := (dC, dI)) (ci := 0) (C := RX0) (T := TX0) (N := 13) hx hb hts inlX0 hown hK hP 41 gA_41 rfl 0 (by decide) (hts (.fieldLink RX0 51 "ShapeReader$Matcher" "shapes" "LShapeReader$Shapes;") mw_1_0) (fun _ h9 => h9) rfl dX0_chosenWithin_80 ?_
  refine lv_iload hx hb dX0_chosenWithin_83 (lv_at hl 4 rfl) ?_
  obtain ⟨q1, hc, h⟩ := ib h
  have hF := va_frees hD hS hA
  refine va_calli (va_runV (As := [.int x5]) (rest := []) ⟨hx, hb, hml, hown, hts⟩ (s_X5_branchAfter_4 hc) (cwV 1 hts (gV mw_2_18 mw_2_19 mw_2_20 mw_0_9 mw_50_8) rfl rfl rfl (by decide +kernel) ⟨by show 1 + 1 ≤ 2 + (nn + 1); omega, by show 8 + (2 + 11) + 21 ≤ 43 + 27 * (nn + 1); omega⟩) (vV (ci := 5) (q0 := 4) hK hP hD hN rfl gA_4) rfl rfl hl.1 rfl (lv_room (Nat.le_of_ble_eq_true rfl)) dX0_chosenWithin_85 ⟨(Nat.le_of_ble_eq_true rfl), (Nat.le_of_ble_eq_true rfl)⟩) hS (fun q _ h => hF q h) hF (fun r2 u t H locs ht hvm hw hB _ _ hS => ?_)
  obtain rfl : r2 = q1.1 := hw
  replace hP : va_P (dC, dI) vwCl (wA a k q1.2) H := by rw [← ht]; exact hB.1
  replace hD := hD0 (q1.2)
  clear hB hF
  refine lv_istore (lv' := [(5, .int q1.1), (0, .ref (a 41)), (1, .int x1), (3, .int x3), (4, .int x4), (6, .int x6)]) hx hb dX0_chosenWithin_88 hl (by decide) rfl (fun ls hl => ?_)
  refine lv_iinc (v := (x6 + 1)) (lv' := [(6, .int (x6 + 1)), (5, .int q1.1), (0, .ref (a 41)), (1, .int x1), (3, .int x3), (4, .int x4)]) hx hb dX0_chosenWithin_90 hl (k := 5) rfl rfl (by decide) rfl (fun ls hl => ?_)
  refine lv_goto (tgt := 16) hx hb dX0_chosenWithin_93 (by decide) ?_
  exact hk16 _ _ _ _ _ _ h _ _ _ hP hD hS (lv_sub hl [2, 3, 4, 5, 1, 0] rfl)

set_option maxRecDepth 100000 in
set_option maxHeartbeats 4000000 in
theorem b_X0_chosenWithin_77 {p : Program} {l : Launch} {e : Env} {s : State} {m : MethodId} {args : Array Value} {below : List Frame} {meth : Method} {c : Code} {dC : Nat → ClassId} {dI : Nat → Nat → Nat} {a : Nat → Nat} {k : Nat → ClassId} {A : Nat → Prop} {q : Int32 × ST} (hC : CxA p s m args meth c dC dI k A cX0_chosenWithin RX0 (some .int) 7) {nn : Nat} {r_X0_chosenWithin : Int32 → Int32 → Int32 → ST → Option (Int32 × ST)} (hr_X0_chosenWithin : ∀ {sz : Nat} {p0 : Int32} {p1 : Int32} {p2 : Int32} {σ : ST} {q : Int32 × ST}, r_X0_chosenWithin  p0 p1 p2 σ = some q → Met l yX0_chosenWithin (.code yX0_chosenWithin cX0_chosenWithin 7 (some .int) :: pw) ({ frames := 2 + nn, cells := 0, slots := 0, locals := 43 + 27 * nn } : Room) (va_Pc [.ref (a 41), .int p0, .int p1, .int p2] (vPre dC dI (wA a k σ) (tA k) sz)) (qAi dC dI a k (va_A (wA a k σ) sz) q) 0 0 (va_A (wA a k σ) sz)) {r_X0_fitsWithin : Int32 → Int32 → Int32 → ST → Option (Int32 × ST)} (hr_X0_fitsWithin : ∀ {sz : Nat} {p0 : Int32} {p1 : Int32} {p2 : Int32} {σ : ST} {q : Int32 × ST}, r_X0_fitsWithin  p0 p1 p2 σ = some q → Met l yX0_fitsWithin (.code yX0_fitsWithin cX0_fitsWithin 8 (some .boolean) :: pw) ({ frames := 2 + nn, cells := 0, slots := 0, locals := 43 + 27 * nn } : Room) (va_Pc [.ref (a 41), .int p0, .int p1, .int p2] (vPre dC dI (wA a k σ) (tA k) sz)) (qAi dC dI a k (va_A (wA a k σ) sz) q) 0 0 (va_A (wA a k σ) sz)) {k16 : Int32 → Int32 → Int32 → Int32 → Int32 → ST → Option (Int32 × ST)} (hk16 : ∀ (x1 : Int32) (x3 : Int32) (x4 : Int32) (x5 : Int32) (x6 : Int32) (σ : ST), k16 x1 x3 x4 x5 x6 σ = some q → GoA p l e ({ frames := 2 + (nn + 1), cells := 0, slots := 0, locals := 43 + 27 * (nn + 1) } : Room) s m args below meth c (MQ below (qAi dC dI a k A q) args s 0 0 A) dC dI a k A 7 16 σ [(0, .ref (a 41)), (1, .int x1), (3, .int x3), (4, .int x4), (5, .int x5), (6, .int x6)] []) {x1 : Int32} {x3 : Int32} {x5 : Int32} {x6 : Int32} {y0 : Int32} {σ : ST} (h : f_X0_chosenWithin_77 r_X0_chosenWithin r_X0_fitsWithin k16 x1 x3 x5 x6 y0 σ = some q) : GoA p l e ({ frames := 2 + (nn + 1), cells := 0, slots := 0, locals := 43 + 27 * (nn + 1) } : Room) s m args below meth c (MQ below (qAi dC dI a k A q) args s 0 0 A) dC dI a k A 7 77 σ [(0, .ref (a 41)), (1, .int x1), (3, .int x3), (5, .int x5), (6, .int x6)] [.int y0] := by
  have hC0 := hC
  obtain ⟨hx, hb, hr, hml, hown, hts, hlocks, hA, hN, hK⟩ := hC0
  intro H locs ls hP hD hS hl
  have hD0 : ∀ σ1 : ST, va_D A (wA a k σ1) := fun σ1 => wA_D hD
  unfold f_X0_chosenWithin_77 at h
  refine lv_istore (lv' := [(4, .int y0), (0, .ref (a 41)), (1, .int x1), (3, .int x3), (5, .int x5), (6, .int x6)]) hx hb dX0_chosenWithin_77 hl (by decide) rfl (fun ls hl => ?_)
  exact b_X0_chosenWithin_79 hC hr_X0_chosenWithin hr_X0_fitsWithin hk16 h _ _ _ hP hD hS (lv_sub hl [1, 2, 3, 0, 4, 5] rfl)

set_option maxRecDepth 100000 in
set_option maxHeartbeats 4000000 in
theorem b_X0_chosenWithin_16 {p : Program} {l : Launch} {e : Env} {s : State} {m : MethodId} {args : Array Value} {below : List Frame} {meth : Method} {c : Code} {dC : Nat → ClassId} {dI : Nat → Nat → Nat} {a : Nat → Nat} {k : Nat → ClassId} {A : Nat → Prop} {q : Int32 × ST} (hC : CxA p s m args meth c dC dI k A cX0_chosenWithin RX0 (some .int) 7) {nn : Nat} {r_X0_chosenWithin : Int32 → Int32 → Int32 → ST → Option (Int32 × ST)} (hr_X0_chosenWithin : ∀ {sz : Nat} {p0 : Int32} {p1 : Int32} {p2 : Int32} {σ : ST} {q : Int32 × ST}, r_X0_chosenWithin  p0 p1 p2 σ = some q → Met l yX0_chosenWithin (.code yX0_chosenWithin cX0_chosenWithin 7 (some .int) :: pw) ({ frames := 2 + nn, cells := 0, slots := 0, locals := 43 + 27 * nn } : Room) (va_Pc [.ref (a 41), .int p0, .int p1, .int p2] (vPre dC dI (wA a k σ) (tA k) sz)) (qAi dC dI a k (va_A (wA a k σ) sz) q) 0 0 (va_A (wA a k σ) sz)) {r_X0_fitsWithin : Int32 → Int32 → Int32 → ST → Option (Int32 × ST)} (hr_X0_fitsWithin : ∀ {sz : Nat} {p0 : Int32} {p1 : Int32} {p2 : Int32} {σ : ST} {q : Int32 × ST}, r_X0_fitsWithin  p0 p1 p2 σ = some q → Met l yX0_fitsWithin (.code yX0_fitsWithin cX0_fitsWithin 8 (some .boolean) :: pw) ({ frames := 2 + nn, cells := 0, slots := 0, locals := 43 + 27 * nn } : Room) (va_Pc [.ref (a 41), .int p0, .int p1, .int p2] (vPre dC dI (wA a k σ) (tA k) sz)) (qAi dC dI a k (va_A (wA a k σ) sz) q) 0 0 (va_A (wA a k σ) sz))  : ∀ (n : Nat) (x1 : Int32) (x3 : Int32) (x4 : Int32) (x5 : Int32) (x6 : Int32) (σ : ST), f_X0_chosenWithin_16 r_X0_chosenWithin r_X0_fitsWithin n x1 x3 x4 x5 x6 σ = some q → GoA p l e ({ frames := 2 + (nn + 1), cells := 0, slots := 0, locals := 43 + 27 * (nn + 1) } : Room) s m args below meth c (MQ below (qAi dC dI a k A q) args s 0 0 A) dC dI a k A 7 16 σ [(0, .ref (a 41)), (1, .int x1), (3, .int x3), (4, .int x4), (5, .int x5), (6, .int x6)] [] := by
  intro n
  induction n with
  | zero =>
    intro x1 x3 x4 x5 x6 σ h
    rw [f_X0_chosenWithin_16] at h
    cases h
  | succ n ih =>
    intro x1 x3 x4 x5 x6 σ h
    have hC0 := hC
    obtain ⟨hx, hb, hr, hml, hown, hts, hlocks, hA, hN, hK⟩ := hC0
    intro H locs ls hP hD hS hl
    have hD0 : ∀ σ1 : ST, va_D A (wA a k σ1) := fun σ1 => wA_D hD
    rw [f_X0_chosenWithin_16] at h
    refine lv_iload hx hb dX0_chosenWithin_16 (lv_at hl 5 rfl) ?_
    refine lv_iconst (v := 4) hx hb dX0_chosenWithin_18 (by decide) ?_
    refine lv_icmp_ge (tgt := 96) hx hb dX0_chosenWithin_19 (by decide) (fun hc => ?_) (fun hc => ?_)
    · replace h := ip hc h
      refine lv_iload hx hb dX0_chosenWithin_96 (lv_at hl 3 rfl) ?_
      obtain rfl := Option.some.inj h
      exact W.iret hx hb hr (fun t ht hW => ⟨⟨_, (), rfl, rfl, ⟨by rw [ht]; exact hP, va_K.moved hW.alike hK, hD⟩⟩, hS.F ht⟩) hS.2.2 dX0_chosenWithin_98
    · replace h := iq hc h
      refine lv_iload hx hb dX0_chosenWithin_22 (lv_at hl 4 rfl) ?_
      refine lv_iconst (v := (-1)) hx hb dX0_chosenWithin_24 (by decide) ?_
      refine lv_icmp_eq (tgt := 96) hx hb dX0_chosenWithin_25 (by decide) (fun hc => ?_) (fun hc => ?_)
      · replace h := ip hc h
        refine lv_iload hx hb dX0_chosenWithin_96 (lv_at hl 3 rfl) ?_
        obtain rfl := Option.some.inj h
        exact W.iret hx hb hr (fun t ht hW => ⟨⟨_, (), rfl, rfl, ⟨by rw [ht]; exact hP, va_K.moved hW.alike hK, hD⟩⟩, hS.F ht⟩) hS.2.2 dX0_chosenWithin_98
      · replace h := iq hc h
        refine lv_aload_n hx hb dX0_chosenWithin_28 rfl (lv_at hl 0 rfl) ?_
        refine lv_iload_n hx hb dX0_chosenWithin_29 rfl (lv_at hl 1 rfl) ?_
        refine lv_iload hx hb dX0_chosenWithin_30 (lv_at hl 4 rfl) ?_
        refine lv_iload_n hx hb dX0_chosenWithin_32 rfl (lv_at hl 2 rfl) ?_
        refine lv_iconst (v := 1) hx hb dX0_chosenWithin_33 (by decide) ?_
        refine lv_iadd hx hb dX0_chosenWithin_34 ?_
        obtain ⟨q1, hc, h⟩ := ib h
        have hF := va_frees hD hS hA
        refine va_calli (va_runV (As := [.int x1, .int x5, .int (x3 + 1)]) (rest := []) ⟨hx, hb, hml, hown, hts⟩ (hr_X0_fitsWithin hc) (cwV 3 hts (gV mw_2_9 mw_2_10 mw_2_11 mw_0_4 mw_47_10) rfl rfl rfl (by decide +kernel) ⟨by show (2 + nn) + 1 ≤ 2 + (nn + 1); omega, by show 8 + (8 + 11) + (43 + 27 * nn) ≤ 43 + 27 * (nn + 1); omega⟩) (vV (ci := 0) (q0 := 41) hK hP hD hN rfl gA_41) rfl rfl hl.1 rfl (lv_room (Nat.le_of_ble_eq_true rfl)) dX0_chosenWithin_35 ⟨(Nat.le_of_ble_eq_true rfl), (Nat.le_of_ble_eq_true rfl)⟩) hS (fun q _ h => hF q h) hF (fun r2 u t H locs ht hvm hw hB _ _ hS => ?_)
        obtain rfl : r2 = q1.1 := hw
        replace hP : va_P (dC, dI) vwCl (wA a k q1.2) H := by rw [← ht]; exact hB.1
        replace hD := hD0 (q1.2)
        clear hB hF
        refine lv_if_eq (tgt := 79) hx hb dX0_chosenWithin_38 (by decide) (fun hc => ?_) (fun hc => ?_)
        · replace h := ip hc h
          exact b_X0_chosenWithin_79 hC hr_X0_chosenWithin hr_X0_fitsWithin ih h _ _ _ hP hD hS (lv_sub hl [0, 1, 2, 3, 4, 5] rfl)
        · replace h := iq hc h
          refine lv_aload_n hx hb dX0_chosenWithin_41 rfl (lv_at hl 0 rfl) ?_
          refine va_get (D := (dC, dI)) (ci := 0) (C := RX0) (T := TX0) (N := 13) hx hb hts inlX0 hown hK hP 41 gA_41 rfl 0 (by decide) (hts (.fieldLink RX0 51 "ShapeReader$Matcher" "shapes" "LShapeReader$Shapes;") mw_1_0) (fun _ h9 => h9) rfl dX0_chosenWithin_42 ?_
          refine lv_iload hx hb dX0_chosenWithin_45 (lv_at hl 4 rfl) ?_
          obtain ⟨q3, hc, h⟩ := ib h
          have hF := va_frees hD hS hA
          refine va_calli (va_runV (As := [.int x5]) (rest := []) ⟨hx, hb, hml, hown, hts⟩ (s_X5_sortOf_4 hc) (cwV 1 hts (gV mw_2_12 mw_2_13 mw_2_14 mw_0_9 mw_50_6) rfl rfl rfl (by decide +kernel) ⟨by show 1 + 1 ≤ 2 + (nn + 1); omega, by show 8 + (2 + 11) + 21 ≤ 43 + 27 * (nn + 1); omega⟩) (vV (ci := 5) (q0 := 4) hK hP hD hN rfl gA_4) rfl rfl hl.1 rfl (lv_room (Nat.le_of_ble_eq_true rfl)) dX0_chosenWithin_47 ⟨(Nat.le_of_ble_eq_true rfl), (Nat.le_of_ble_eq_true rfl)⟩) hS (fun q _ h => hF q h) hF (fun r4 u t H locs ht hvm hw hB _ _ hS => ?_)
          obtain rfl : r4 = q3.1 := hw
          replace hP : va_P (dC, dI) vwCl (wA a k q3.2) H := by rw [← ht]; exact hB.1
          replace hD := hD0 (q3.2)
          clear hB hF
          refine lv_aload_n hx hb dX0_chosenWithin_50 rfl (lv_at hl 0 rfl) ?_
          refine va_get (D := (dC, dI)) (ci := 0) (C := RX0) (T := TX0) (N := 13) hx hb hts inlX0 hown hK hP 41 gA_41 rfl 0 (by decide) (hts (.fieldLink RX0 51 "ShapeReader$Matcher" "shapes" "LShapeReader$Shapes;") mw_1_0) (fun _ h9 => h9) rfl dX0_chosenWithin_51 ?_
          refine lv_iload_n hx hb dX0_chosenWithin_54 rfl (lv_at hl 1 rfl) ?_
          obtain ⟨q5, hc, h⟩ := ib h
          have hF := va_frees hD hS hA
          refine va_calli (va_runV (As := [.int x1]) (rest := [.int q3.1]) ⟨hx, hb, hml, hown, hts⟩ (s_X5_sortOf_4 hc) (cwV 1 hts (gV mw_2_12 mw_2_13 mw_2_14 mw_0_9 mw_50_6) rfl rfl rfl (by decide +kernel) ⟨by show 1 + 1 ≤ 2 + (nn + 1); omega, by show 8 + (2 + 11) + 21 ≤ 43 + 27 * (nn + 1); omega⟩) (vV (ci := 5) (q0 := 4) hK hP hD hN rfl gA_4) rfl rfl hl.1 rfl (lv_room (Nat.le_of_ble_eq_true rfl)) dX0_chosenWithin_55 ⟨(Nat.le_of_ble_eq_true rfl), (Nat.le_of_ble_eq_true rfl)⟩) hS (fun q _ h => hF q h) hF (fun r6 u t H locs ht hvm hw hB _ _ hS => ?_)
          obtain rfl : r6 = q5.1 := hw
          replace hP : va_P (dC, dI) vwCl (wA a k q5.2) H := by rw [← ht]; exact hB.1
          replace hD := hD0 (q5.2)
          clear hB hF
          refine lv_icmp_ne (tgt := 64) hx hb dX0_chosenWithin_58 (by decide) (fun hc => ?_) (fun hc => ?_)
          · replace h := iq hc h
            refine lv_iload hx hb dX0_chosenWithin_64 (lv_at hl 3 rfl) ?_
            refine lv_iconst (v := (-1)) hx hb dX0_chosenWithin_66 (by decide) ?_
            refine lv_icmp_ne (tgt := 75) hx hb dX0_chosenWithin_67 (by decide) (fun hc => ?_) (fun hc => ?_)
            · replace h := iq hc h
              refine lv_iload hx hb dX0_chosenWithin_75 (lv_at hl 3 rfl) ?_
              exact b_X0_chosenWithin_77 hC hr_X0_chosenWithin hr_X0_fitsWithin ih h _ _ _ hP hD hS (lv_sub hl [0, 1, 2, 4, 5] rfl)
            · replace h := ip hc h
              refine lv_iload hx hb dX0_chosenWithin_70 (lv_at hl 4 rfl) ?_
              refine lv_goto (tgt := 77) hx hb dX0_chosenWithin_72 (by decide) ?_
              exact b_X0_chosenWithin_77 hC hr_X0_chosenWithin hr_X0_fitsWithin ih h _ _ _ hP hD hS (lv_sub hl [0, 1, 2, 4, 5] rfl)
          · replace h := ip hc h
            refine lv_iload hx hb dX0_chosenWithin_61 (lv_at hl 4 rfl) ?_
            obtain rfl := Option.some.inj h
            exact W.iret hx hb hr (fun t ht hW => ⟨⟨_, (), rfl, rfl, ⟨by rw [ht]; exact hP, va_K.moved hW.alike hK, hD⟩⟩, hS.F ht⟩) hS.2.2 dX0_chosenWithin_63

set_option maxRecDepth 100000 in
set_option maxHeartbeats 4000000 in
theorem b_X0_chosenWithin_e {p : Program} {l : Launch} {e : Env} {s : State} {m : MethodId} {args : Array Value} {below : List Frame} {meth : Method} {c : Code} {dC : Nat → ClassId} {dI : Nat → Nat → Nat} {a : Nat → Nat} {k : Nat → ClassId} {A : Nat → Prop} {q : Int32 × ST} (hC : CxA p s m args meth c dC dI k A cX0_chosenWithin RX0 (some .int) 7) {nn : Nat} {r_X0_chosenWithin : Int32 → Int32 → Int32 → ST → Option (Int32 × ST)} (hr_X0_chosenWithin : ∀ {sz : Nat} {p0 : Int32} {p1 : Int32} {p2 : Int32} {σ : ST} {q : Int32 × ST}, r_X0_chosenWithin  p0 p1 p2 σ = some q → Met l yX0_chosenWithin (.code yX0_chosenWithin cX0_chosenWithin 7 (some .int) :: pw) ({ frames := 2 + nn, cells := 0, slots := 0, locals := 43 + 27 * nn } : Room) (va_Pc [.ref (a 41), .int p0, .int p1, .int p2] (vPre dC dI (wA a k σ) (tA k) sz)) (qAi dC dI a k (va_A (wA a k σ) sz) q) 0 0 (va_A (wA a k σ) sz)) {r_X0_fitsWithin : Int32 → Int32 → Int32 → ST → Option (Int32 × ST)} (hr_X0_fitsWithin : ∀ {sz : Nat} {p0 : Int32} {p1 : Int32} {p2 : Int32} {σ : ST} {q : Int32 × ST}, r_X0_fitsWithin  p0 p1 p2 σ = some q → Met l yX0_fitsWithin (.code yX0_fitsWithin cX0_fitsWithin 8 (some .boolean) :: pw) ({ frames := 2 + nn, cells := 0, slots := 0, locals := 43 + 27 * nn } : Room) (va_Pc [.ref (a 41), .int p0, .int p1, .int p2] (vPre dC dI (wA a k σ) (tA k) sz)) (qAi dC dI a k (va_A (wA a k σ) sz) q) 0 0 (va_A (wA a k σ) sz))  {p0 : Int32} {p1 : Int32} {p2 : Int32} {σ : ST} (h : f_X0_chosenWithin r_X0_chosenWithin r_X0_fitsWithin p0 p1 p2 σ = some q) : GoA p l e ({ frames := 2 + (nn + 1), cells := 0, slots := 0, locals := 43 + 27 * (nn + 1) } : Room) s m args below meth c (MQ below (qAi dC dI a k A q) args s 0 0 A) dC dI a k A 7 0 σ (lv_args 0 [.ref (a 41), .int p0, .int p1, .int p2]) [] := by
  have hC0 := hC
  obtain ⟨hx, hb, hr, hml, hown, hts, hlocks, hA, hN, hK⟩ := hC0
  intro H locs ls hP hD hS hl
  have hD0 : ∀ σ1 : ST, va_D A (wA a k σ1) := fun σ1 => wA_D hD
  replace hl : lv_has ls 7 [(0, .ref (a 41)), (1, .int p0), (2, .int p1), (3, .int p2)] := hl
  unfold f_X0_chosenWithin at h
  refine lv_iconst (v := (-1)) hx hb dX0_chosenWithin_0 (by decide) ?_
  refine lv_istore (lv' := [(4, .int (-1)), (0, .ref (a 41)), (1, .int p0), (2, .int p1), (3, .int p2)]) hx hb dX0_chosenWithin_1 hl (by decide) rfl (fun ls hl => ?_)
  refine lv_aload_n hx hb dX0_chosenWithin_3 rfl (lv_at hl 1 rfl) ?_
  refine va_get (D := (dC, dI)) (ci := 0) (C := RX0) (T := TX0) (N := 13) hx hb hts inlX0 hown hK hP 41 gA_41 rfl 0 (by decide) (hts (.fieldLink RX0 51 "ShapeReader$Matcher" "shapes" "LShapeReader$Shapes;") mw_1_0) (fun _ h9 => h9) rfl dX0_chosenWithin_4 ?_
  refine lv_iload_n hx hb dX0_chosenWithin_7 rfl (lv_at hl 3 rfl) ?_
  obtain ⟨q1, hc, h⟩ := ib h
  have hF := va_frees hD hS hA
  refine va_calli (va_runV (As := [.int p1]) (rest := []) ⟨hx, hb, hml, hown, hts⟩ (s_X5_innerOf_4 hc) (cwV 1 hts (gV mw_2_15 mw_2_16 mw_2_17 mw_0_9 mw_50_7) rfl rfl rfl (by decide +kernel) ⟨by show 1 + 1 ≤ 2 + (nn + 1); omega, by show 8 + (2 + 11) + 21 ≤ 43 + 27 * (nn + 1); omega⟩) (vV (ci := 5) (q0 := 4) hK hP hD hN rfl gA_4) rfl rfl hl.1 rfl (lv_room (Nat.le_of_ble_eq_true rfl)) dX0_chosenWithin_8 ⟨(Nat.le_of_ble_eq_true rfl), (Nat.le_of_ble_eq_true rfl)⟩) hS (fun q _ h => hF q h) hF (fun r2 u t H locs ht hvm hw hB _ _ hS => ?_)
  obtain rfl : r2 = q1.1 := hw
  replace hP : va_P (dC, dI) vwCl (wA a k q1.2) H := by rw [← ht]; exact hB.1
  replace hD := hD0 (q1.2)
  clear hB hF
  refine lv_istore (lv' := [(5, .int q1.1), (4, .int (-1)), (0, .ref (a 41)), (1, .int p0), (2, .int p1), (3, .int p2)]) hx hb dX0_chosenWithin_11 hl (by decide) rfl (fun ls hl => ?_)
  refine lv_iconst (v := 0) hx hb dX0_chosenWithin_13 (by decide) ?_
  refine lv_istore (lv' := [(6, .int 0), (5, .int q1.1), (4, .int (-1)), (0, .ref (a 41)), (1, .int p0), (2, .int p1), (3, .int p2)]) hx hb dX0_chosenWithin_14 hl (by decide) rfl (fun ls hl => ?_)
  exact b_X0_chosenWithin_16 hC hr_X0_chosenWithin hr_X0_fitsWithin FU _ _ _ _ _ _ h _ _ _ hP hD hS (lv_sub hl [3, 4, 6, 2, 1, 0] rfl)


set_option maxRecDepth 100000 in
set_option maxHeartbeats 4000000 in
theorem b_X0_fitsWithin_48 {p : Program} {l : Launch} {e : Env} {s : State} {m : MethodId} {args : Array Value} {below : List Frame} {meth : Method} {c : Code} {dC : Nat → ClassId} {dI : Nat → Nat → Nat} {a : Nat → Nat} {k : Nat → ClassId} {A : Nat → Prop} {q : Int32 × ST} (hC : CxA p s m args meth c dC dI k A cX0_fitsWithin RX0 (some .boolean) 8) {nn : Nat} {r_X0_chosenWithin : Int32 → Int32 → Int32 → ST → Option (Int32 × ST)} (hr_X0_chosenWithin : ∀ {sz : Nat} {p0 : Int32} {p1 : Int32} {p2 : Int32} {σ : ST} {q : Int32 × ST}, r_X0_chosenWithin  p0 p1 p2 σ = some q → Met l yX0_chosenWithin (.code yX0_chosenWithin cX0_chosenWithin 7 (some .int) :: pw) ({ frames := 2 + nn, cells := 0, slots := 0, locals := 43 + 27 * nn } : Room) (va_Pc [.ref (a 41), .int p0, .int p1, .int p2] (vPre dC dI (wA a k σ) (tA k) sz)) (qAi dC dI a k (va_A (wA a k σ) sz) q) 0 0 (va_A (wA a k σ) sz)) {r_X0_fitsWithin : Int32 → Int32 → Int32 → ST → Option (Int32 × ST)} (hr_X0_fitsWithin : ∀ {sz : Nat} {p0 : Int32} {p1 : Int32} {p2 : Int32} {σ : ST} {q : Int32 × ST}, r_X0_fitsWithin  p0 p1 p2 σ = some q → Met l yX0_fitsWithin (.code yX0_fitsWithin cX0_fitsWithin 8 (some .boolean) :: pw) ({ frames := 2 + nn, cells := 0, slots := 0, locals := 43 + 27 * nn } : Room) (va_Pc [.ref (a 41), .int p0, .int p1, .int p2] (vPre dC dI (wA a k σ) (tA k) sz)) (qAi dC dI a k (va_A (wA a k σ) sz) q) 0 0 (va_A (wA a k σ) sz))  : ∀ (n : Nat) (x2 : Int32) (x3 : Int32) (x6 : Int32) (x7 : Int32) (σ : ST), f_X0_fitsWithin_48 r_X0_chosenWithin r_X0_fitsWithin n x2 x3 x6 x7 σ = some q → GoA p l e ({ frames := 2 + (nn + 1), cells := 0, slots := 0, locals := 43 + 27 * (nn + 1) } : Room) s m args below meth c (MQ below (qAi dC dI a k A q) args s 0 0 A) dC dI a k A 8 48 σ [(0, .ref (a 41)), (2, .int x2), (3, .int x3), (6, .int x6), (7, .int x7)] [] := by
  intro n
  induction n with
  | zero =>
    intro x2 x3 x6 x7 σ h
    rw [f_X0_fitsWithin_48] at h
    cases h
  | succ n ih =>
    intro x2 x3 x6 x7 σ h
    have hC0 := hC
    obtain ⟨hx, hb, hr, hml, hown, hts, hlocks, hA, hN, hK⟩ := hC0
    intro H locs ls hP hD hS hl
    have hD0 : ∀ σ1 : ST, va_D A (wA a k σ1) := fun σ1 => wA_D hD
    rw [f_X0_fitsWithin_48] at h
    refine lv_iload hx hb dX0_fitsWithin_48 (lv_at hl 4 rfl) ?_
    refine lv_iconst (v := 4) hx hb dX0_fitsWithin_50 (by decide) ?_
    refine lv_icmp_ge (tgt := 92) hx hb dX0_fitsWithin_51 (by decide) (fun hc => ?_) (fun hc => ?_)
    · replace h := ip hc h
      refine lv_iconst (v := 0) hx hb dX0_fitsWithin_92 (by decide) ?_
      obtain rfl := Option.some.inj h
      exact W.zret hx hb hr rfl (fun t ht hW => ⟨⟨_, (), rfl, rfl, ⟨by rw [ht]; exact hP, va_K.moved hW.alike hK, hD⟩⟩, hS.F ht⟩) hS.2.2 dX0_fitsWithin_93
    · replace h := iq hc h
      refine lv_iload hx hb dX0_fitsWithin_54 (lv_at hl 3 rfl) ?_
      refine lv_iconst (v := (-1)) hx hb dX0_fitsWithin_56 (by decide) ?_
      refine lv_icmp_eq (tgt := 92) hx hb dX0_fitsWithin_57 (by decide) (fun hc => ?_) (fun hc => ?_)
      · replace h := ip hc h
        refine lv_iconst (v := 0) hx hb dX0_fitsWithin_92 (by decide) ?_
        obtain rfl := Option.some.inj h
        exact W.zret hx hb hr rfl (fun t ht hW => ⟨⟨_, (), rfl, rfl, ⟨by rw [ht]; exact hP, va_K.moved hW.alike hK, hD⟩⟩, hS.F ht⟩) hS.2.2 dX0_fitsWithin_93
      · replace h := iq hc h
        refine lv_aload_n hx hb dX0_fitsWithin_60 rfl (lv_at hl 0 rfl) ?_
        refine lv_iload hx hb dX0_fitsWithin_61 (lv_at hl 3 rfl) ?_
        refine lv_iload_n hx hb dX0_fitsWithin_63 rfl (lv_at hl 1 rfl) ?_
        refine lv_iload_n hx hb dX0_fitsWithin_64 rfl (lv_at hl 2 rfl) ?_
        refine lv_iconst (v := 1) hx hb dX0_fitsWithin_65 (by decide) ?_
        refine lv_iadd hx hb dX0_fitsWithin_66 ?_
        obtain ⟨q1, hc, h⟩ := ib h
        have hF := va_frees hD hS hA
        refine va_calli (va_runV (As := [.int x6, .int x2, .int (x3 + 1)]) (rest := []) ⟨hx, hb, hml, hown, hts⟩ (hr_X0_fitsWithin hc) (cwV 3 hts (gV mw_2_9 mw_2_10 mw_2_11 mw_0_4 mw_47_10) rfl rfl rfl (by decide +kernel) ⟨by show (2 + nn) + 1 ≤ 2 + (nn + 1); omega, by show 8 + (8 + 11) + (43 + 27 * nn) ≤ 43 + 27 * (nn + 1); omega⟩) (vV (ci := 0) (q0 := 41) hK hP hD hN rfl gA_41) rfl rfl hl.1 rfl (lv_room (Nat.le_of_ble_eq_true rfl)) dX0_fitsWithin_67 ⟨(Nat.le_of_ble_eq_true rfl), (Nat.le_of_ble_eq_true rfl)⟩) hS (fun q _ h => hF q h) hF (fun r2 u t H locs ht hvm hw hB _ _ hS => ?_)
        obtain rfl : r2 = q1.1 := hw
        replace hP : va_P (dC, dI) vwCl (wA a k q1.2) H := by rw [← ht]; exact hB.1
        replace hD := hD0 (q1.2)
        clear hB hF
        refine lv_if_eq (tgt := 75) hx hb dX0_fitsWithin_70 (by decide) (fun hc => ?_) (fun hc => ?_)
        · replace h := ip hc h
          refine lv_aload_n hx hb dX0_fitsWithin_75 rfl (lv_at hl 0 rfl) ?_
          refine va_get (D := (dC, dI)) (ci := 0) (C := RX0) (T := TX0) (N := 13) hx hb hts inlX0 hown hK hP 41 gA_41 rfl 0 (by decide) (hts (.fieldLink RX0 51 "ShapeReader$Matcher" "shapes" "LShapeReader$Shapes;") mw_1_0) (fun _ h9 => h9) rfl dX0_fitsWithin_76 ?_
          refine lv_iload hx hb dX0_fitsWithin_79 (lv_at hl 3 rfl) ?_
          obtain ⟨q3, hc, h⟩ := ib h
          have hF := va_frees hD hS hA
          refine va_calli (va_runV (As := [.int x6]) (rest := []) ⟨hx, hb, hml, hown, hts⟩ (s_X5_branchAfter_4 hc) (cwV 1 hts (gV mw_2_18 mw_2_19 mw_2_20 mw_0_9 mw_50_8) rfl rfl rfl (by decide +kernel) ⟨by show 1 + 1 ≤ 2 + (nn + 1); omega, by show 8 + (2 + 11) + 21 ≤ 43 + 27 * (nn + 1); omega⟩) (vV (ci := 5) (q0 := 4) hK hP hD hN rfl gA_4) rfl rfl hl.1 rfl (lv_room (Nat.le_of_ble_eq_true rfl)) dX0_fitsWithin_81 ⟨(Nat.le_of_ble_eq_true rfl), (Nat.le_of_ble_eq_true rfl)⟩) hS (fun q _ h => hF q h) hF (fun r4 u t H locs ht hvm hw hB _ _ hS => ?_)
          obtain rfl : r4 = q3.1 := hw
          replace hP : va_P (dC, dI) vwCl (wA a k q3.2) H := by rw [← ht]; exact hB.1
          replace hD := hD0 (q3.2)
          clear hB hF
          refine lv_istore (lv' := [(6, .int q3.1), (0, .ref (a 41)), (2, .int x2), (3, .int x3), (7, .int x7)]) hx hb dX0_fitsWithin_84 hl (by decide) rfl (fun ls hl => ?_)
          refine lv_iinc (v := (x7 + 1)) (lv' := [(7, .int (x7 + 1)), (6, .int q3.1), (0, .ref (a 41)), (2, .int x2), (3, .int x3)]) hx hb dX0_fitsWithin_86 hl (k := 4) rfl rfl (by decide) rfl (fun ls hl => ?_)
          refine lv_goto (tgt := 48) hx hb dX0_fitsWithin_89 (by decide) ?_
          exact ih _ _ _ _ _ h _ _ _ hP hD hS (lv_sub hl [2, 3, 4, 1, 0] rfl)
        · replace h := iq hc h
          refine lv_iconst (v := 1) hx hb dX0_fitsWithin_73 (by decide) ?_
          obtain rfl := Option.some.inj h
          exact W.zret hx hb hr rfl (fun t ht hW => ⟨⟨_, (), rfl, rfl, ⟨by rw [ht]; exact hP, va_K.moved hW.alike hK, hD⟩⟩, hS.F ht⟩) hS.2.2 dX0_fitsWithin_74

set_option maxRecDepth 100000 in
set_option maxHeartbeats 4000000 in
theorem b_X0_fitsWithin_207 {p : Program} {l : Launch} {e : Env} {s : State} {m : MethodId} {args : Array Value} {below : List Frame} {meth : Method} {c : Code} {dC : Nat → ClassId} {dI : Nat → Nat → Nat} {a : Nat → Nat} {k : Nat → ClassId} {A : Nat → Prop} {q : Int32 × ST} (hC : CxA p s m args meth c dC dI k A cX0_fitsWithin RX0 (some .boolean) 8) {nn : Nat} {r_X0_chosenWithin : Int32 → Int32 → Int32 → ST → Option (Int32 × ST)} (hr_X0_chosenWithin : ∀ {sz : Nat} {p0 : Int32} {p1 : Int32} {p2 : Int32} {σ : ST} {q : Int32 × ST}, r_X0_chosenWithin  p0 p1 p2 σ = some q → Met l yX0_chosenWithin (.code yX0_chosenWithin cX0_chosenWithin 7 (some .int) :: pw) ({ frames := 2 + nn, cells := 0, slots := 0, locals := 43 + 27 * nn } : Room) (va_Pc [.ref (a 41), .int p0, .int p1, .int p2] (vPre dC dI (wA a k σ) (tA k) sz)) (qAi dC dI a k (va_A (wA a k σ) sz) q) 0 0 (va_A (wA a k σ) sz)) {r_X0_fitsWithin : Int32 → Int32 → Int32 → ST → Option (Int32 × ST)} (hr_X0_fitsWithin : ∀ {sz : Nat} {p0 : Int32} {p1 : Int32} {p2 : Int32} {σ : ST} {q : Int32 × ST}, r_X0_fitsWithin  p0 p1 p2 σ = some q → Met l yX0_fitsWithin (.code yX0_fitsWithin cX0_fitsWithin 8 (some .boolean) :: pw) ({ frames := 2 + nn, cells := 0, slots := 0, locals := 43 + 27 * nn } : Room) (va_Pc [.ref (a 41), .int p0, .int p1, .int p2] (vPre dC dI (wA a k σ) (tA k) sz)) (qAi dC dI a k (va_A (wA a k σ) sz) q) 0 0 (va_A (wA a k σ) sz))  {x4 : Int32} {x5 : Int32} {σ : ST} (h : f_X0_fitsWithin_207 r_X0_chosenWithin r_X0_fitsWithin x4 x5 σ = some q) : GoA p l e ({ frames := 2 + (nn + 1), cells := 0, slots := 0, locals := 43 + 27 * (nn + 1) } : Room) s m args below meth c (MQ below (qAi dC dI a k A q) args s 0 0 A) dC dI a k A 8 207 σ [(4, .int x4), (5, .int x5)] [] := by
  have hC0 := hC
  obtain ⟨hx, hb, hr, hml, hown, hts, hlocks, hA, hN, hK⟩ := hC0
  intro H locs ls hP hD hS hl
  have hD0 : ∀ σ1 : ST, va_D A (wA a k σ1) := fun σ1 => wA_D hD
  unfold f_X0_fitsWithin_207 at h
  refine lv_iload hx hb dX0_fitsWithin_207 (lv_at hl 0 rfl) ?_
  refine lv_iload hx hb dX0_fitsWithin_209 (lv_at hl 1 rfl) ?_
  obtain ⟨q1, hc, h⟩ := ib h
  have hF := va_frees hD hS hA
  refine va_calli (va_runS (As := [.int x4, .int x5]) (rest := []) ⟨hx, hb, hml, hown, hts⟩ (s_X0_plainFits hc) (va_cwS 2 hts (gS mw_2_24 mw_2_25 mw_0_4 mw_47_11) rfl rfl rfl (by decide +kernel) ⟨by show 0 + 1 ≤ 2 + (nn + 1); omega, by show 8 + (2 + 11) + 0 ≤ 43 + 27 * (nn + 1); omega⟩) (vS hK hP hD hN) rfl rfl hl.1 rfl (lv_room (Nat.le_of_ble_eq_true rfl)) dX0_fitsWithin_211 ⟨(Nat.le_of_ble_eq_true rfl), (Nat.le_of_ble_eq_true rfl)⟩) hS (fun q _ h => hF q h) hF (fun r2 u t H locs ht hvm hw hB _ _ hS => ?_)
  obtain rfl : r2 = q1.1 := hw
  replace hP : va_P (dC, dI) vwCl (wA a k q1.2) H := by rw [← ht]; exact hB.1
  replace hD := hD0 (q1.2)
  clear hB hF
  obtain ⟨hg, h⟩ := ig h
  obtain rfl := Option.some.inj h
  exact W.zret hx hb hr (zn hg) (fun t ht hW => ⟨⟨_, (), rfl, rfl, ⟨by rw [ht]; exact hP, va_K.moved hW.alike hK, hD⟩⟩, hS.F ht⟩) hS.2.2 dX0_fitsWithin_214

set_option maxRecDepth 100000 in
set_option maxHeartbeats 4000000 in
theorem b_X0_fitsWithin_158 {p : Program} {l : Launch} {e : Env} {s : State} {m : MethodId} {args : Array Value} {below : List Frame} {meth : Method} {c : Code} {dC : Nat → ClassId} {dI : Nat → Nat → Nat} {a : Nat → Nat} {k : Nat → ClassId} {A : Nat → Prop} {q : Int32 × ST} (hC : CxA p s m args meth c dC dI k A cX0_fitsWithin RX0 (some .boolean) 8) {nn : Nat} {r_X0_chosenWithin : Int32 → Int32 → Int32 → ST → Option (Int32 × ST)} (hr_X0_chosenWithin : ∀ {sz : Nat} {p0 : Int32} {p1 : Int32} {p2 : Int32} {σ : ST} {q : Int32 × ST}, r_X0_chosenWithin  p0 p1 p2 σ = some q → Met l yX0_chosenWithin (.code yX0_chosenWithin cX0_chosenWithin 7 (some .int) :: pw) ({ frames := 2 + nn, cells := 0, slots := 0, locals := 43 + 27 * nn } : Room) (va_Pc [.ref (a 41), .int p0, .int p1, .int p2] (vPre dC dI (wA a k σ) (tA k) sz)) (qAi dC dI a k (va_A (wA a k σ) sz) q) 0 0 (va_A (wA a k σ) sz)) {r_X0_fitsWithin : Int32 → Int32 → Int32 → ST → Option (Int32 × ST)} (hr_X0_fitsWithin : ∀ {sz : Nat} {p0 : Int32} {p1 : Int32} {p2 : Int32} {σ : ST} {q : Int32 × ST}, r_X0_fitsWithin  p0 p1 p2 σ = some q → Met l yX0_fitsWithin (.code yX0_fitsWithin cX0_fitsWithin 8 (some .boolean) :: pw) ({ frames := 2 + nn, cells := 0, slots := 0, locals := 43 + 27 * nn } : Room) (va_Pc [.ref (a 41), .int p0, .int p1, .int p2] (vPre dC dI (wA a k σ) (tA k) sz)) (qAi dC dI a k (va_A (wA a k σ) sz) q) 0 0 (va_A (wA a k σ) sz))  {x1 : Int32} {x2 : Int32} {x4 : Int32} {x5 : Int32} {σ : ST} (h : f_X0_fitsWithin_158 r_X0_chosenWithin r_X0_fitsWithin x1 x2 x4 x5 σ = some q) : GoA p l e ({ frames := 2 + (nn + 1), cells := 0, slots := 0, locals := 43 + 27 * (nn + 1) } : Room) s m args below meth c (MQ below (qAi dC dI a k A q) args s 0 0 A) dC dI a k A 8 158 σ [(0, .ref (a 41)), (1, .int x1), (2, .int x2), (4, .int x4), (5, .int x5)] [] := by
  have hC0 := hC
  obtain ⟨hx, hb, hr, hml, hown, hts, hlocks, hA, hN, hK⟩ := hC0
  intro H locs ls hP hD hS hl
  have hD0 : ∀ σ1 : ST, va_D A (wA a k σ1) := fun σ1 => wA_D hD
  unfold f_X0_fitsWithin_158 at h
  refine lv_iload hx hb dX0_fitsWithin_158 (lv_at hl 3 rfl) ?_
  refine lv_bipush (v := 7) hx hb dX0_fitsWithin_160 (by decide) ?_
  refine lv_icmp_ne (tgt := 207) hx hb dX0_fitsWithin_162 (by decide) (fun hc => ?_) (fun hc => ?_)
  · replace h := iq hc h
    exact b_X0_fitsWithin_207 hC hr_X0_chosenWithin hr_X0_fitsWithin h _ _ _ hP hD hS (lv_sub hl [3, 4] rfl)
  · replace h := ip hc h
    refine lv_iload hx hb dX0_fitsWithin_165 (lv_at hl 4 rfl) ?_
    refine lv_bipush (v := 7) hx hb dX0_fitsWithin_167 (by decide) ?_
    refine lv_icmp_ne (tgt := 207) hx hb dX0_fitsWithin_169 (by decide) (fun hc => ?_) (fun hc => ?_)
    · replace h := iq hc h
      exact b_X0_fitsWithin_207 hC hr_X0_chosenWithin hr_X0_fitsWithin h _ _ _ hP hD hS (lv_sub hl [3, 4] rfl)
    · replace h := ip hc h
      refine lv_aload_n hx hb dX0_fitsWithin_172 rfl (lv_at hl 0 rfl) ?_
      refine va_get (D := (dC, dI)) (ci := 0) (C := RX0) (T := TX0) (N := 13) hx hb hts inlX0 hown hK hP 41 gA_41 rfl 4 (by decide) (hts (.fieldLink RX0 23 "ShapeReader$Matcher" "relation" "J") mw_0_21) (fun _ h9 => h9) rfl dX0_fitsWithin_173 ?_
      refine lv_aload_n hx hb dX0_fitsWithin_176 rfl (lv_at hl 0 rfl) ?_
      refine va_get (D := (dC, dI)) (ci := 0) (C := RX0) (T := TX0) (N := 13) hx hb hts inlX0 hown hK hP 41 gA_41 rfl 0 (by decide) (hts (.fieldLink RX0 51 "ShapeReader$Matcher" "shapes" "LShapeReader$Shapes;") mw_1_0) (fun _ h9 => h9) rfl dX0_fitsWithin_177 ?_
      refine lv_iload_n hx hb dX0_fitsWithin_180 rfl (lv_at hl 1 rfl) ?_
      obtain ⟨q1, hc, h⟩ := ib h
      have hF := va_frees hD hS hA
      refine va_calli (va_runV (As := [.int x1]) (rest := [.long (σ.2.1 41 4)]) ⟨hx, hb, hml, hown, hts⟩ (s_X5_innerOf_4 hc) (cwV 1 hts (gV mw_2_15 mw_2_16 mw_2_17 mw_0_9 mw_50_7) rfl rfl rfl (by decide +kernel) ⟨by show 1 + 1 ≤ 2 + (nn + 1); omega, by show 8 + (2 + 11) + 21 ≤ 43 + 27 * (nn + 1); omega⟩) (vV (ci := 5) (q0 := 4) hK hP hD hN rfl gA_4) rfl rfl hl.1 rfl (lv_room (Nat.le_of_ble_eq_true rfl)) dX0_fitsWithin_181 ⟨(Nat.le_of_ble_eq_true rfl), (Nat.le_of_ble_eq_true rfl)⟩) hS (fun q _ h => hF q h) hF (fun r2 u t H locs ht hvm hw hB _ _ hS => ?_)
      obtain rfl : r2 = q1.1 := hw
      replace hP : va_P (dC, dI) vwCl (wA a k q1.2) H := by rw [← ht]; exact hB.1
      replace hD := hD0 (q1.2)
      clear hB hF
      refine lv_aload_n hx hb dX0_fitsWithin_184 rfl (lv_at hl 0 rfl) ?_
      refine va_get (D := (dC, dI)) (ci := 0) (C := RX0) (T := TX0) (N := 13) hx hb hts inlX0 hown hK hP 41 gA_41 rfl 0 (by decide) (hts (.fieldLink RX0 51 "ShapeReader$Matcher" "shapes" "LShapeReader$Shapes;") mw_1_0) (fun _ h9 => h9) rfl dX0_fitsWithin_185 ?_
      refine lv_iload_n hx hb dX0_fitsWithin_188 rfl (lv_at hl 2 rfl) ?_
      obtain ⟨q3, hc, h⟩ := ib h
      have hF := va_frees hD hS hA
      refine va_calli (va_runV (As := [.int x2]) (rest := [.int q1.1, .long (σ.2.1 41 4)]) ⟨hx, hb, hml, hown, hts⟩ (s_X5_innerOf_4 hc) (cwV 1 hts (gV mw_2_15 mw_2_16 mw_2_17 mw_0_9 mw_50_7) rfl rfl rfl (by decide +kernel) ⟨by show 1 + 1 ≤ 2 + (nn + 1); omega, by show 8 + (2 + 11) + 21 ≤ 43 + 27 * (nn + 1); omega⟩) (vV (ci := 5) (q0 := 4) hK hP hD hN rfl gA_4) rfl rfl hl.1 rfl (lv_room (Nat.le_of_ble_eq_true rfl)) dX0_fitsWithin_189 ⟨(Nat.le_of_ble_eq_true rfl), (Nat.le_of_ble_eq_true rfl)⟩) hS (fun q _ h => hF q h) hF (fun r4 u t H locs ht hvm hw hB _ _ hS => ?_)
      obtain rfl : r4 = q3.1 := hw
      replace hP : va_P (dC, dI) vwCl (wA a k q3.2) H := by rw [← ht]; exact hB.1
      replace hD := hD0 (q3.2)
      clear hB hF
      obtain ⟨q5, hc, h⟩ := ib h
      have hF := va_frees hD hS hA
      refine va_calll (va_runS (As := [.int q1.1, .int q3.1]) (rest := [.long (σ.2.1 41 4)]) ⟨hx, hb, hml, hown, hts⟩ (s_X0_bitOf hc) (va_cwS 2 hts (gS mw_1_18 mw_1_19 mw_0_4 mw_47_4) rfl rfl rfl (by decide +kernel) ⟨by show 1 + 1 ≤ 2 + (nn + 1); omega, by show 8 + (2 + 11) + 22 ≤ 43 + 27 * (nn + 1); omega⟩) (vS hK hP hD hN) rfl rfl hl.1 rfl (lv_room (Nat.le_of_ble_eq_true rfl)) dX0_fitsWithin_192 ⟨(Nat.le_of_ble_eq_true rfl), (Nat.le_of_ble_eq_true rfl)⟩) hS (fun q _ h => hF q h) hF (fun r6 u t H locs ht hvm hw hB _ _ hS => ?_)
      obtain rfl : r6 = q5.1 := hw
      replace hP : va_P (dC, dI) vwCl (wA a k q5.2) H := by rw [← ht]; exact hB.1
      replace hD := hD0 (q5.2)
      clear hB hF
      refine lv_land hx hb dX0_fitsWithin_195 ?_
      refine lv_lconst (v := 0) hx hb dX0_fitsWithin_196 (by decide) ?_
      refine W.lcmp hx hb dX0_fitsWithin_197 ?_
      refine lv_if_eq (tgt := 205) hx hb dX0_fitsWithin_198 (by decide) (fun hc => ?_) (fun hc => ?_)
      · replace h := ip hc h
        refine lv_iconst (v := 0) hx hb dX0_fitsWithin_205 (by decide) ?_
        obtain rfl := Option.some.inj h
        exact W.zret hx hb hr rfl (fun t ht hW => ⟨⟨_, (), rfl, rfl, ⟨by rw [ht]; exact hP, va_K.moved hW.alike hK, hD⟩⟩, hS.F ht⟩) hS.2.2 dX0_fitsWithin_206
      · replace h := iq hc h
        refine lv_iconst (v := 1) hx hb dX0_fitsWithin_201 (by decide) ?_
        refine lv_goto (tgt := 206) hx hb dX0_fitsWithin_202 (by decide) ?_
        obtain rfl := Option.some.inj h
        exact W.zret hx hb hr rfl (fun t ht hW => ⟨⟨_, (), rfl, rfl, ⟨by rw [ht]; exact hP, va_K.moved hW.alike hK, hD⟩⟩, hS.F ht⟩) hS.2.2 dX0_fitsWithin_206

set_option maxRecDepth 100000 in
set_option maxHeartbeats 4000000 in
theorem b_X0_fitsWithin_e {p : Program} {l : Launch} {e : Env} {s : State} {m : MethodId} {args : Array Value} {below : List Frame} {meth : Method} {c : Code} {dC : Nat → ClassId} {dI : Nat → Nat → Nat} {a : Nat → Nat} {k : Nat → ClassId} {A : Nat → Prop} {q : Int32 × ST} (hC : CxA p s m args meth c dC dI k A cX0_fitsWithin RX0 (some .boolean) 8) {nn : Nat} {r_X0_chosenWithin : Int32 → Int32 → Int32 → ST → Option (Int32 × ST)} (hr_X0_chosenWithin : ∀ {sz : Nat} {p0 : Int32} {p1 : Int32} {p2 : Int32} {σ : ST} {q : Int32 × ST}, r_X0_chosenWithin  p0 p1 p2 σ = some q → Met l yX0_chosenWithin (.code yX0_chosenWithin cX0_chosenWithin 7 (some .int) :: pw) ({ frames := 2 + nn, cells := 0, slots := 0, locals := 43 + 27 * nn } : Room) (va_Pc [.ref (a 41), .int p0, .int p1, .int p2] (vPre dC dI (wA a k σ) (tA k) sz)) (qAi dC dI a k (va_A (wA a k σ) sz) q) 0 0 (va_A (wA a k σ) sz)) {r_X0_fitsWithin : Int32 → Int32 → Int32 → ST → Option (Int32 × ST)} (hr_X0_fitsWithin : ∀ {sz : Nat} {p0 : Int32} {p1 : Int32} {p2 : Int32} {σ : ST} {q : Int32 × ST}, r_X0_fitsWithin  p0 p1 p2 σ = some q → Met l yX0_fitsWithin (.code yX0_fitsWithin cX0_fitsWithin 8 (some .boolean) :: pw) ({ frames := 2 + nn, cells := 0, slots := 0, locals := 43 + 27 * nn } : Room) (va_Pc [.ref (a 41), .int p0, .int p1, .int p2] (vPre dC dI (wA a k σ) (tA k) sz)) (qAi dC dI a k (va_A (wA a k σ) sz) q) 0 0 (va_A (wA a k σ) sz))  {p0 : Int32} {p1 : Int32} {p2 : Int32} {σ : ST} (h : f_X0_fitsWithin r_X0_chosenWithin r_X0_fitsWithin p0 p1 p2 σ = some q) : GoA p l e ({ frames := 2 + (nn + 1), cells := 0, slots := 0, locals := 43 + 27 * (nn + 1) } : Room) s m args below meth c (MQ below (qAi dC dI a k A q) args s 0 0 A) dC dI a k A 8 0 σ (lv_args 0 [.ref (a 41), .int p0, .int p1, .int p2]) [] := by
  have hC0 := hC
  obtain ⟨hx, hb, hr, hml, hown, hts, hlocks, hA, hN, hK⟩ := hC0
  intro H locs ls hP hD hS hl
  have hD0 : ∀ σ1 : ST, va_D A (wA a k σ1) := fun σ1 => wA_D hD
  replace hl : lv_has ls 8 [(0, .ref (a 41)), (1, .int p0), (2, .int p1), (3, .int p2)] := hl
  unfold f_X0_fitsWithin at h
  refine lv_iload_n hx hb dX0_fitsWithin_0 rfl (lv_at hl 3 rfl) ?_
  refine lv_bipush (v := 10) hx hb dX0_fitsWithin_1 (by decide) ?_
  refine lv_icmp_le (tgt := 8) hx hb dX0_fitsWithin_3 (by decide) (fun hc => ?_) (fun hc => ?_)
  · replace h := ip hc h
    refine lv_aload_n hx hb dX0_fitsWithin_8 rfl (lv_at hl 0 rfl) ?_
    refine va_get (D := (dC, dI)) (ci := 0) (C := RX0) (T := TX0) (N := 13) hx hb hts inlX0 hown hK hP 41 gA_41 rfl 0 (by decide) (hts (.fieldLink RX0 51 "ShapeReader$Matcher" "shapes" "LShapeReader$Shapes;") mw_1_0) (fun _ h9 => h9) rfl dX0_fitsWithin_9 ?_
    refine lv_iload_n hx hb dX0_fitsWithin_12 rfl (lv_at hl 1 rfl) ?_
    obtain ⟨q1, hc, h⟩ := ib h
    have hF := va_frees hD hS hA
    refine va_calli (va_runV (As := [.int p0]) (rest := []) ⟨hx, hb, hml, hown, hts⟩ (s_X5_sortOf_4 hc) (cwV 1 hts (gV mw_2_12 mw_2_13 mw_2_14 mw_0_9 mw_50_6) rfl rfl rfl (by decide +kernel) ⟨by show 1 + 1 ≤ 2 + (nn + 1); omega, by show 8 + (2 + 11) + 21 ≤ 43 + 27 * (nn + 1); omega⟩) (vV (ci := 5) (q0 := 4) hK hP hD hN rfl gA_4) rfl rfl hl.1 rfl (lv_room (Nat.le_of_ble_eq_true rfl)) dX0_fitsWithin_13 ⟨(Nat.le_of_ble_eq_true rfl), (Nat.le_of_ble_eq_true rfl)⟩) hS (fun q _ h => hF q h) hF (fun r2 u t H locs ht hvm hw hB _ _ hS => ?_)
    obtain rfl : r2 = q1.1 := hw
    replace hP : va_P (dC, dI) vwCl (wA a k q1.2) H := by rw [← ht]; exact hB.1
    replace hD := hD0 (q1.2)
    clear hB hF
    refine lv_istore (lv' := [(4, .int q1.1), (0, .ref (a 41)), (1, .int p0), (2, .int p1), (3, .int p2)]) hx hb dX0_fitsWithin_16 hl (by decide) rfl (fun ls hl => ?_)
    refine lv_aload_n hx hb dX0_fitsWithin_18 rfl (lv_at hl 1 rfl) ?_
    refine va_get (D := (dC, dI)) (ci := 0) (C := RX0) (T := TX0) (N := 13) hx hb hts inlX0 hown hK hP 41 gA_41 rfl 0 (by decide) (hts (.fieldLink RX0 51 "ShapeReader$Matcher" "shapes" "LShapeReader$Shapes;") mw_1_0) (fun _ h9 => h9) rfl dX0_fitsWithin_19 ?_
    refine lv_iload_n hx hb dX0_fitsWithin_22 rfl (lv_at hl 3 rfl) ?_
    obtain ⟨q3, hc, h⟩ := ib h
    have hF := va_frees hD hS hA
    refine va_calli (va_runV (As := [.int p1]) (rest := []) ⟨hx, hb, hml, hown, hts⟩ (s_X5_sortOf_4 hc) (cwV 1 hts (gV mw_2_12 mw_2_13 mw_2_14 mw_0_9 mw_50_6) rfl rfl rfl (by decide +kernel) ⟨by show 1 + 1 ≤ 2 + (nn + 1); omega, by show 8 + (2 + 11) + 21 ≤ 43 + 27 * (nn + 1); omega⟩) (vV (ci := 5) (q0 := 4) hK hP hD hN rfl gA_4) rfl rfl hl.1 rfl (lv_room (Nat.le_of_ble_eq_true rfl)) dX0_fitsWithin_23 ⟨(Nat.le_of_ble_eq_true rfl), (Nat.le_of_ble_eq_true rfl)⟩) hS (fun q _ h => hF q h) hF (fun r4 u t H locs ht hvm hw hB _ _ hS => ?_)
    obtain rfl : r4 = q3.1 := hw
    replace hP : va_P (dC, dI) vwCl (wA a k q3.2) H := by rw [← ht]; exact hB.1
    replace hD := hD0 (q3.2)
    clear hB hF
    refine lv_istore (lv' := [(5, .int q3.1), (4, .int q1.1), (0, .ref (a 41)), (1, .int p0), (2, .int p1), (3, .int p2)]) hx hb dX0_fitsWithin_26 hl (by decide) rfl (fun ls hl => ?_)
    refine lv_iload hx hb dX0_fitsWithin_28 (lv_at hl 1 rfl) ?_
    refine lv_bipush (v := 8) hx hb dX0_fitsWithin_30 (by decide) ?_
    refine lv_icmp_ne (tgt := 94) hx hb dX0_fitsWithin_32 (by decide) (fun hc => ?_) (fun hc => ?_)
    · replace h := iq hc h
      refine lv_iload hx hb dX0_fitsWithin_94 (lv_at hl 0 rfl) ?_
      refine lv_bipush (v := 8) hx hb dX0_fitsWithin_96 (by decide) ?_
      refine lv_icmp_ne (tgt := 120) hx hb dX0_fitsWithin_98 (by decide) (fun hc => ?_) (fun hc => ?_)
      · replace h := iq hc h
        refine lv_iload hx hb dX0_fitsWithin_120 (lv_at hl 1 rfl) ?_
        refine lv_bipush (v := 6) hx hb dX0_fitsWithin_122 (by decide) ?_
        refine lv_icmp_ne (tgt := 158) hx hb dX0_fitsWithin_124 (by decide) (fun hc => ?_) (fun hc => ?_)
        · replace h := iq hc h
          exact b_X0_fitsWithin_158 hC hr_X0_chosenWithin hr_X0_fitsWithin h _ _ _ hP hD hS (lv_sub hl [2, 3, 4, 1, 0] rfl)
        · replace h := ip hc h
          refine lv_iload hx hb dX0_fitsWithin_127 (lv_at hl 0 rfl) ?_
          refine lv_bipush (v := 6) hx hb dX0_fitsWithin_129 (by decide) ?_
          refine lv_icmp_ne (tgt := 158) hx hb dX0_fitsWithin_131 (by decide) (fun hc => ?_) (fun hc => ?_)
          · replace h := iq hc h
            exact b_X0_fitsWithin_158 hC hr_X0_chosenWithin hr_X0_fitsWithin h _ _ _ hP hD hS (lv_sub hl [2, 3, 4, 1, 0] rfl)
          · replace h := ip hc h
            refine lv_aload_n hx hb dX0_fitsWithin_134 rfl (lv_at hl 2 rfl) ?_
            refine lv_aload_n hx hb dX0_fitsWithin_135 rfl (lv_at hl 2 rfl) ?_
            refine va_get (D := (dC, dI)) (ci := 0) (C := RX0) (T := TX0) (N := 13) hx hb hts inlX0 hown hK hP 41 gA_41 rfl 0 (by decide) (hts (.fieldLink RX0 51 "ShapeReader$Matcher" "shapes" "LShapeReader$Shapes;") mw_1_0) (fun _ h9 => h9) rfl dX0_fitsWithin_136 ?_
            refine lv_iload_n hx hb dX0_fitsWithin_139 rfl (lv_at hl 3 rfl) ?_
            obtain ⟨q5, hc, h⟩ := ib h
            have hF := va_frees hD hS hA
            refine va_calli (va_runV (As := [.int p0]) (rest := [.ref (a 41)]) ⟨hx, hb, hml, hown, hts⟩ (s_X5_innerOf_4 hc) (cwV 1 hts (gV mw_2_15 mw_2_16 mw_2_17 mw_0_9 mw_50_7) rfl rfl rfl (by decide +kernel) ⟨by show 1 + 1 ≤ 2 + (nn + 1); omega, by show 8 + (2 + 11) + 21 ≤ 43 + 27 * (nn + 1); omega⟩) (vV (ci := 5) (q0 := 4) hK hP hD hN rfl gA_4) rfl rfl hl.1 rfl (lv_room (Nat.le_of_ble_eq_true rfl)) dX0_fitsWithin_140 ⟨(Nat.le_of_ble_eq_true rfl), (Nat.le_of_ble_eq_true rfl)⟩) hS (fun q _ h => hF q h) hF (fun r6 u t H locs ht hvm hw hB _ _ hS => ?_)
            obtain rfl : r6 = q5.1 := hw
            replace hP : va_P (dC, dI) vwCl (wA a k q5.2) H := by rw [← ht]; exact hB.1
            replace hD := hD0 (q5.2)
            clear hB hF
            refine lv_aload_n hx hb dX0_fitsWithin_143 rfl (lv_at hl 2 rfl) ?_
            refine va_get (D := (dC, dI)) (ci := 0) (C := RX0) (T := TX0) (N := 13) hx hb hts inlX0 hown hK hP 41 gA_41 rfl 0 (by decide) (hts (.fieldLink RX0 51 "ShapeReader$Matcher" "shapes" "LShapeReader$Shapes;") mw_1_0) (fun _ h9 => h9) rfl dX0_fitsWithin_144 ?_
            refine lv_iload_n hx hb dX0_fitsWithin_147 rfl (lv_at hl 4 rfl) ?_
            obtain ⟨q7, hc, h⟩ := ib h
            have hF := va_frees hD hS hA
            refine va_calli (va_runV (As := [.int p1]) (rest := [.int q5.1, .ref (a 41)]) ⟨hx, hb, hml, hown, hts⟩ (s_X5_innerOf_4 hc) (cwV 1 hts (gV mw_2_15 mw_2_16 mw_2_17 mw_0_9 mw_50_7) rfl rfl rfl (by decide +kernel) ⟨by show 1 + 1 ≤ 2 + (nn + 1); omega, by show 8 + (2 + 11) + 21 ≤ 43 + 27 * (nn + 1); omega⟩) (vV (ci := 5) (q0 := 4) hK hP hD hN rfl gA_4) rfl rfl hl.1 rfl (lv_room (Nat.le_of_ble_eq_true rfl)) dX0_fitsWithin_148 ⟨(Nat.le_of_ble_eq_true rfl), (Nat.le_of_ble_eq_true rfl)⟩) hS (fun q _ h => hF q h) hF (fun r8 u t H locs ht hvm hw hB _ _ hS => ?_)
            obtain rfl : r8 = q7.1 := hw
            replace hP : va_P (dC, dI) vwCl (wA a k q7.2) H := by rw [← ht]; exact hB.1
            replace hD := hD0 (q7.2)
            clear hB hF
            refine lv_iload_n hx hb dX0_fitsWithin_151 rfl (lv_at hl 5 rfl) ?_
            refine lv_iconst (v := 1) hx hb dX0_fitsWithin_152 (by decide) ?_
            refine lv_iadd hx hb dX0_fitsWithin_153 ?_
            obtain ⟨q9, hc, h⟩ := ib h
            have hF := va_frees hD hS hA
            refine va_calli (va_runV (As := [.int q5.1, .int q7.1, .int (p2 + 1)]) (rest := []) ⟨hx, hb, hml, hown, hts⟩ (hr_X0_fitsWithin hc) (cwV 3 hts (gV mw_2_9 mw_2_10 mw_2_11 mw_0_4 mw_47_10) rfl rfl rfl (by decide +kernel) ⟨by show (2 + nn) + 1 ≤ 2 + (nn + 1); omega, by show 8 + (8 + 11) + (43 + 27 * nn) ≤ 43 + 27 * (nn + 1); omega⟩) (vV (ci := 0) (q0 := 41) hK hP hD hN rfl gA_41) rfl rfl hl.1 rfl (lv_room (Nat.le_of_ble_eq_true rfl)) dX0_fitsWithin_154 ⟨(Nat.le_of_ble_eq_true rfl), (Nat.le_of_ble_eq_true rfl)⟩) hS (fun q _ h => hF q h) hF (fun r10 u t H locs ht hvm hw hB _ _ hS => ?_)
            obtain rfl : r10 = q9.1 := hw
            replace hP : va_P (dC, dI) vwCl (wA a k q9.2) H := by rw [← ht]; exact hB.1
            replace hD := hD0 (q9.2)
            clear hB hF
            obtain ⟨hg, h⟩ := ig h
            obtain rfl := Option.some.inj h
            exact W.zret hx hb hr (zn hg) (fun t ht hW => ⟨⟨_, (), rfl, rfl, ⟨by rw [ht]; exact hP, va_K.moved hW.alike hK, hD⟩⟩, hS.F ht⟩) hS.2.2 dX0_fitsWithin_157
      · replace h := ip hc h
        refine lv_aload_n hx hb dX0_fitsWithin_101 rfl (lv_at hl 2 rfl) ?_
        refine lv_iload_n hx hb dX0_fitsWithin_102 rfl (lv_at hl 3 rfl) ?_
        refine lv_iload_n hx hb dX0_fitsWithin_103 rfl (lv_at hl 4 rfl) ?_
        refine lv_iload_n hx hb dX0_fitsWithin_104 rfl (lv_at hl 5 rfl) ?_
        refine lv_iconst (v := 1) hx hb dX0_fitsWithin_105 (by decide) ?_
        refine lv_iadd hx hb dX0_fitsWithin_106 ?_
        obtain ⟨q11, hc, h⟩ := ib h
        have hF := va_frees hD hS hA
        refine va_calli (va_runV (As := [.int p0, .int p1, .int (p2 + 1)]) (rest := []) ⟨hx, hb, hml, hown, hts⟩ (hr_X0_chosenWithin hc) (cwV 3 hts (gV mw_2_21 mw_2_22 mw_2_23 mw_0_4 mw_47_13) rfl rfl rfl (by decide +kernel) ⟨by show (2 + nn) + 1 ≤ 2 + (nn + 1); omega, by show 8 + (7 + 11) + (43 + 27 * nn) ≤ 43 + 27 * (nn + 1); omega⟩) (vV (ci := 0) (q0 := 41) hK hP hD hN rfl gA_41) rfl rfl hl.1 rfl (lv_room (Nat.le_of_ble_eq_true rfl)) dX0_fitsWithin_107 ⟨(Nat.le_of_ble_eq_true rfl), (Nat.le_of_ble_eq_true rfl)⟩) hS (fun q _ h => hF q h) hF (fun r12 u t H locs ht hvm hw hB _ _ hS => ?_)
        obtain rfl : r12 = q11.1 := hw
        replace hP : va_P (dC, dI) vwCl (wA a k q11.2) H := by rw [← ht]; exact hB.1
        replace hD := hD0 (q11.2)
        clear hB hF
        refine lv_iconst (v := (-1)) hx hb dX0_fitsWithin_110 (by decide) ?_
        refine lv_icmp_eq (tgt := 118) hx hb dX0_fitsWithin_111 (by decide) (fun hc => ?_) (fun hc => ?_)
        · replace h := ip hc h
          refine lv_iconst (v := 0) hx hb dX0_fitsWithin_118 (by decide) ?_
          obtain rfl := Option.some.inj h
          exact W.zret hx hb hr rfl (fun t ht hW => ⟨⟨_, (), rfl, rfl, ⟨by rw [ht]; exact hP, va_K.moved hW.alike hK, hD⟩⟩, hS.F ht⟩) hS.2.2 dX0_fitsWithin_119
        · replace h := iq hc h
          refine lv_iconst (v := 1) hx hb dX0_fitsWithin_114 (by decide) ?_
          refine lv_goto (tgt := 119) hx hb dX0_fitsWithin_115 (by decide) ?_
          obtain rfl := Option.some.inj h
          exact W.zret hx hb hr rfl (fun t ht hW => ⟨⟨_, (), rfl, rfl, ⟨by rw [ht]; exact hP, va_K.moved hW.alike hK, hD⟩⟩, hS.F ht⟩) hS.2.2 dX0_fitsWithin_119
    · replace h := ip hc h
      refine lv_aload_n hx hb dX0_fitsWithin_35 rfl (lv_at hl 2 rfl) ?_
      refine va_get (D := (dC, dI)) (ci := 0) (C := RX0) (T := TX0) (N := 13) hx hb hts inlX0 hown hK hP 41 gA_41 rfl 0 (by decide) (hts (.fieldLink RX0 51 "ShapeReader$Matcher" "shapes" "LShapeReader$Shapes;") mw_1_0) (fun _ h9 => h9) rfl dX0_fitsWithin_36 ?_
      refine lv_iload_n hx hb dX0_fitsWithin_39 rfl (lv_at hl 3 rfl) ?_
      obtain ⟨q13, hc, h⟩ := ib h
      have hF := va_frees hD hS hA
      refine va_calli (va_runV (As := [.int p0]) (rest := []) ⟨hx, hb, hml, hown, hts⟩ (s_X5_innerOf_4 hc) (cwV 1 hts (gV mw_2_15 mw_2_16 mw_2_17 mw_0_9 mw_50_7) rfl rfl rfl (by decide +kernel) ⟨by show 1 + 1 ≤ 2 + (nn + 1); omega, by show 8 + (2 + 11) + 21 ≤ 43 + 27 * (nn + 1); omega⟩) (vV (ci := 5) (q0 := 4) hK hP hD hN rfl gA_4) rfl rfl hl.1 rfl (lv_room (Nat.le_of_ble_eq_true rfl)) dX0_fitsWithin_40 ⟨(Nat.le_of_ble_eq_true rfl), (Nat.le_of_ble_eq_true rfl)⟩) hS (fun q _ h => hF q h) hF (fun r14 u t H locs ht hvm hw hB _ _ hS => ?_)
      obtain rfl : r14 = q13.1 := hw
      replace hP : va_P (dC, dI) vwCl (wA a k q13.2) H := by rw [← ht]; exact hB.1
      replace hD := hD0 (q13.2)
      clear hB hF
      refine lv_istore (lv' := [(6, .int q13.1), (5, .int q3.1), (4, .int q1.1), (0, .ref (a 41)), (1, .int p0), (2, .int p1), (3, .int p2)]) hx hb dX0_fitsWithin_43 hl (by decide) rfl (fun ls hl => ?_)
      refine lv_iconst (v := 0) hx hb dX0_fitsWithin_45 (by decide) ?_
      refine lv_istore (lv' := [(7, .int 0), (6, .int q13.1), (5, .int q3.1), (4, .int q1.1), (0, .ref (a 41)), (1, .int p0), (2, .int p1), (3, .int p2)]) hx hb dX0_fitsWithin_46 hl (by decide) rfl (fun ls hl => ?_)
      exact b_X0_fitsWithin_48 hC hr_X0_chosenWithin hr_X0_fitsWithin FU _ _ _ _ _ h _ _ _ hP hD hS (lv_sub hl [4, 6, 7, 1, 0] rfl)
  · replace h := iq hc h
    refine lv_iconst (v := 0) hx hb dX0_fitsWithin_6 (by decide) ?_
    obtain rfl := Option.some.inj h
    exact W.zret hx hb hr rfl (fun t ht hW => ⟨⟨_, (), rfl, rfl, ⟨by rw [ht]; exact hP, va_K.moved hW.alike hK, hD⟩⟩, hS.F ht⟩) hS.2.2 dX0_fitsWithin_7


set_option maxRecDepth 100000 in
set_option maxHeartbeats 4000000 in
theorem s_R_X0_chosenWithin {l : Launch} {dC : Nat → ClassId} {dI : Nat → Nat → Nat} {a : Nat → Nat} {k : Nat → ClassId} : ∀ n : Nat, (∀ {sz : Nat} {p0 : Int32} {p1 : Int32} {p2 : Int32} {σ : ST} {q : Int32 × ST}, (R_X0_chosenWithin n).1 p0 p1 p2 σ = some q → Met l yX0_chosenWithin (.code yX0_chosenWithin cX0_chosenWithin 7 (some .int) :: pw) ({ frames := 2 + n, cells := 0, slots := 0, locals := 43 + 27 * n } : Room) (va_Pc [.ref (a 41), .int p0, .int p1, .int p2] (vPre dC dI (wA a k σ) (tA k) sz)) (qAi dC dI a k (va_A (wA a k σ) sz) q) 0 0 (va_A (wA a k σ) sz)) ∧ (∀ {sz : Nat} {p0 : Int32} {p1 : Int32} {p2 : Int32} {σ : ST} {q : Int32 × ST}, (R_X0_chosenWithin n).2 p0 p1 p2 σ = some q → Met l yX0_fitsWithin (.code yX0_fitsWithin cX0_fitsWithin 8 (some .boolean) :: pw) ({ frames := 2 + n, cells := 0, slots := 0, locals := 43 + 27 * n } : Room) (va_Pc [.ref (a 41), .int p0, .int p1, .int p2] (vPre dC dI (wA a k σ) (tA k) sz)) (qAi dC dI a k (va_A (wA a k σ) sz) q) 0 0 (va_A (wA a k σ) sz)) := by
  intro n
  induction n with
  | zero => exact ⟨(fun h => nomatch h), (fun h => nomatch h)⟩
  | succ n ih => exact ⟨(fun h => metA (fun A => qAi dC dI a k A _) (plainFor_of_name (by decide)) (Nat.le_of_ble_eq_true rfl) (fun _ _ _ _ _ _ _ _ hC => b_X0_chosenWithin_e hC ih.1 ih.2 h)), (fun h => metA (fun A => qAi dC dI a k A _) (plainFor_of_name (by decide)) (Nat.le_of_ble_eq_true rfl) (fun _ _ _ _ _ _ _ _ hC => b_X0_fitsWithin_e hC ih.1 ih.2 h))⟩
theorem s_X0_chosenWithin {l : Launch} {dC : Nat → ClassId} {dI : Nat → Nat → Nat} {a : Nat → Nat} {k : Nat → ClassId} {sz : Nat} {p0 : Int32} {p1 : Int32} {p2 : Int32} {σ : ST} {q : Int32 × ST} (h : f_T_X0_chosenWithin p0 p1 p2 σ = some q) : Met l yX0_chosenWithin (.code yX0_chosenWithin cX0_chosenWithin 7 (some .int) :: pw) ({ frames := 162, cells := 0, slots := 0, locals := 4363 } : Room) (va_Pc [.ref (a 41), .int p0, .int p1, .int p2] (vPre dC dI (wA a k σ) (tA k) sz)) (qAi dC dI a k (va_A (wA a k σ) sz) q) 0 0 (va_A (wA a k σ) sz) := (s_R_X0_chosenWithin FR).1 h
theorem s_X0_fitsWithin {l : Launch} {dC : Nat → ClassId} {dI : Nat → Nat → Nat} {a : Nat → Nat} {k : Nat → ClassId} {sz : Nat} {p0 : Int32} {p1 : Int32} {p2 : Int32} {σ : ST} {q : Int32 × ST} (h : f_T_X0_fitsWithin p0 p1 p2 σ = some q) : Met l yX0_fitsWithin (.code yX0_fitsWithin cX0_fitsWithin 8 (some .boolean) :: pw) ({ frames := 162, cells := 0, slots := 0, locals := 4363 } : Room) (va_Pc [.ref (a 41), .int p0, .int p1, .int p2] (vPre dC dI (wA a k σ) (tA k) sz)) (qAi dC dI a k (va_A (wA a k σ) sz) q) 0 0 (va_A (wA a k σ) sz) := (s_R_X0_chosenWithin FR).2 h

def f_X0_chosen (p0 : Int32) (p1 : Int32) (σ : ST) : Option (Int32 × ST) := (f_T_X0_chosenWithin  p0 p1 0 σ).bind fun q1 => some (q1.1, q1.2)

set_option maxRecDepth 100000 in
set_option maxHeartbeats 4000000 in
theorem b_X0_chosen_e {p : Program} {l : Launch} {e : Env} {s : State} {m : MethodId} {args : Array Value} {below : List Frame} {meth : Method} {c : Code} {dC : Nat → ClassId} {dI : Nat → Nat → Nat} {a : Nat → Nat} {k : Nat → ClassId} {A : Nat → Prop} {q : Int32 × ST} (hC : CxA p s m args meth c dC dI k A cX0_chosen RX0 (some .int) 3)   {p0 : Int32} {p1 : Int32} {σ : ST} (h : f_X0_chosen  p0 p1 σ = some q) : GoA p l e ({ frames := 163, cells := 0, slots := 0, locals := 4389 } : Room) s m args below meth c (MQ below (qAi dC dI a k A q) args s 0 0 A) dC dI a k A 3 0 σ (lv_args 0 [.ref (a 41), .int p0, .int p1]) [] := by
  have hC0 := hC
  obtain ⟨hx, hb, hr, hml, hown, hts, hlocks, hA, hN, hK⟩ := hC0
  intro H locs ls hP hD hS hl
  have hD0 : ∀ σ1 : ST, va_D A (wA a k σ1) := fun σ1 => wA_D hD
  replace hl : lv_has ls 3 [(0, .ref (a 41)), (1, .int p0), (2, .int p1)] := hl
  unfold f_X0_chosen at h
  refine lv_aload_n hx hb dX0_chosen_0 rfl (lv_at hl 0 rfl) ?_
  refine lv_iload_n hx hb dX0_chosen_1 rfl (lv_at hl 1 rfl) ?_
  refine lv_iload_n hx hb dX0_chosen_2 rfl (lv_at hl 2 rfl) ?_
  refine lv_iconst (v := 0) hx hb dX0_chosen_3 (by decide) ?_
  obtain ⟨q1, hc, h⟩ := ib h
  have hF := va_frees hD hS hA
  refine va_calli (va_runV (As := [.int p0, .int p1, .int 0]) (rest := []) ⟨hx, hb, hml, hown, hts⟩ (s_X0_chosenWithin hc) (cwV 3 hts (gV mw_2_21 mw_2_22 mw_2_23 mw_0_4 mw_47_13) rfl rfl rfl (by decide +kernel) ⟨(Nat.le_of_ble_eq_true rfl), (Nat.le_of_ble_eq_true rfl)⟩) (vV (ci := 0) (q0 := 41) hK hP hD hN rfl gA_41) rfl rfl hl.1 rfl (lv_room (Nat.le_of_ble_eq_true rfl)) dX0_chosen_4 ⟨(Nat.le_of_ble_eq_true rfl), (Nat.le_of_ble_eq_true rfl)⟩) hS (fun q _ h => hF q h) hF (fun r2 u t H locs ht hvm hw hB _ _ hS => ?_)
  obtain rfl : r2 = q1.1 := hw
  replace hP : va_P (dC, dI) vwCl (wA a k q1.2) H := by rw [← ht]; exact hB.1
  replace hD := hD0 (q1.2)
  clear hB hF
  obtain rfl := Option.some.inj h
  exact W.iret hx hb hr (fun t ht hW => ⟨⟨_, (), rfl, rfl, ⟨by rw [ht]; exact hP, va_K.moved hW.alike hK, hD⟩⟩, hS.F ht⟩) hS.2.2 dX0_chosen_7

theorem s_X0_chosen {l : Launch} {dC : Nat → ClassId} {dI : Nat → Nat → Nat} {a : Nat → Nat} {k : Nat → ClassId} {sz : Nat} {p0 : Int32} {p1 : Int32} {σ : ST} {q : Int32 × ST} (h : f_X0_chosen  p0 p1 σ = some q) : Met l yX0_chosen (.code yX0_chosen cX0_chosen 3 (some .int) :: pw) ({ frames := 163, cells := 0, slots := 0, locals := 4389 } : Room) (va_Pc [.ref (a 41), .int p0, .int p1] (vPre dC dI (wA a k σ) (tA k) sz)) (qAi dC dI a k (va_A (wA a k σ) sz) q) 0 0 (va_A (wA a k σ) sz) := metA (fun A => qAi dC dI a k A q) (plainFor_of_name (by decide)) (Nat.le_of_ble_eq_true rfl) (fun _ _ _ _ _ _ _ _ hC => b_X0_chosen_e hC h)
