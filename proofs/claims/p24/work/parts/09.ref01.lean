theorem dJxe99ae_doubleToLongBits_ccdee_0 : decode cJxe99ae_doubleToLongBits_ccdee 0 = .ok (.dload_n 0, 1) := by decide +kernel
theorem dJxe99ae_doubleToLongBits_ccdee_1 : decode cJxe99ae_doubleToLongBits_ccdee 1 = .ok (.invokestatic 122, 3) := by decide +kernel
theorem dJxe99ae_doubleToLongBits_ccdee_4 : decode cJxe99ae_doubleToLongBits_ccdee 4 = .ok (.ifCond .ne 8, 3) := by decide +kernel
theorem dJxe99ae_doubleToLongBits_ccdee_7 : decode cJxe99ae_doubleToLongBits_ccdee 7 = .ok (.dload_n 0, 1) := by decide +kernel
theorem dJxe99ae_doubleToLongBits_ccdee_8 : decode cJxe99ae_doubleToLongBits_ccdee 8 = .ok (.invokestatic 134, 3) := by decide +kernel
theorem dJxe99ae_doubleToLongBits_ccdee_11 : decode cJxe99ae_doubleToLongBits_ccdee 11 = .ok (.lreturn, 1) := by decide +kernel
theorem dJxe99ae_doubleToLongBits_ccdee_12 : decode cJxe99ae_doubleToLongBits_ccdee 12 = .ok (.ldc2_w 137, 3) := by decide +kernel
theorem dJxe99ae_doubleToLongBits_ccdee_15 : decode cJxe99ae_doubleToLongBits_ccdee 15 = .ok (.lreturn, 1) := by decide +kernel
theorem dJxe99ae_isNaN_b9ae7_0 : decode cJxe99ae_isNaN_b9ae7 0 = .ok (.dload_n 0, 1) := by decide +kernel
theorem dJxe99ae_isNaN_b9ae7_1 : decode cJxe99ae_isNaN_b9ae7 1 = .ok (.dload_n 0, 1) := by decide +kernel
theorem dJxe99ae_isNaN_b9ae7_2 : decode cJxe99ae_isNaN_b9ae7 2 = .ok (.dcmp .l, 1) := by decide +kernel
theorem dJxe99ae_isNaN_b9ae7_3 : decode cJxe99ae_isNaN_b9ae7 3 = .ok (.ifCond .eq 7, 3) := by decide +kernel
theorem dJxe99ae_isNaN_b9ae7_6 : decode cJxe99ae_isNaN_b9ae7 6 = .ok (.iconst 1, 1) := by decide +kernel
theorem dJxe99ae_isNaN_b9ae7_7 : decode cJxe99ae_isNaN_b9ae7 7 = .ok (.goto 4, 3) := by decide +kernel
theorem dJxe99ae_isNaN_b9ae7_10 : decode cJxe99ae_isNaN_b9ae7 10 = .ok (.iconst 0, 1) := by decide +kernel
theorem dJxe99ae_isNaN_b9ae7_11 : decode cJxe99ae_isNaN_b9ae7 11 = .ok (.ireturn, 1) := by decide +kernel
theorem dX11_chosen_0 : decode cX11_chosen 0 = .ok (.iconst (-1), 1) := by decide +kernel
theorem dX11_chosen_1 : decode cX11_chosen 1 = .ok (.istore_n 3, 1) := by decide +kernel
theorem dX11_chosen_2 : decode cX11_chosen 2 = .ok (.iconst 0, 1) := by decide +kernel
theorem dX11_chosen_3 : decode cX11_chosen 3 = .ok (.istore 4, 2) := by decide +kernel
theorem dX11_chosen_5 : decode cX11_chosen 5 = .ok (.iload 4, 2) := by decide +kernel
theorem dX11_chosen_7 : decode cX11_chosen 7 = .ok (.aload_n 0, 1) := by decide +kernel
theorem dX11_chosen_8 : decode cX11_chosen 8 = .ok (.getfield 20, 3) := by decide +kernel
theorem dX11_chosen_11 : decode cX11_chosen 11 = .ok (.iload_n 2, 1) := by decide +kernel
theorem dX11_chosen_12 : decode cX11_chosen 12 = .ok (.iaload, 1) := by decide +kernel
theorem dX11_chosen_13 : decode cX11_chosen 13 = .ok (.if_icmp .ge 62, 3) := by decide +kernel
theorem dX11_chosen_16 : decode cX11_chosen 16 = .ok (.aload_n 0, 1) := by decide +kernel
theorem dX11_chosen_17 : decode cX11_chosen 17 = .ok (.getfield 23, 3) := by decide +kernel
theorem dX11_chosen_20 : decode cX11_chosen 20 = .ok (.iconst 4, 1) := by decide +kernel
theorem dX11_chosen_21 : decode cX11_chosen 21 = .ok (.iload_n 2, 1) := by decide +kernel
theorem dX11_chosen_22 : decode cX11_chosen 22 = .ok (.imul, 1) := by decide +kernel
theorem dX11_chosen_23 : decode cX11_chosen 23 = .ok (.iload 4, 2) := by decide +kernel
theorem dX11_chosen_25 : decode cX11_chosen 25 = .ok (.iadd, 1) := by decide +kernel
theorem dX11_chosen_26 : decode cX11_chosen 26 = .ok (.iaload, 1) := by decide +kernel
theorem dX11_chosen_27 : decode cX11_chosen 27 = .ok (.istore 5, 2) := by decide +kernel
theorem dX11_chosen_29 : decode cX11_chosen 29 = .ok (.aload_n 0, 1) := by decide +kernel
theorem dX11_chosen_30 : decode cX11_chosen 30 = .ok (.iload_n 1, 1) := by decide +kernel
theorem dX11_chosen_31 : decode cX11_chosen 31 = .ok (.iload 5, 2) := by decide +kernel
theorem dX11_chosen_33 : decode cX11_chosen 33 = .ok (.invokevirtual 498, 3) := by decide +kernel
theorem dX11_chosen_36 : decode cX11_chosen 36 = .ok (.ifCond .eq 33, 3) := by decide +kernel
theorem dX11_chosen_39 : decode cX11_chosen 39 = .ok (.aload_n 0, 1) := by decide +kernel
theorem dX11_chosen_40 : decode cX11_chosen 40 = .ok (.getfield 13, 3) := by decide +kernel
theorem dX11_chosen_43 : decode cX11_chosen 43 = .ok (.iload 5, 2) := by decide +kernel
theorem dX11_chosen_45 : decode cX11_chosen 45 = .ok (.iaload, 1) := by decide +kernel
theorem dX11_chosen_46 : decode cX11_chosen 46 = .ok (.aload_n 0, 1) := by decide +kernel
theorem dX11_chosen_47 : decode cX11_chosen 47 = .ok (.getfield 13, 3) := by decide +kernel
theorem dX11_chosen_50 : decode cX11_chosen 50 = .ok (.iload_n 1, 1) := by decide +kernel
theorem dX11_chosen_51 : decode cX11_chosen 51 = .ok (.iaload, 1) := by decide +kernel
theorem dX11_chosen_52 : decode cX11_chosen 52 = .ok (.if_icmp .ne 6, 3) := by decide +kernel
theorem dX11_chosen_55 : decode cX11_chosen 55 = .ok (.iload 4, 2) := by decide +kernel
theorem dX11_chosen_57 : decode cX11_chosen 57 = .ok (.ireturn, 1) := by decide +kernel
theorem dX11_chosen_58 : decode cX11_chosen 58 = .ok (.iload_n 3, 1) := by decide +kernel
theorem dX11_chosen_59 : decode cX11_chosen 59 = .ok (.ifCond .ge 8, 3) := by decide +kernel
theorem dX11_chosen_62 : decode cX11_chosen 62 = .ok (.iload 4, 2) := by decide +kernel
theorem dX11_chosen_64 : decode cX11_chosen 64 = .ok (.goto 4, 3) := by decide +kernel
theorem dX11_chosen_67 : decode cX11_chosen 67 = .ok (.iload_n 3, 1) := by decide +kernel
theorem dX11_chosen_68 : decode cX11_chosen 68 = .ok (.istore_n 3, 1) := by decide +kernel
theorem dX11_chosen_69 : decode cX11_chosen 69 = .ok (.iinc 4 1, 3) := by decide +kernel
theorem dX11_chosen_72 : decode cX11_chosen 72 = .ok (.goto (-67), 3) := by decide +kernel
theorem dX11_chosen_75 : decode cX11_chosen 75 = .ok (.iload_n 3, 1) := by decide +kernel
theorem dX11_chosen_76 : decode cX11_chosen 76 = .ok (.ireturn, 1) := by decide +kernel
theorem dX11_fails_0 : decode cX11_fails 0 = .ok (.aload_n 0, 1) := by decide +kernel
theorem dX11_fails_1 : decode cX11_fails 1 = .ok (.iload_n 1, 1) := by decide +kernel
theorem dX11_fails_2 : decode cX11_fails 2 = .ok (.putfield 539, 3) := by decide +kernel
theorem dX11_fails_5 : decode cX11_fails 5 = .ok (.aload_n 0, 1) := by decide +kernel
theorem dX11_fails_6 : decode cX11_fails 6 = .ok (.iload_n 2, 1) := by decide +kernel
theorem dX11_fails_7 : decode cX11_fails 7 = .ok (.putfield 542, 3) := by decide +kernel
theorem dX11_fails_10 : decode cX11_fails 10 = .ok (.aload_n 0, 1) := by decide +kernel
theorem dX11_fails_11 : decode cX11_fails 11 = .ok (.iload_n 1, 1) := by decide +kernel
theorem dX11_fails_12 : decode cX11_fails 12 = .ok (.bipush 14, 2) := by decide +kernel
theorem dX11_fails_14 : decode cX11_fails 14 = .ok (.if_icmp .eq 9, 3) := by decide +kernel
theorem dX11_fails_17 : decode cX11_fails 17 = .ok (.iload_n 1, 1) := by decide +kernel
theorem dX11_fails_18 : decode cX11_fails 18 = .ok (.bipush 15, 2) := by decide +kernel
theorem dX11_fails_20 : decode cX11_fails 20 = .ok (.if_icmp .ne 7, 3) := by decide +kernel
theorem dX11_fails_23 : decode cX11_fails 23 = .ok (.iconst 0, 1) := by decide +kernel
theorem dX11_fails_24 : decode cX11_fails 24 = .ok (.goto 7, 3) := by decide +kernel
theorem dX11_fails_27 : decode cX11_fails 27 = .ok (.aload_n 0, 1) := by decide +kernel
theorem dX11_fails_28 : decode cX11_fails 28 = .ok (.getfield 516, 3) := by decide +kernel
theorem dX11_fails_31 : decode cX11_fails 31 = .ok (.putfield 545, 3) := by decide +kernel
theorem dX11_fails_34 : decode cX11_fails 34 = .ok (.iconst 0, 1) := by decide +kernel
theorem dX11_fails_35 : decode cX11_fails 35 = .ok (.istore_n 3, 1) := by decide +kernel
theorem dX11_fails_36 : decode cX11_fails 36 = .ok (.iload_n 3, 1) := by decide +kernel
theorem dX11_fails_37 : decode cX11_fails 37 = .ok (.aload_n 0, 1) := by decide +kernel
theorem dX11_fails_38 : decode cX11_fails 38 = .ok (.getfield 545, 3) := by decide +kernel
theorem dX11_fails_41 : decode cX11_fails 41 = .ok (.if_icmp .ge 21, 3) := by decide +kernel
theorem dX11_fails_44 : decode cX11_fails 44 = .ok (.aload_n 0, 1) := by decide +kernel
theorem dX11_fails_45 : decode cX11_fails 45 = .ok (.getfield 133, 3) := by decide +kernel
theorem dX11_fails_48 : decode cX11_fails 48 = .ok (.iload_n 3, 1) := by decide +kernel
theorem dX11_fails_49 : decode cX11_fails 49 = .ok (.aload_n 0, 1) := by decide +kernel
theorem dX11_fails_50 : decode cX11_fails 50 = .ok (.getfield 118, 3) := by decide +kernel
theorem dX11_fails_53 : decode cX11_fails 53 = .ok (.iload_n 3, 1) := by decide +kernel
theorem dX11_fails_54 : decode cX11_fails 54 = .ok (.iaload, 1) := by decide +kernel
theorem dX11_fails_55 : decode cX11_fails 55 = .ok (.iastore, 1) := by decide +kernel
theorem dX11_fails_56 : decode cX11_fails 56 = .ok (.iinc 3 1, 3) := by decide +kernel
theorem dX11_fails_59 : decode cX11_fails 59 = .ok (.goto (-23), 3) := by decide +kernel
theorem dX11_fails_62 : decode cX11_fails 62 = .ok (.iconst 0, 1) := by decide +kernel
theorem dX11_fails_63 : decode cX11_fails 63 = .ok (.ireturn, 1) := by decide +kernel
theorem dX11_fieldFor_0 : decode cX11_fieldFor 0 = .ok (.aload_n 0, 1) := by decide +kernel
theorem dX11_fieldFor_1 : decode cX11_fieldFor 1 = .ok (.bipush 6, 2) := by decide +kernel
theorem dX11_fieldFor_3 : decode cX11_fieldFor 3 = .ok (.aload_n 0, 1) := by decide +kernel
theorem dX11_fieldFor_4 : decode cX11_fieldFor 4 = .ok (.getfield 492, 3) := by decide +kernel
theorem dX11_fieldFor_7 : decode cX11_fieldFor 7 = .ok (.imul, 1) := by decide +kernel
theorem dX11_fieldFor_8 : decode cX11_fieldFor 8 = .ok (.iload_n 1, 1) := by decide +kernel
theorem dX11_fieldFor_9 : decode cX11_fieldFor 9 = .ok (.iadd, 1) := by decide +kernel
theorem dX11_fieldFor_10 : decode cX11_fieldFor 10 = .ok (.aload_n 0, 1) := by decide +kernel
theorem dX11_fieldFor_11 : decode cX11_fieldFor 11 = .ok (.getfield 45, 3) := by decide +kernel
theorem dX11_fieldFor_14 : decode cX11_fieldFor 14 = .ok (.iload_n 2, 1) := by decide +kernel
theorem dX11_fieldFor_15 : decode cX11_fieldFor 15 = .ok (.laload, 1) := by decide +kernel
theorem dX11_fieldFor_16 : decode cX11_fieldFor 16 = .ok (.invokevirtual 355, 3) := by decide +kernel
theorem dX11_fieldFor_19 : decode cX11_fieldFor 19 = .ok (.istore_n 3, 1) := by decide +kernel
theorem dX11_fieldFor_20 : decode cX11_fieldFor 20 = .ok (.iload_n 3, 1) := by decide +kernel
theorem dX11_fieldFor_21 : decode cX11_fieldFor 21 = .ok (.ifCond .ge 36, 3) := by decide +kernel
theorem dX11_fieldFor_24 : decode cX11_fieldFor 24 = .ok (.aload_n 0, 1) := by decide +kernel
theorem dX11_fieldFor_25 : decode cX11_fieldFor 25 = .ok (.getfield 51, 3) := by decide +kernel
theorem dX11_fieldFor_28 : decode cX11_fieldFor 28 = .ok (.iload_n 2, 1) := by decide +kernel
theorem dX11_fieldFor_29 : decode cX11_fieldFor 29 = .ok (.laload, 1) := by decide +kernel
theorem dX11_fieldFor_30 : decode cX11_fieldFor 30 = .ok (.lconst 0, 1) := by decide +kernel
theorem dX11_fieldFor_31 : decode cX11_fieldFor 31 = .ok (.lcmp, 1) := by decide +kernel
theorem dX11_fieldFor_32 : decode cX11_fieldFor 32 = .ok (.ifCond .le 25, 3) := by decide +kernel
theorem dX11_fieldFor_35 : decode cX11_fieldFor 35 = .ok (.aload_n 0, 1) := by decide +kernel
theorem dX11_fieldFor_36 : decode cX11_fieldFor 36 = .ok (.bipush 6, 2) := by decide +kernel
theorem dX11_fieldFor_38 : decode cX11_fieldFor 38 = .ok (.aload_n 0, 1) := by decide +kernel
theorem dX11_fieldFor_39 : decode cX11_fieldFor 39 = .ok (.getfield 492, 3) := by decide +kernel
theorem dX11_fieldFor_42 : decode cX11_fieldFor 42 = .ok (.imul, 1) := by decide +kernel
theorem dX11_fieldFor_43 : decode cX11_fieldFor 43 = .ok (.iload_n 1, 1) := by decide +kernel
theorem dX11_fieldFor_44 : decode cX11_fieldFor 44 = .ok (.iadd, 1) := by decide +kernel
theorem dX11_fieldFor_45 : decode cX11_fieldFor 45 = .ok (.aload_n 0, 1) := by decide +kernel
theorem dX11_fieldFor_46 : decode cX11_fieldFor 46 = .ok (.getfield 51, 3) := by decide +kernel
theorem dX11_fieldFor_49 : decode cX11_fieldFor 49 = .ok (.iload_n 2, 1) := by decide +kernel
theorem dX11_fieldFor_50 : decode cX11_fieldFor 50 = .ok (.laload, 1) := by decide +kernel
theorem dX11_fieldFor_51 : decode cX11_fieldFor 51 = .ok (.invokevirtual 355, 3) := by decide +kernel
theorem dX11_fieldFor_54 : decode cX11_fieldFor 54 = .ok (.goto 4, 3) := by decide +kernel
theorem dX11_fieldFor_57 : decode cX11_fieldFor 57 = .ok (.iload_n 3, 1) := by decide +kernel
theorem dX11_fieldFor_58 : decode cX11_fieldFor 58 = .ok (.ireturn, 1) := by decide +kernel
theorem dX11_fieldOf_0 : decode cX11_fieldOf 0 = .ok (.iconst 0, 1) := by decide +kernel
theorem dX11_fieldOf_1 : decode cX11_fieldOf 1 = .ok (.istore 4, 2) := by decide +kernel
theorem dX11_fieldOf_3 : decode cX11_fieldOf 3 = .ok (.iload 4, 2) := by decide +kernel
theorem dX11_fieldOf_5 : decode cX11_fieldOf 5 = .ok (.aload_n 0, 1) := by decide +kernel
theorem dX11_fieldOf_6 : decode cX11_fieldOf 6 = .ok (.getfield 42, 3) := by decide +kernel
theorem dX11_fieldOf_9 : decode cX11_fieldOf 9 = .ok (.iload_n 1, 1) := by decide +kernel
theorem dX11_fieldOf_10 : decode cX11_fieldOf 10 = .ok (.iaload, 1) := by decide +kernel
theorem dX11_fieldOf_11 : decode cX11_fieldOf 11 = .ok (.if_icmp .ge 34, 3) := by decide +kernel
theorem dX11_fieldOf_14 : decode cX11_fieldOf 14 = .ok (.aload_n 0, 1) := by decide +kernel
theorem dX11_fieldOf_15 : decode cX11_fieldOf 15 = .ok (.getfield 45, 3) := by decide +kernel
theorem dX11_fieldOf_18 : decode cX11_fieldOf 18 = .ok (.bipush 8, 2) := by decide +kernel
theorem dX11_fieldOf_20 : decode cX11_fieldOf 20 = .ok (.iload_n 1, 1) := by decide +kernel
theorem dX11_fieldOf_21 : decode cX11_fieldOf 21 = .ok (.imul, 1) := by decide +kernel
theorem dX11_fieldOf_22 : decode cX11_fieldOf 22 = .ok (.iload 4, 2) := by decide +kernel
theorem dX11_fieldOf_24 : decode cX11_fieldOf 24 = .ok (.iadd, 1) := by decide +kernel
theorem dX11_fieldOf_25 : decode cX11_fieldOf 25 = .ok (.laload, 1) := by decide +kernel
theorem dX11_fieldOf_26 : decode cX11_fieldOf 26 = .ok (.lload_n 2, 1) := by decide +kernel
theorem dX11_fieldOf_27 : decode cX11_fieldOf 27 = .ok (.lcmp, 1) := by decide +kernel
theorem dX11_fieldOf_28 : decode cX11_fieldOf 28 = .ok (.ifCond .ne 11, 3) := by decide +kernel
theorem dX11_fieldOf_31 : decode cX11_fieldOf 31 = .ok (.bipush 8, 2) := by decide +kernel
theorem dX11_fieldOf_33 : decode cX11_fieldOf 33 = .ok (.iload_n 1, 1) := by decide +kernel
theorem dX11_fieldOf_34 : decode cX11_fieldOf 34 = .ok (.imul, 1) := by decide +kernel
theorem dX11_fieldOf_35 : decode cX11_fieldOf 35 = .ok (.iload 4, 2) := by decide +kernel
theorem dX11_fieldOf_37 : decode cX11_fieldOf 37 = .ok (.iadd, 1) := by decide +kernel
theorem dX11_fieldOf_38 : decode cX11_fieldOf 38 = .ok (.ireturn, 1) := by decide +kernel
theorem dX11_fieldOf_39 : decode cX11_fieldOf 39 = .ok (.iinc 4 1, 3) := by decide +kernel
theorem dX11_fieldOf_42 : decode cX11_fieldOf 42 = .ok (.goto (-39), 3) := by decide +kernel
theorem dX11_fieldOf_45 : decode cX11_fieldOf 45 = .ok (.iconst (-1), 1) := by decide +kernel
theorem dX11_fieldOf_46 : decode cX11_fieldOf 46 = .ok (.ireturn, 1) := by decide +kernel
theorem dX11_holds_0 : decode cX11_holds 0 = .ok (.aload_n 0, 1) := by decide +kernel
theorem dX11_holds_1 : decode cX11_holds 1 = .ok (.iload_n 1, 1) := by decide +kernel
theorem dX11_holds_2 : decode cX11_holds 2 = .ok (.iload_n 2, 1) := by decide +kernel
theorem dX11_holds_3 : decode cX11_holds 3 = .ok (.invokevirtual 504, 3) := by decide +kernel
theorem dX11_holds_6 : decode cX11_holds 6 = .ok (.ifCond .ne 5, 3) := by decide +kernel
theorem dX11_holds_9 : decode cX11_holds 9 = .ok (.iconst 0, 1) := by decide +kernel
theorem dX11_holds_10 : decode cX11_holds 10 = .ok (.ireturn, 1) := by decide +kernel
theorem dX11_holds_11 : decode cX11_holds 11 = .ok (.bipush 6, 2) := by decide +kernel
theorem dX11_holds_13 : decode cX11_holds 13 = .ok (.aload_n 0, 1) := by decide +kernel
theorem dX11_holds_14 : decode cX11_holds 14 = .ok (.getfield 495, 3) := by decide +kernel
theorem dX11_holds_17 : decode cX11_holds 17 = .ok (.imul, 1) := by decide +kernel
theorem dX11_holds_18 : decode cX11_holds 18 = .ok (.iload_n 2, 1) := by decide +kernel
theorem dX11_holds_19 : decode cX11_holds 19 = .ok (.iadd, 1) := by decide +kernel
theorem dX11_holds_20 : decode cX11_holds 20 = .ok (.istore_n 3, 1) := by decide +kernel
theorem dX11_holds_21 : decode cX11_holds 21 = .ok (.iconst 0, 1) := by decide +kernel
theorem dX11_holds_22 : decode cX11_holds 22 = .ok (.istore 4, 2) := by decide +kernel
theorem dX11_holds_24 : decode cX11_holds 24 = .ok (.iload 4, 2) := by decide +kernel
theorem dX11_holds_26 : decode cX11_holds 26 = .ok (.aload_n 0, 1) := by decide +kernel
theorem dX11_holds_27 : decode cX11_holds 27 = .ok (.getfield 42, 3) := by decide +kernel
theorem dX11_holds_30 : decode cX11_holds 30 = .ok (.iload_n 3, 1) := by decide +kernel
theorem dX11_holds_31 : decode cX11_holds 31 = .ok (.iaload, 1) := by decide +kernel
theorem dX11_holds_32 : decode cX11_holds 32 = .ok (.if_icmp .ge 68, 3) := by decide +kernel
theorem dX11_holds_35 : decode cX11_holds 35 = .ok (.bipush 8, 2) := by decide +kernel
theorem dX11_holds_37 : decode cX11_holds 37 = .ok (.iload_n 3, 1) := by decide +kernel
theorem dX11_holds_38 : decode cX11_holds 38 = .ok (.imul, 1) := by decide +kernel
theorem dX11_holds_39 : decode cX11_holds 39 = .ok (.iload 4, 2) := by decide +kernel
theorem dX11_holds_41 : decode cX11_holds 41 = .ok (.iadd, 1) := by decide +kernel
theorem dX11_holds_42 : decode cX11_holds 42 = .ok (.istore 5, 2) := by decide +kernel
theorem dX11_holds_44 : decode cX11_holds 44 = .ok (.aload_n 0, 1) := by decide +kernel
theorem dX11_holds_45 : decode cX11_holds 45 = .ok (.iload_n 1, 1) := by decide +kernel
theorem dX11_holds_46 : decode cX11_holds 46 = .ok (.iload 5, 2) := by decide +kernel
theorem dX11_holds_48 : decode cX11_holds 48 = .ok (.invokevirtual 507, 3) := by decide +kernel
theorem dX11_holds_51 : decode cX11_holds 51 = .ok (.istore 6, 2) := by decide +kernel
theorem dX11_holds_53 : decode cX11_holds 53 = .ok (.iload 6, 2) := by decide +kernel
theorem dX11_holds_55 : decode cX11_holds 55 = .ok (.ifCond .ge 16, 3) := by decide +kernel
theorem dX11_holds_58 : decode cX11_holds 58 = .ok (.aload_n 0, 1) := by decide +kernel
theorem dX11_holds_59 : decode cX11_holds 59 = .ok (.getfield 57, 3) := by decide +kernel
theorem dX11_holds_62 : decode cX11_holds 62 = .ok (.iload 5, 2) := by decide +kernel
theorem dX11_holds_64 : decode cX11_holds 64 = .ok (.baload, 1) := by decide +kernel
theorem dX11_holds_65 : decode cX11_holds 65 = .ok (.ifCond .ne 29, 3) := by decide +kernel
theorem dX11_holds_68 : decode cX11_holds 68 = .ok (.goto 24, 3) := by decide +kernel
theorem dX11_holds_71 : decode cX11_holds 71 = .ok (.aload_n 0, 1) := by decide +kernel
theorem dX11_holds_72 : decode cX11_holds 72 = .ok (.aload_n 0, 1) := by decide +kernel
theorem dX11_holds_73 : decode cX11_holds 73 = .ok (.getfield 54, 3) := by decide +kernel
theorem dX11_holds_76 : decode cX11_holds 76 = .ok (.iload 6, 2) := by decide +kernel
theorem dX11_holds_78 : decode cX11_holds 78 = .ok (.iaload, 1) := by decide +kernel
theorem dX11_holds_79 : decode cX11_holds 79 = .ok (.aload_n 0, 1) := by decide +kernel
theorem dX11_holds_80 : decode cX11_holds 80 = .ok (.getfield 54, 3) := by decide +kernel
theorem dX11_holds_83 : decode cX11_holds 83 = .ok (.iload 5, 2) := by decide +kernel
theorem dX11_holds_85 : decode cX11_holds 85 = .ok (.iaload, 1) := by decide +kernel
theorem dX11_holds_86 : decode cX11_holds 86 = .ok (.invokevirtual 498, 3) := by decide +kernel
theorem dX11_holds_89 : decode cX11_holds 89 = .ok (.ifCond .ne 5, 3) := by decide +kernel
theorem dX11_holds_92 : decode cX11_holds 92 = .ok (.iconst 0, 1) := by decide +kernel
theorem dX11_holds_93 : decode cX11_holds 93 = .ok (.ireturn, 1) := by decide +kernel
theorem dX11_holds_94 : decode cX11_holds 94 = .ok (.iinc 4 1, 3) := by decide +kernel
theorem dX11_holds_97 : decode cX11_holds 97 = .ok (.goto (-73), 3) := by decide +kernel
theorem dX11_holds_100 : decode cX11_holds 100 = .ok (.iconst 1, 1) := by decide +kernel
theorem dX11_holds_101 : decode cX11_holds 101 = .ok (.ireturn, 1) := by decide +kernel
theorem dX11_isMessage_0 : decode cX11_isMessage 0 = .ok (.iload_n 1, 1) := by decide +kernel
theorem dX11_isMessage_1 : decode cX11_isMessage 1 = .ok (.i2l, 1) := by decide +kernel
theorem dX11_isMessage_2 : decode cX11_isMessage 2 = .ok (.lconst 0, 1) := by decide +kernel
theorem dX11_isMessage_3 : decode cX11_isMessage 3 = .ok (.ldc2_w 475, 3) := by decide +kernel
theorem dX11_isMessage_6 : decode cX11_isMessage 6 = .ok (.invokestatic 196, 3) := by decide +kernel
theorem dX11_isMessage_9 : decode cX11_isMessage 9 = .ok (.ifCond .eq 16, 3) := by decide +kernel
theorem dX11_isMessage_12 : decode cX11_isMessage 12 = .ok (.aload_n 0, 1) := by decide +kernel
theorem dX11_isMessage_13 : decode cX11_isMessage 13 = .ok (.getfield 106, 3) := by decide +kernel
theorem dX11_isMessage_16 : decode cX11_isMessage 16 = .ok (.iload_n 1, 1) := by decide +kernel
theorem dX11_isMessage_17 : decode cX11_isMessage 17 = .ok (.iaload, 1) := by decide +kernel
theorem dX11_isMessage_18 : decode cX11_isMessage 18 = .ok (.ifCond .lt 7, 3) := by decide +kernel
theorem dX11_isMessage_21 : decode cX11_isMessage 21 = .ok (.iconst 1, 1) := by decide +kernel
theorem dX11_isMessage_22 : decode cX11_isMessage 22 = .ok (.goto 4, 3) := by decide +kernel
theorem dX11_isMessage_25 : decode cX11_isMessage 25 = .ok (.iconst 0, 1) := by decide +kernel
theorem dX11_isMessage_26 : decode cX11_isMessage 26 = .ok (.ireturn, 1) := by decide +kernel
theorem dX11_isPlanAt_0 : decode cX11_isPlanAt 0 = .ok (.iload_n 1, 1) := by decide +kernel
theorem dX11_isPlanAt_1 : decode cX11_isPlanAt 1 = .ok (.i2l, 1) := by decide +kernel
theorem dX11_isPlanAt_2 : decode cX11_isPlanAt 2 = .ok (.lconst 0, 1) := by decide +kernel
theorem dX11_isPlanAt_3 : decode cX11_isPlanAt 3 = .ok (.aload_n 0, 1) := by decide +kernel
theorem dX11_isPlanAt_4 : decode cX11_isPlanAt 4 = .ok (.getfield 377, 3) := by decide +kernel
theorem dX11_isPlanAt_7 : decode cX11_isPlanAt 7 = .ok (.iconst 1, 1) := by decide +kernel
theorem dX11_isPlanAt_8 : decode cX11_isPlanAt 8 = .ok (.isub, 1) := by decide +kernel
theorem dX11_isPlanAt_9 : decode cX11_isPlanAt 9 = .ok (.i2l, 1) := by decide +kernel
theorem dX11_isPlanAt_10 : decode cX11_isPlanAt 10 = .ok (.invokestatic 196, 3) := by decide +kernel
theorem dX11_isPlanAt_13 : decode cX11_isPlanAt 13 = .ok (.ireturn, 1) := by decide +kernel
theorem dX11_match_0 : decode cX11_match 0 = .ok (.aload_n 0, 1) := by decide +kernel
theorem dX11_match_1 : decode cX11_match 1 = .ok (.getfield 13, 3) := by decide +kernel
theorem dX11_match_4 : decode cX11_match 4 = .ok (.iload_n 1, 1) := by decide +kernel
theorem dX11_match_5 : decode cX11_match 5 = .ok (.iaload, 1) := by decide +kernel
theorem dX11_match_6 : decode cX11_match 6 = .ok (.bipush 8, 2) := by decide +kernel
theorem dX11_match_8 : decode cX11_match 8 = .ok (.if_icmp .ne 56, 3) := by decide +kernel
theorem dX11_match_11 : decode cX11_match 11 = .ok (.iconst 0, 1) := by decide +kernel
theorem dX11_match_12 : decode cX11_match 12 = .ok (.istore_n 3, 1) := by decide +kernel
theorem dX11_match_13 : decode cX11_match 13 = .ok (.iconst 0, 1) := by decide +kernel
theorem dX11_match_14 : decode cX11_match 14 = .ok (.istore 4, 2) := by decide +kernel
theorem dX11_match_16 : decode cX11_match 16 = .ok (.iload 4, 2) := by decide +kernel
theorem dX11_match_18 : decode cX11_match 18 = .ok (.aload_n 0, 1) := by decide +kernel
theorem dX11_match_19 : decode cX11_match 19 = .ok (.getfield 20, 3) := by decide +kernel
theorem dX11_match_22 : decode cX11_match 22 = .ok (.iload_n 1, 1) := by decide +kernel
theorem dX11_match_23 : decode cX11_match 23 = .ok (.iaload, 1) := by decide +kernel
theorem dX11_match_24 : decode cX11_match 24 = .ok (.if_icmp .ge 38, 3) := by decide +kernel
theorem dX11_match_27 : decode cX11_match 27 = .ok (.iload_n 3, 1) := by decide +kernel
theorem dX11_match_28 : decode cX11_match 28 = .ok (.ifCond .ne 22, 3) := by decide +kernel
theorem dX11_match_31 : decode cX11_match 31 = .ok (.aload_n 0, 1) := by decide +kernel
theorem dX11_match_32 : decode cX11_match 32 = .ok (.aload_n 0, 1) := by decide +kernel
theorem dX11_match_33 : decode cX11_match 33 = .ok (.getfield 23, 3) := by decide +kernel
theorem dX11_match_36 : decode cX11_match 36 = .ok (.iconst 4, 1) := by decide +kernel
theorem dX11_match_37 : decode cX11_match 37 = .ok (.iload_n 1, 1) := by decide +kernel
theorem dX11_match_38 : decode cX11_match 38 = .ok (.imul, 1) := by decide +kernel
theorem dX11_match_39 : decode cX11_match 39 = .ok (.iload 4, 2) := by decide +kernel
theorem dX11_match_41 : decode cX11_match 41 = .ok (.iadd, 1) := by decide +kernel
theorem dX11_match_42 : decode cX11_match 42 = .ok (.iaload, 1) := by decide +kernel
theorem dX11_match_43 : decode cX11_match 43 = .ok (.iload_n 2, 1) := by decide +kernel
theorem dX11_match_44 : decode cX11_match 44 = .ok (.invokevirtual 498, 3) := by decide +kernel
theorem dX11_match_47 : decode cX11_match 47 = .ok (.ifCond .eq 7, 3) := by decide +kernel
theorem dX11_match_50 : decode cX11_match 50 = .ok (.iconst 1, 1) := by decide +kernel
theorem dX11_match_51 : decode cX11_match 51 = .ok (.goto 4, 3) := by decide +kernel
theorem dX11_match_54 : decode cX11_match 54 = .ok (.iconst 0, 1) := by decide +kernel
theorem dX11_match_55 : decode cX11_match 55 = .ok (.istore_n 3, 1) := by decide +kernel
theorem dX11_match_56 : decode cX11_match 56 = .ok (.iinc 4 1, 3) := by decide +kernel
theorem dX11_match_59 : decode cX11_match 59 = .ok (.goto (-43), 3) := by decide +kernel
theorem dX11_match_62 : decode cX11_match 62 = .ok (.iload_n 3, 1) := by decide +kernel
theorem dX11_match_63 : decode cX11_match 63 = .ok (.ireturn, 1) := by decide +kernel
theorem dX11_match_64 : decode cX11_match 64 = .ok (.aload_n 0, 1) := by decide +kernel
theorem dX11_match_65 : decode cX11_match 65 = .ok (.getfield 13, 3) := by decide +kernel
theorem dX11_match_68 : decode cX11_match 68 = .ok (.iload_n 2, 1) := by decide +kernel
theorem dX11_match_69 : decode cX11_match 69 = .ok (.iaload, 1) := by decide +kernel
theorem dX11_match_70 : decode cX11_match 70 = .ok (.bipush 8, 2) := by decide +kernel
theorem dX11_match_72 : decode cX11_match 72 = .ok (.if_icmp .ne 18, 3) := by decide +kernel
theorem dX11_match_75 : decode cX11_match 75 = .ok (.aload_n 0, 1) := by decide +kernel
theorem dX11_match_76 : decode cX11_match 76 = .ok (.iload_n 1, 1) := by decide +kernel
theorem dX11_match_77 : decode cX11_match 77 = .ok (.iload_n 2, 1) := by decide +kernel
theorem dX11_match_78 : decode cX11_match 78 = .ok (.invokevirtual 501, 3) := by decide +kernel
theorem dX11_match_81 : decode cX11_match 81 = .ok (.ifCond .lt 7, 3) := by decide +kernel
theorem dX11_match_84 : decode cX11_match 84 = .ok (.iconst 1, 1) := by decide +kernel
theorem dX11_match_85 : decode cX11_match 85 = .ok (.goto 4, 3) := by decide +kernel
theorem dX11_match_88 : decode cX11_match 88 = .ok (.iconst 0, 1) := by decide +kernel
theorem dX11_match_89 : decode cX11_match 89 = .ok (.ireturn, 1) := by decide +kernel
theorem dX11_match_90 : decode cX11_match 90 = .ok (.aload_n 0, 1) := by decide +kernel
theorem dX11_match_91 : decode cX11_match 91 = .ok (.getfield 13, 3) := by decide +kernel
theorem dX11_match_94 : decode cX11_match 94 = .ok (.iload_n 1, 1) := by decide +kernel
theorem dX11_match_95 : decode cX11_match 95 = .ok (.iaload, 1) := by decide +kernel
theorem dX11_match_96 : decode cX11_match 96 = .ok (.istore_n 3, 1) := by decide +kernel
theorem dX11_match_97 : decode cX11_match 97 = .ok (.aload_n 0, 1) := by decide +kernel
theorem dX11_match_98 : decode cX11_match 98 = .ok (.getfield 13, 3) := by decide +kernel
theorem dX11_match_101 : decode cX11_match 101 = .ok (.iload_n 2, 1) := by decide +kernel
theorem dX11_match_102 : decode cX11_match 102 = .ok (.iaload, 1) := by decide +kernel
theorem dX11_match_103 : decode cX11_match 103 = .ok (.istore 4, 2) := by decide +kernel
theorem dX11_match_105 : decode cX11_match 105 = .ok (.iload_n 3, 1) := by decide +kernel
theorem dX11_match_106 : decode cX11_match 106 = .ok (.bipush 6, 2) := by decide +kernel
theorem dX11_match_108 : decode cX11_match 108 = .ok (.if_icmp .ne 27, 3) := by decide +kernel
theorem dX11_match_111 : decode cX11_match 111 = .ok (.iload 4, 2) := by decide +kernel
theorem dX11_match_113 : decode cX11_match 113 = .ok (.bipush 6, 2) := by decide +kernel
theorem dX11_match_115 : decode cX11_match 115 = .ok (.if_icmp .ne 20, 3) := by decide +kernel
theorem dX11_match_118 : decode cX11_match 118 = .ok (.aload_n 0, 1) := by decide +kernel
theorem dX11_match_119 : decode cX11_match 119 = .ok (.aload_n 0, 1) := by decide +kernel
theorem dX11_match_120 : decode cX11_match 120 = .ok (.getfield 17, 3) := by decide +kernel
theorem dX11_match_123 : decode cX11_match 123 = .ok (.iload_n 1, 1) := by decide +kernel
theorem dX11_match_124 : decode cX11_match 124 = .ok (.iaload, 1) := by decide +kernel
theorem dX11_match_125 : decode cX11_match 125 = .ok (.aload_n 0, 1) := by decide +kernel
theorem dX11_match_126 : decode cX11_match 126 = .ok (.getfield 17, 3) := by decide +kernel
theorem dX11_match_129 : decode cX11_match 129 = .ok (.iload_n 2, 1) := by decide +kernel
theorem dX11_match_130 : decode cX11_match 130 = .ok (.iaload, 1) := by decide +kernel
theorem dX11_match_131 : decode cX11_match 131 = .ok (.invokevirtual 498, 3) := by decide +kernel
theorem dX11_match_134 : decode cX11_match 134 = .ok (.ireturn, 1) := by decide +kernel
theorem dX11_match_135 : decode cX11_match 135 = .ok (.iload_n 3, 1) := by decide +kernel
theorem dX11_match_136 : decode cX11_match 136 = .ok (.bipush 7, 2) := by decide +kernel
theorem dX11_match_138 : decode cX11_match 138 = .ok (.if_icmp .ne 32, 3) := by decide +kernel
theorem dX11_match_141 : decode cX11_match 141 = .ok (.iload 4, 2) := by decide +kernel
theorem dX11_match_143 : decode cX11_match 143 = .ok (.bipush 7, 2) := by decide +kernel
theorem dX11_match_145 : decode cX11_match 145 = .ok (.if_icmp .ne 25, 3) := by decide +kernel
theorem dX11_match_148 : decode cX11_match 148 = .ok (.aload_n 0, 1) := by decide +kernel
theorem dX11_match_149 : decode cX11_match 149 = .ok (.getfield 115, 3) := by decide +kernel
theorem dX11_match_152 : decode cX11_match 152 = .ok (.bipush 6, 2) := by decide +kernel
theorem dX11_match_154 : decode cX11_match 154 = .ok (.aload_n 0, 1) := by decide +kernel
theorem dX11_match_155 : decode cX11_match 155 = .ok (.getfield 17, 3) := by decide +kernel
theorem dX11_match_158 : decode cX11_match 158 = .ok (.iload_n 1, 1) := by decide +kernel
theorem dX11_match_159 : decode cX11_match 159 = .ok (.iaload, 1) := by decide +kernel
theorem dX11_match_160 : decode cX11_match 160 = .ok (.imul, 1) := by decide +kernel
theorem dX11_match_161 : decode cX11_match 161 = .ok (.aload_n 0, 1) := by decide +kernel
theorem dX11_match_162 : decode cX11_match 162 = .ok (.getfield 17, 3) := by decide +kernel
theorem dX11_match_165 : decode cX11_match 165 = .ok (.iload_n 2, 1) := by decide +kernel
theorem dX11_match_166 : decode cX11_match 166 = .ok (.iaload, 1) := by decide +kernel
theorem dX11_match_167 : decode cX11_match 167 = .ok (.iadd, 1) := by decide +kernel
theorem dX11_match_168 : decode cX11_match 168 = .ok (.baload, 1) := by decide +kernel
theorem dX11_match_169 : decode cX11_match 169 = .ok (.ireturn, 1) := by decide +kernel
theorem dX11_match_170 : decode cX11_match 170 = .ok (.iload_n 3, 1) := by decide +kernel
theorem dX11_match_171 : decode cX11_match 171 = .ok (.iload 4, 2) := by decide +kernel
theorem dX11_match_173 : decode cX11_match 173 = .ok (.if_icmp .eq 31, 3) := by decide +kernel
theorem dX11_match_176 : decode cX11_match 176 = .ok (.iload_n 3, 1) := by decide +kernel
theorem dX11_match_177 : decode cX11_match 177 = .ok (.iconst 2, 1) := by decide +kernel
theorem dX11_match_178 : decode cX11_match 178 = .ok (.if_icmp .ne 15, 3) := by decide +kernel
theorem dX11_match_181 : decode cX11_match 181 = .ok (.iload 4, 2) := by decide +kernel
theorem dX11_match_183 : decode cX11_match 183 = .ok (.iconst 3, 1) := by decide +kernel
theorem dX11_match_184 : decode cX11_match 184 = .ok (.if_icmp .eq 20, 3) := by decide +kernel
theorem dX11_match_187 : decode cX11_match 187 = .ok (.iload 4, 2) := by decide +kernel
theorem dX11_match_189 : decode cX11_match 189 = .ok (.iconst 4, 1) := by decide +kernel
theorem dX11_match_190 : decode cX11_match 190 = .ok (.if_icmp .eq 14, 3) := by decide +kernel
theorem dX11_match_193 : decode cX11_match 193 = .ok (.iload_n 3, 1) := by decide +kernel
theorem dX11_match_194 : decode cX11_match 194 = .ok (.iconst 3, 1) := by decide +kernel
theorem dX11_match_195 : decode cX11_match 195 = .ok (.if_icmp .ne 13, 3) := by decide +kernel
theorem dX11_match_198 : decode cX11_match 198 = .ok (.iload 4, 2) := by decide +kernel
theorem dX11_match_200 : decode cX11_match 200 = .ok (.iconst 4, 1) := by decide +kernel
theorem dX11_match_201 : decode cX11_match 201 = .ok (.if_icmp .ne 7, 3) := by decide +kernel
theorem dX11_match_204 : decode cX11_match 204 = .ok (.iconst 1, 1) := by decide +kernel
theorem dX11_match_205 : decode cX11_match 205 = .ok (.goto 4, 3) := by decide +kernel
theorem dX11_match_208 : decode cX11_match 208 = .ok (.iconst 0, 1) := by decide +kernel
theorem dX11_match_209 : decode cX11_match 209 = .ok (.ireturn, 1) := by decide +kernel
theorem dX11_namesMay_0 : decode cX11_namesMay 0 = .ok (.iload_n 1, 1) := by decide +kernel
theorem dX11_namesMay_1 : decode cX11_namesMay 1 = .ok (.ifCond .ne 7, 3) := by decide +kernel
theorem dX11_namesMay_4 : decode cX11_namesMay 4 = .ok (.iload_n 2, 1) := by decide +kernel
theorem dX11_namesMay_5 : decode cX11_namesMay 5 = .ok (.ifCond .eq 35, 3) := by decide +kernel
theorem dX11_namesMay_8 : decode cX11_namesMay 8 = .ok (.aload_n 0, 1) := by decide +kernel
theorem dX11_namesMay_9 : decode cX11_namesMay 9 = .ok (.getfield 36, 3) := by decide +kernel
theorem dX11_namesMay_12 : decode cX11_namesMay 12 = .ok (.bipush 6, 2) := by decide +kernel
theorem dX11_namesMay_14 : decode cX11_namesMay 14 = .ok (.aload_n 0, 1) := by decide +kernel
theorem dX11_namesMay_15 : decode cX11_namesMay 15 = .ok (.getfield 492, 3) := by decide +kernel
theorem dX11_namesMay_18 : decode cX11_namesMay 18 = .ok (.imul, 1) := by decide +kernel
theorem dX11_namesMay_19 : decode cX11_namesMay 19 = .ok (.iload_n 1, 1) := by decide +kernel
theorem dX11_namesMay_20 : decode cX11_namesMay 20 = .ok (.iadd, 1) := by decide +kernel
theorem dX11_namesMay_21 : decode cX11_namesMay 21 = .ok (.laload, 1) := by decide +kernel
theorem dX11_namesMay_22 : decode cX11_namesMay 22 = .ok (.aload_n 0, 1) := by decide +kernel
theorem dX11_namesMay_23 : decode cX11_namesMay 23 = .ok (.getfield 36, 3) := by decide +kernel
theorem dX11_namesMay_26 : decode cX11_namesMay 26 = .ok (.bipush 6, 2) := by decide +kernel
theorem dX11_namesMay_28 : decode cX11_namesMay 28 = .ok (.aload_n 0, 1) := by decide +kernel
theorem dX11_namesMay_29 : decode cX11_namesMay 29 = .ok (.getfield 495, 3) := by decide +kernel
theorem dX11_namesMay_32 : decode cX11_namesMay 32 = .ok (.imul, 1) := by decide +kernel
theorem dX11_namesMay_33 : decode cX11_namesMay 33 = .ok (.iload_n 2, 1) := by decide +kernel
theorem dX11_namesMay_34 : decode cX11_namesMay 34 = .ok (.iadd, 1) := by decide +kernel
theorem dX11_namesMay_35 : decode cX11_namesMay 35 = .ok (.laload, 1) := by decide +kernel
theorem dX11_namesMay_36 : decode cX11_namesMay 36 = .ok (.lcmp, 1) := by decide +kernel
theorem dX11_namesMay_37 : decode cX11_namesMay 37 = .ok (.ifCond .ne 7, 3) := by decide +kernel
theorem dX11_namesMay_40 : decode cX11_namesMay 40 = .ok (.iconst 1, 1) := by decide +kernel
theorem dX11_namesMay_41 : decode cX11_namesMay 41 = .ok (.goto 4, 3) := by decide +kernel
theorem dX11_namesMay_44 : decode cX11_namesMay 44 = .ok (.iconst 0, 1) := by decide +kernel
theorem dX11_namesMay_45 : decode cX11_namesMay 45 = .ok (.ireturn, 1) := by decide +kernel
theorem dX11_orders_0 : decode cX11_orders 0 = .ok (.aload_n 0, 1) := by decide +kernel
theorem dX11_orders_1 : decode cX11_orders 1 = .ok (.getfield 160, 3) := by decide +kernel
theorem dX11_orders_4 : decode cX11_orders 4 = .ok (.iload_n 1, 1) := by decide +kernel
theorem dX11_orders_5 : decode cX11_orders 5 = .ok (.aload_n 0, 1) := by decide +kernel
theorem dX11_orders_6 : decode cX11_orders 6 = .ok (.getfield 629, 3) := by decide +kernel
theorem dX11_orders_9 : decode cX11_orders 9 = .ok (.iastore, 1) := by decide +kernel
theorem dX11_orders_10 : decode cX11_orders 10 = .ok (.iconst 4, 1) := by decide +kernel
theorem dX11_orders_11 : decode cX11_orders 11 = .ok (.aload_n 0, 1) := by decide +kernel
theorem dX11_orders_12 : decode cX11_orders 12 = .ok (.getfield 629, 3) := by decide +kernel
theorem dX11_orders_15 : decode cX11_orders 15 = .ok (.imul, 1) := by decide +kernel
theorem dX11_orders_16 : decode cX11_orders 16 = .ok (.istore_n 2, 1) := by decide +kernel
theorem dX11_orders_17 : decode cX11_orders 17 = .ok (.aload_n 0, 1) := by decide +kernel
theorem dX11_orders_18 : decode cX11_orders 18 = .ok (.dup, 1) := by decide +kernel
theorem dX11_orders_19 : decode cX11_orders 19 = .ok (.getfield 629, 3) := by decide +kernel
theorem dX11_orders_22 : decode cX11_orders 22 = .ok (.iconst 1, 1) := by decide +kernel
theorem dX11_orders_23 : decode cX11_orders 23 = .ok (.iadd, 1) := by decide +kernel
theorem dX11_orders_24 : decode cX11_orders 24 = .ok (.putfield 629, 3) := by decide +kernel
theorem dX11_orders_27 : decode cX11_orders 27 = .ok (.aload_n 0, 1) := by decide +kernel
theorem dX11_orders_28 : decode cX11_orders 28 = .ok (.getfield 163, 3) := by decide +kernel
theorem dX11_orders_31 : decode cX11_orders 31 = .ok (.iload_n 2, 1) := by decide +kernel
theorem dX11_orders_32 : decode cX11_orders 32 = .ok (.aload_n 0, 1) := by decide +kernel
theorem dX11_orders_33 : decode cX11_orders 33 = .ok (.getfield 70, 3) := by decide +kernel
theorem dX11_orders_36 : decode cX11_orders 36 = .ok (.iload_n 1, 1) := by decide +kernel
theorem dX11_orders_37 : decode cX11_orders 37 = .ok (.iaload, 1) := by decide +kernel
theorem dX11_orders_38 : decode cX11_orders 38 = .ok (.iastore, 1) := by decide +kernel
theorem dX11_orders_39 : decode cX11_orders 39 = .ok (.aload_n 0, 1) := by decide +kernel
theorem dX11_orders_40 : decode cX11_orders 40 = .ok (.getfield 163, 3) := by decide +kernel
theorem dX11_orders_43 : decode cX11_orders 43 = .ok (.iload_n 2, 1) := by decide +kernel
theorem dX11_orders_44 : decode cX11_orders 44 = .ok (.iconst 1, 1) := by decide +kernel
theorem dX11_orders_45 : decode cX11_orders 45 = .ok (.iadd, 1) := by decide +kernel
theorem dX11_orders_46 : decode cX11_orders 46 = .ok (.aload_n 0, 1) := by decide +kernel
theorem dX11_orders_47 : decode cX11_orders 47 = .ok (.getfield 82, 3) := by decide +kernel
theorem dX11_orders_50 : decode cX11_orders 50 = .ok (.iload_n 1, 1) := by decide +kernel
theorem dX11_orders_51 : decode cX11_orders 51 = .ok (.iaload, 1) := by decide +kernel
theorem dX11_orders_52 : decode cX11_orders 52 = .ok (.ifCond .ge 7, 3) := by decide +kernel
theorem dX11_orders_55 : decode cX11_orders 55 = .ok (.iconst (-1), 1) := by decide +kernel
theorem dX11_orders_56 : decode cX11_orders 56 = .ok (.goto 14, 3) := by decide +kernel
theorem dX11_orders_59 : decode cX11_orders 59 = .ok (.aload_n 0, 1) := by decide +kernel
theorem dX11_orders_60 : decode cX11_orders 60 = .ok (.getfield 160, 3) := by decide +kernel
theorem dX11_orders_63 : decode cX11_orders 63 = .ok (.aload_n 0, 1) := by decide +kernel
theorem dX11_orders_64 : decode cX11_orders 64 = .ok (.getfield 82, 3) := by decide +kernel
theorem dX11_orders_67 : decode cX11_orders 67 = .ok (.iload_n 1, 1) := by decide +kernel
theorem dX11_orders_68 : decode cX11_orders 68 = .ok (.iaload, 1) := by decide +kernel
theorem dX11_orders_69 : decode cX11_orders 69 = .ok (.iaload, 1) := by decide +kernel
theorem dX11_orders_70 : decode cX11_orders 70 = .ok (.iastore, 1) := by decide +kernel
theorem dX11_orders_71 : decode cX11_orders 71 = .ok (.aload_n 0, 1) := by decide +kernel
theorem dX11_orders_72 : decode cX11_orders 72 = .ok (.getfield 163, 3) := by decide +kernel
theorem dX11_orders_75 : decode cX11_orders 75 = .ok (.iload_n 2, 1) := by decide +kernel
theorem dX11_orders_76 : decode cX11_orders 76 = .ok (.iconst 2, 1) := by decide +kernel
theorem dX11_orders_77 : decode cX11_orders 77 = .ok (.iadd, 1) := by decide +kernel
theorem dX11_orders_78 : decode cX11_orders 78 = .ok (.aload_n 0, 1) := by decide +kernel
theorem dX11_orders_79 : decode cX11_orders 79 = .ok (.getfield 85, 3) := by decide +kernel
theorem dX11_orders_82 : decode cX11_orders 82 = .ok (.iload_n 1, 1) := by decide +kernel
theorem dX11_orders_83 : decode cX11_orders 83 = .ok (.iaload, 1) := by decide +kernel
theorem dX11_orders_84 : decode cX11_orders 84 = .ok (.iastore, 1) := by decide +kernel
theorem dX11_orders_85 : decode cX11_orders 85 = .ok (.aload_n 0, 1) := by decide +kernel
theorem dX11_orders_86 : decode cX11_orders 86 = .ok (.getfield 163, 3) := by decide +kernel
theorem dX11_orders_89 : decode cX11_orders 89 = .ok (.iload_n 2, 1) := by decide +kernel
theorem dX11_orders_90 : decode cX11_orders 90 = .ok (.iconst 3, 1) := by decide +kernel
theorem dX11_orders_91 : decode cX11_orders 91 = .ok (.iadd, 1) := by decide +kernel
theorem dX11_orders_92 : decode cX11_orders 92 = .ok (.aload_n 0, 1) := by decide +kernel
theorem dX11_orders_93 : decode cX11_orders 93 = .ok (.getfield 79, 3) := by decide +kernel
theorem dX11_orders_96 : decode cX11_orders 96 = .ok (.iload_n 1, 1) := by decide +kernel
theorem dX11_orders_97 : decode cX11_orders 97 = .ok (.iaload, 1) := by decide +kernel
theorem dX11_orders_98 : decode cX11_orders 98 = .ok (.iastore, 1) := by decide +kernel
theorem dX11_orders_99 : decode cX11_orders 99 = .ok (.aload_n 0, 1) := by decide +kernel
theorem dX11_orders_100 : decode cX11_orders 100 = .ok (.getfield 166, 3) := by decide +kernel
theorem dX11_orders_103 : decode cX11_orders 103 = .ok (.iload_n 2, 1) := by decide +kernel
theorem dX11_orders_104 : decode cX11_orders 104 = .ok (.iconst 2, 1) := by decide +kernel
theorem dX11_orders_105 : decode cX11_orders 105 = .ok (.idiv, 1) := by decide +kernel
theorem dX11_orders_106 : decode cX11_orders 106 = .ok (.aload_n 0, 1) := by decide +kernel
theorem dX11_orders_107 : decode cX11_orders 107 = .ok (.getfield 73, 3) := by decide +kernel
theorem dX11_orders_110 : decode cX11_orders 110 = .ok (.iload_n 1, 1) := by decide +kernel
theorem dX11_orders_111 : decode cX11_orders 111 = .ok (.laload, 1) := by decide +kernel
theorem dX11_orders_112 : decode cX11_orders 112 = .ok (.lastore, 1) := by decide +kernel
theorem dX11_orders_113 : decode cX11_orders 113 = .ok (.aload_n 0, 1) := by decide +kernel
theorem dX11_orders_114 : decode cX11_orders 114 = .ok (.getfield 166, 3) := by decide +kernel
theorem dX11_orders_117 : decode cX11_orders 117 = .ok (.iload_n 2, 1) := by decide +kernel
theorem dX11_orders_118 : decode cX11_orders 118 = .ok (.iconst 2, 1) := by decide +kernel
theorem dX11_orders_119 : decode cX11_orders 119 = .ok (.idiv, 1) := by decide +kernel
theorem dX11_orders_120 : decode cX11_orders 120 = .ok (.iconst 1, 1) := by decide +kernel
theorem dX11_orders_121 : decode cX11_orders 121 = .ok (.iadd, 1) := by decide +kernel
theorem dX11_orders_122 : decode cX11_orders 122 = .ok (.aload_n 0, 1) := by decide +kernel
theorem dX11_orders_123 : decode cX11_orders 123 = .ok (.getfield 76, 3) := by decide +kernel
theorem dX11_orders_126 : decode cX11_orders 126 = .ok (.iload_n 1, 1) := by decide +kernel
theorem dX11_orders_127 : decode cX11_orders 127 = .ok (.laload, 1) := by decide +kernel
theorem dX11_orders_128 : decode cX11_orders 128 = .ok (.lastore, 1) := by decide +kernel
theorem dX11_orders_129 : decode cX11_orders 129 = .ok (.aload_n 0, 1) := by decide +kernel
theorem dX11_orders_130 : decode cX11_orders 130 = .ok (.getfield 94, 3) := by decide +kernel
theorem dX11_orders_133 : decode cX11_orders 133 = .ok (.iload_n 1, 1) := by decide +kernel
theorem dX11_orders_134 : decode cX11_orders 134 = .ok (.iaload, 1) := by decide +kernel
theorem dX11_orders_135 : decode cX11_orders 135 = .ok (.istore_n 3, 1) := by decide +kernel
theorem dX11_orders_136 : decode cX11_orders 136 = .ok (.iload_n 3, 1) := by decide +kernel
theorem dX11_orders_137 : decode cX11_orders 137 = .ok (.ifCond .lt 18, 3) := by decide +kernel
theorem dX11_orders_140 : decode cX11_orders 140 = .ok (.aload_n 0, 1) := by decide +kernel
theorem dX11_orders_141 : decode cX11_orders 141 = .ok (.iload_n 3, 1) := by decide +kernel
theorem dX11_orders_142 : decode cX11_orders 142 = .ok (.invokevirtual 632, 3) := by decide +kernel
theorem dX11_orders_145 : decode cX11_orders 145 = .ok (.aload_n 0, 1) := by decide +kernel
theorem dX11_orders_146 : decode cX11_orders 146 = .ok (.getfield 100, 3) := by decide +kernel
theorem dX11_orders_149 : decode cX11_orders 149 = .ok (.iload_n 3, 1) := by decide +kernel
theorem dX11_orders_150 : decode cX11_orders 150 = .ok (.iaload, 1) := by decide +kernel
theorem dX11_orders_151 : decode cX11_orders 151 = .ok (.istore_n 3, 1) := by decide +kernel
theorem dX11_orders_152 : decode cX11_orders 152 = .ok (.goto (-16), 3) := by decide +kernel
theorem dX11_orders_155 : decode cX11_orders 155 = .ok (.return_, 1) := by decide +kernel
theorem dX11_within_0 : decode cX11_within 0 = .ok (.lload_n 0, 1) := by decide +kernel
theorem dX11_within_1 : decode cX11_within 1 = .ok (.lload_n 2, 1) := by decide +kernel
theorem dX11_within_2 : decode cX11_within 2 = .ok (.lcmp, 1) := by decide +kernel
theorem dX11_within_3 : decode cX11_within 3 = .ok (.ifCond .lt 14, 3) := by decide +kernel
theorem dX11_within_6 : decode cX11_within 6 = .ok (.lload_n 0, 1) := by decide +kernel
theorem dX11_within_7 : decode cX11_within 7 = .ok (.lload 4, 2) := by decide +kernel
theorem dX11_within_9 : decode cX11_within 9 = .ok (.lcmp, 1) := by decide +kernel
theorem dX11_within_10 : decode cX11_within 10 = .ok (.ifCond .gt 7, 3) := by decide +kernel
theorem dX11_within_13 : decode cX11_within 13 = .ok (.iconst 1, 1) := by decide +kernel
theorem dX11_within_14 : decode cX11_within 14 = .ok (.goto 4, 3) := by decide +kernel
theorem dX11_within_17 : decode cX11_within 17 = .ok (.iconst 0, 1) := by decide +kernel
theorem dX11_within_18 : decode cX11_within 18 = .ok (.ireturn, 1) := by decide +kernel
def f_Jxe99ae_isNaN_b9ae7 (p0 : UInt64) (σ : ST) : Option (Int32 × ST) := if (Op.cmpValue (FP.dcmp p0 p0) .l) = 0 then (some (0, σ)) else (some (1, σ))

set_option maxRecDepth 100000 in
set_option maxHeartbeats 4000000 in
theorem b_Jxe99ae_isNaN_b9ae7_e {p : Program} {l : Launch} {e : Env} {s : State} {m : MethodId} {args : Array Value} {below : List Frame} {meth : Method} {c : Code} {dC : Nat → ClassId} {dI : Nat → Nat → Nat} {a : Nat → Nat} {k : Nat → ClassId} {A : Nat → Prop} {q : Int32 × ST} (hC : CxB p s m args meth c dC dI k A cJxe99ae_isNaN_b9ae7 RJxe99ae (some .boolean) 2)   {p0 : UInt64} {σ : ST} (h : f_Jxe99ae_isNaN_b9ae7  p0 σ = some q) : GoB p l e ({ frames := 0, cells := 0, slots := 0, locals := 0 } : Room) s m args below meth c (MQ below (qBi dC dI a k A q) args s 0 0 A) dC dI a k A 2 0 σ (lv_args 0 [.double p0]) [] := by
  have hC0 := hC
  obtain ⟨hx, hb, hr, hml, hown, hts, hlocks, hA, hN, hK⟩ := hC0
  intro H locs ls hP hD hS hl
  have hD0 : ∀ σ1 : ST, va_D A (wB a k σ1) := fun σ1 => wB_D hD
  replace hl : lv_has ls 2 [(0, .double p0)] := hl
  unfold f_Jxe99ae_isNaN_b9ae7 at h
  refine lv_dload_n hx hb dJxe99ae_isNaN_b9ae7_0 rfl (lv_at hl 0 rfl) ?_
  refine lv_dload_n hx hb dJxe99ae_isNaN_b9ae7_1 rfl (lv_at hl 0 rfl) ?_
  refine lv_dcmp hx hb dJxe99ae_isNaN_b9ae7_2 ?_
  refine lv_if_eq (tgt := 10) hx hb dJxe99ae_isNaN_b9ae7_3 (by decide) (fun hc => ?_) (fun hc => ?_)
  · replace h := ip hc h
    refine lv_iconst (v := 0) hx hb dJxe99ae_isNaN_b9ae7_10 (by decide) ?_
    obtain rfl := Option.some.inj h
    exact W.zret hx hb hr rfl (fun t ht hW => ⟨⟨_, (), rfl, rfl, ⟨by rw [ht]; exact hP, va_K.moved hW.alike hK, hD⟩⟩, hS.F ht⟩) hS.2.2 dJxe99ae_isNaN_b9ae7_11
  · replace h := iq hc h
    refine lv_iconst (v := 1) hx hb dJxe99ae_isNaN_b9ae7_6 (by decide) ?_
    refine lv_goto (tgt := 11) hx hb dJxe99ae_isNaN_b9ae7_7 (by decide) ?_
    obtain rfl := Option.some.inj h
    exact W.zret hx hb hr rfl (fun t ht hW => ⟨⟨_, (), rfl, rfl, ⟨by rw [ht]; exact hP, va_K.moved hW.alike hK, hD⟩⟩, hS.F ht⟩) hS.2.2 dJxe99ae_isNaN_b9ae7_11

theorem s_Jxe99ae_isNaN_b9ae7 {l : Launch} {dC : Nat → ClassId} {dI : Nat → Nat → Nat} {a : Nat → Nat} {k : Nat → ClassId} {sz : Nat} {p0 : UInt64} {σ : ST} {q : Int32 × ST} (h : f_Jxe99ae_isNaN_b9ae7  p0 σ = some q) : Met l yJxe99ae_isNaN_b9ae7 (.code yJxe99ae_isNaN_b9ae7 cJxe99ae_isNaN_b9ae7 2 (some .boolean) :: pw) ({ frames := 0, cells := 0, slots := 0, locals := 0 } : Room) (va_Pc [.double p0] (vPre dC dI (wB a k σ) (tB k) sz)) (qBi dC dI a k (va_A (wB a k σ) sz) q) 0 0 (va_A (wB a k σ) sz) := metB (fun A => qBi dC dI a k A q) (plainFor_of_name (by decide)) (Nat.le_of_ble_eq_true rfl) (fun _ _ _ _ _ _ _ _ hC => b_Jxe99ae_isNaN_b9ae7_e hC h)

def f_Jxe99ae_doubleToLongBits_ccdee (p0 : UInt64) (σ : ST) : Option (Int64 × ST) := (f_Jxe99ae_isNaN_b9ae7  p0 σ).bind fun q1 => if q1.1 = 0 then (some ((p0.toInt64), q1.2)) else (some (9221120237041090560, q1.2))

set_option maxRecDepth 100000 in
set_option maxHeartbeats 4000000 in
theorem b_Jxe99ae_doubleToLongBits_ccdee_e {p : Program} {l : Launch} {e : Env} {s : State} {m : MethodId} {args : Array Value} {below : List Frame} {meth : Method} {c : Code} {dC : Nat → ClassId} {dI : Nat → Nat → Nat} {a : Nat → Nat} {k : Nat → ClassId} {A : Nat → Prop} {q : Int64 × ST} (hC : CxB p s m args meth c dC dI k A cJxe99ae_doubleToLongBits_ccdee RJxe99ae (some .long) 2)   {p0 : UInt64} {σ : ST} (h : f_Jxe99ae_doubleToLongBits_ccdee  p0 σ = some q) : GoB p l e ({ frames := 1, cells := 0, slots := 0, locals := 30 } : Room) s m args below meth c (MQ below (qBl dC dI a k A q) args s 0 0 A) dC dI a k A 2 0 σ (lv_args 0 [.double p0]) [] := by
  have hC0 := hC
  obtain ⟨hx, hb, hr, hml, hown, hts, hlocks, hA, hN, hK⟩ := hC0
  intro H locs ls hP hD hS hl
  have hD0 : ∀ σ1 : ST, va_D A (wB a k σ1) := fun σ1 => wB_D hD
  replace hl : lv_has ls 2 [(0, .double p0)] := hl
  unfold f_Jxe99ae_doubleToLongBits_ccdee at h
  refine lv_dload_n hx hb dJxe99ae_doubleToLongBits_ccdee_0 rfl (lv_at hl 0 rfl) ?_
  obtain ⟨q1, hc, h⟩ := ib h
  have hF := va_frees hD hS hA
  refine va_calli (va_runS (As := [.double p0]) (rest := []) ⟨hx, hb, hml, hown, hts⟩ (s_Jxe99ae_isNaN_b9ae7 hc) (va_cwS 1 hts (gS mw_39_19 mw_39_20 mw_32_1 mw_57_19) rfl rfl rfl (by decide +kernel) ⟨(Nat.le_of_ble_eq_true rfl), (Nat.le_of_ble_eq_true rfl)⟩) (vS hK hP hD hN) rfl rfl hl.1 rfl (lv_room (Nat.le_of_ble_eq_true rfl)) dJxe99ae_doubleToLongBits_ccdee_1 ⟨(Nat.le_of_ble_eq_true rfl), (Nat.le_of_ble_eq_true rfl)⟩) hS (fun q _ h => hF q h) hF (fun r2 u t H locs ht hvm hw hB _ _ hS => ?_)
  obtain rfl : r2 = q1.1 := hw
  replace hP : va_P (dC, dI) vwCl (wB a k q1.2) H := by rw [← ht]; exact hB.1
  replace hD := hD0 (q1.2)
  clear hB hF
  refine lv_if_ne (tgt := 12) hx hb dJxe99ae_doubleToLongBits_ccdee_4 (by decide) (fun hc => ?_) (fun hc => ?_)
  · replace h := iq hc h
    refine lv_ldc2 (v := 9221120237041090560) hx hb hown (hts (.constantLong RJxe99ae 137 (9221120237041090560)) mw_39_24) dJxe99ae_doubleToLongBits_ccdee_12 ?_
    obtain rfl := Option.some.inj h
    exact W.lret hx hb hr (fun t ht hW => ⟨⟨_, (), rfl, rfl, ⟨by rw [ht]; exact hP, va_K.moved hW.alike hK, hD⟩⟩, hS.F ht⟩) hS.2.2 dJxe99ae_doubleToLongBits_ccdee_15
  · replace h := ip hc h
    refine lv_dload_n hx hb dJxe99ae_doubleToLongBits_ccdee_7 rfl (lv_at hl 0 rfl) ?_
    refine vn_d2l hx hb (hml.trans hl.1.symm) hown (hts (.methodLink RJxe99ae 134 ⟨"java/lang/Double", "doubleToRawLongBits", "(D)J"⟩) mw_39_21) (hts (.native ⟨"java/lang/Double", "doubleToRawLongBits", "(D)J"⟩) mw_39_22) (hts (.static ⟨"java/lang/Double", "doubleToRawLongBits", "(D)J"⟩) mw_39_23) (hts (.initialized RJxe99ae) mw_32_1) (Nat.le_of_ble_eq_true rfl) (Nat.le_of_ble_eq_true rfl) dJxe99ae_doubleToLongBits_ccdee_8 ?_
    obtain rfl := Option.some.inj h
    exact W.lret hx hb hr (fun t ht hW => ⟨⟨_, (), rfl, rfl, ⟨by rw [ht]; exact hP, va_K.moved hW.alike hK, hD⟩⟩, hS.F ht⟩) hS.2.2 dJxe99ae_doubleToLongBits_ccdee_11

theorem s_Jxe99ae_doubleToLongBits_ccdee {l : Launch} {dC : Nat → ClassId} {dI : Nat → Nat → Nat} {a : Nat → Nat} {k : Nat → ClassId} {sz : Nat} {p0 : UInt64} {σ : ST} {q : Int64 × ST} (h : f_Jxe99ae_doubleToLongBits_ccdee  p0 σ = some q) : Met l yJxe99ae_doubleToLongBits_ccdee (.code yJxe99ae_doubleToLongBits_ccdee cJxe99ae_doubleToLongBits_ccdee 2 (some .long) :: pw) ({ frames := 1, cells := 0, slots := 0, locals := 30 } : Room) (va_Pc [.double p0] (vPre dC dI (wB a k σ) (tB k) sz)) (qBl dC dI a k (va_A (wB a k σ) sz) q) 0 0 (va_A (wB a k σ) sz) := metB (fun A => qBl dC dI a k A q) (plainFor_of_name (by decide)) (Nat.le_of_ble_eq_true rfl) (fun _ _ _ _ _ _ _ _ hC => b_Jxe99ae_doubleToLongBits_ccdee_e hC h)

def f_X11_within (p0 : Int64) (p1 : Int64) (p2 : Int64) (σ : ST) : Option (Int32 × ST) := if (lg_cmp p0 p1) < 0 then (some (0, σ)) else (if 0 < (lg_cmp p0 p2) then (some (0, σ)) else (some (1, σ)))

set_option maxRecDepth 100000 in
set_option maxHeartbeats 4000000 in
theorem b_X11_within_e {p : Program} {l : Launch} {e : Env} {s : State} {m : MethodId} {args : Array Value} {below : List Frame} {meth : Method} {c : Code} {dC : Nat → ClassId} {dI : Nat → Nat → Nat} {a : Nat → Nat} {k : Nat → ClassId} {A : Nat → Prop} {q : Int32 × ST} (hC : CxB p s m args meth c dC dI k A cX11_within RX11 (some .boolean) 6)   {p0 : Int64} {p1 : Int64} {p2 : Int64} {σ : ST} (h : f_X11_within  p0 p1 p2 σ = some q) : GoB p l e ({ frames := 0, cells := 0, slots := 0, locals := 0 } : Room) s m args below meth c (MQ below (qBi dC dI a k A q) args s 0 0 A) dC dI a k A 6 0 σ (lv_args 0 [.long p0, .long p1, .long p2]) [] := by
  have hC0 := hC
  obtain ⟨hx, hb, hr, hml, hown, hts, hlocks, hA, hN, hK⟩ := hC0
  intro H locs ls hP hD hS hl
  have hD0 : ∀ σ1 : ST, va_D A (wB a k σ1) := fun σ1 => wB_D hD
  replace hl : lv_has ls 6 [(0, .long p0), (2, .long p1), (4, .long p2)] := hl
  unfold f_X11_within at h
  refine lv_lload_n hx hb dX11_within_0 rfl (lv_at hl 0 rfl) ?_
  refine lv_lload_n hx hb dX11_within_1 rfl (lv_at hl 1 rfl) ?_
  refine W.lcmp hx hb dX11_within_2 ?_
  refine lv_if_lt (tgt := 17) hx hb dX11_within_3 (by decide) (fun hc => ?_) (fun hc => ?_)
  · replace h := ip hc h
    refine lv_iconst (v := 0) hx hb dX11_within_17 (by decide) ?_
    obtain rfl := Option.some.inj h
    exact W.zret hx hb hr rfl (fun t ht hW => ⟨⟨_, (), rfl, rfl, ⟨by rw [ht]; exact hP, va_K.moved hW.alike hK, hD⟩⟩, hS.F ht⟩) hS.2.2 dX11_within_18
  · replace h := iq hc h
    refine lv_lload_n hx hb dX11_within_6 rfl (lv_at hl 0 rfl) ?_
    refine lv_lload hx hb dX11_within_7 (lv_at hl 2 rfl) ?_
    refine W.lcmp hx hb dX11_within_9 ?_
    refine lv_if_gt (tgt := 17) hx hb dX11_within_10 (by decide) (fun hc => ?_) (fun hc => ?_)
    · replace h := ip hc h
      refine lv_iconst (v := 0) hx hb dX11_within_17 (by decide) ?_
      obtain rfl := Option.some.inj h
      exact W.zret hx hb hr rfl (fun t ht hW => ⟨⟨_, (), rfl, rfl, ⟨by rw [ht]; exact hP, va_K.moved hW.alike hK, hD⟩⟩, hS.F ht⟩) hS.2.2 dX11_within_18
    · replace h := iq hc h
      refine lv_iconst (v := 1) hx hb dX11_within_13 (by decide) ?_
      refine lv_goto (tgt := 18) hx hb dX11_within_14 (by decide) ?_
      obtain rfl := Option.some.inj h
      exact W.zret hx hb hr rfl (fun t ht hW => ⟨⟨_, (), rfl, rfl, ⟨by rw [ht]; exact hP, va_K.moved hW.alike hK, hD⟩⟩, hS.F ht⟩) hS.2.2 dX11_within_18

theorem s_X11_within {l : Launch} {dC : Nat → ClassId} {dI : Nat → Nat → Nat} {a : Nat → Nat} {k : Nat → ClassId} {sz : Nat} {p0 : Int64} {p1 : Int64} {p2 : Int64} {σ : ST} {q : Int32 × ST} (h : f_X11_within  p0 p1 p2 σ = some q) : Met l yX11_within (.code yX11_within cX11_within 6 (some .boolean) :: pw) ({ frames := 0, cells := 0, slots := 0, locals := 0 } : Room) (va_Pc [.long p0, .long p1, .long p2] (vPre dC dI (wB a k σ) (tB k) sz)) (qBi dC dI a k (va_A (wB a k σ) sz) q) 0 0 (va_A (wB a k σ) sz) := metB (fun A => qBi dC dI a k A q) (plainFor_of_name (by decide)) (Nat.le_of_ble_eq_true rfl) (fun _ _ _ _ _ _ _ _ hC => b_X11_within_e hC h)

def f_X11_isMessage (p0 : Int32) (σ : ST) : Option (Int32 × ST) := (f_X11_within  (p0.toInt64) 0 3 σ).bind fun q1 => if q1.1 = 0 then (some (0, q1.2)) else (if 0 ≤ p0.toInt ∧ p0.toInt < 4 then (if (q1.2.1 32 p0.toNatClampNeg) < 0 then (some (0, q1.2)) else (some (1, q1.2))) else none)

set_option maxRecDepth 100000 in
set_option maxHeartbeats 4000000 in
theorem b_X11_isMessage_e {p : Program} {l : Launch} {e : Env} {s : State} {m : MethodId} {args : Array Value} {below : List Frame} {meth : Method} {c : Code} {dC : Nat → ClassId} {dI : Nat → Nat → Nat} {a : Nat → Nat} {k : Nat → ClassId} {A : Nat → Prop} {q : Int32 × ST} (hC : CxB p s m args meth c dC dI k A cX11_isMessage RX11 (some .boolean) 2)   {p0 : Int32} {σ : ST} (h : f_X11_isMessage  p0 σ = some q) : GoB p l e ({ frames := 1, cells := 0, slots := 0, locals := 25 } : Room) s m args below meth c (MQ below (qBi dC dI a k A q) args s 0 0 A) dC dI a k A 2 0 σ (lv_args 0 [.ref (a 0), .int p0]) [] := by
  have hC0 := hC
  obtain ⟨hx, hb, hr, hml, hown, hts, hlocks, hA, hN, hK⟩ := hC0
  intro H locs ls hP hD hS hl
  have hD0 : ∀ σ1 : ST, va_D A (wB a k σ1) := fun σ1 => wB_D hD
  replace hl : lv_has ls 2 [(0, .ref (a 0)), (1, .int p0)] := hl
  unfold f_X11_isMessage at h
  refine lv_iload_n hx hb dX11_isMessage_0 rfl (lv_at hl 1 rfl) ?_
  refine lv_i2l (v := p0.toInt64) hx hb dX11_isMessage_1 rfl ?_
  refine lv_lconst (v := 0) hx hb dX11_isMessage_2 (by decide) ?_
  refine lv_ldc2 (v := 3) hx hb hown (hts (.constantLong RX11 475 (3)) mw_35_14) dX11_isMessage_3 ?_
  obtain ⟨q1, hc, h⟩ := ib h
  have hF := va_frees hD hS hA
  refine va_calli (va_runS (As := [.long (p0.toInt64), .long 0, .long 3]) (rest := []) ⟨hx, hb, hml, hown, hts⟩ (s_X11_within hc) (va_cwS 3 hts (gS mw_29_0 mw_29_1 mw_0_15 mw_53_26) rfl rfl rfl (by decide +kernel) ⟨(Nat.le_of_ble_eq_true rfl), (Nat.le_of_ble_eq_true rfl)⟩) (vS hK hP hD hN) rfl rfl hl.1 rfl (lv_room (Nat.le_of_ble_eq_true rfl)) dX11_isMessage_6 ⟨(Nat.le_of_ble_eq_true rfl), (Nat.le_of_ble_eq_true rfl)⟩) hS (fun q _ h => hF q h) hF (fun r2 u t H locs ht hvm hw hB _ _ hS => ?_)
  obtain rfl : r2 = q1.1 := hw
  replace hP : va_P (dC, dI) vwCl (wB a k q1.2) H := by rw [← ht]; exact hB.1
  replace hD := hD0 (q1.2)
  clear hB hF
  refine lv_if_eq (tgt := 25) hx hb dX11_isMessage_9 (by decide) (fun hc => ?_) (fun hc => ?_)
  · replace h := ip hc h
    refine lv_iconst (v := 0) hx hb dX11_isMessage_25 (by decide) ?_
    obtain rfl := Option.some.inj h
    exact W.zret hx hb hr rfl (fun t ht hW => ⟨⟨_, (), rfl, rfl, ⟨by rw [ht]; exact hP, va_K.moved hW.alike hK, hD⟩⟩, hS.F ht⟩) hS.2.2 dX11_isMessage_26
  · replace h := iq hc h
    refine lv_aload_n hx hb dX11_isMessage_12 rfl (lv_at hl 0 rfl) ?_
    refine va_get (D := (dC, dI)) (ci := 11) (C := RX11) (T := TX11) (N := 95) hx hb hts inlX11 hown hK hP 0 gB_0 rfl 50 (by decide) (hts (.fieldLink RX11 106 "ShapeReaderModel" "messagePlan" "[I") mw_27_28) (fun _ h9 => h9) rfl dX11_isMessage_13 ?_
    refine lv_iload_n hx hb dX11_isMessage_16 rfl (lv_at hl 1 rfl) ?_
    obtain ⟨hg3, h⟩ := ig h
    refine va_iald hx hb hK hP 32 31 gB_32 yB_32 (vp_in_iff.mpr hg3) dX11_isMessage_17 ?_
    refine lv_if_lt (tgt := 25) hx hb dX11_isMessage_18 (by decide) (fun hc => ?_) (fun hc => ?_)
    · replace h := ip hc h
      refine lv_iconst (v := 0) hx hb dX11_isMessage_25 (by decide) ?_
      obtain rfl := Option.some.inj h
      exact W.zret hx hb hr rfl (fun t ht hW => ⟨⟨_, (), rfl, rfl, ⟨by rw [ht]; exact hP, va_K.moved hW.alike hK, hD⟩⟩, hS.F ht⟩) hS.2.2 dX11_isMessage_26
    · replace h := iq hc h
      refine lv_iconst (v := 1) hx hb dX11_isMessage_21 (by decide) ?_
      refine lv_goto (tgt := 26) hx hb dX11_isMessage_22 (by decide) ?_
      obtain rfl := Option.some.inj h
      exact W.zret hx hb hr rfl (fun t ht hW => ⟨⟨_, (), rfl, rfl, ⟨by rw [ht]; exact hP, va_K.moved hW.alike hK, hD⟩⟩, hS.F ht⟩) hS.2.2 dX11_isMessage_26

theorem s_X11_isMessage {l : Launch} {dC : Nat → ClassId} {dI : Nat → Nat → Nat} {a : Nat → Nat} {k : Nat → ClassId} {sz : Nat} {p0 : Int32} {σ : ST} {q : Int32 × ST} (h : f_X11_isMessage  p0 σ = some q) : Met l yX11_isMessage (.code yX11_isMessage cX11_isMessage 2 (some .boolean) :: pw) ({ frames := 1, cells := 0, slots := 0, locals := 25 } : Room) (va_Pc [.ref (a 0), .int p0] (vPre dC dI (wB a k σ) (tB k) sz)) (qBi dC dI a k (va_A (wB a k σ) sz) q) 0 0 (va_A (wB a k σ) sz) := metB (fun A => qBi dC dI a k A q) (plainFor_of_name (by decide)) (Nat.le_of_ble_eq_true rfl) (fun _ _ _ _ _ _ _ _ hC => b_X11_isMessage_e hC h)

def f_X11_isPlanAt (p0 : Int32) (σ : ST) : Option (Int32 × ST) := (f_X11_within  (p0.toInt64) 0 (((σ.1 0 32) - 1).toInt64) σ).bind fun q1 => if q1.1 = 0 ∨ q1.1 = 1 then some (q1.1, q1.2) else none

set_option maxRecDepth 100000 in
set_option maxHeartbeats 4000000 in
theorem b_X11_isPlanAt_e {p : Program} {l : Launch} {e : Env} {s : State} {m : MethodId} {args : Array Value} {below : List Frame} {meth : Method} {c : Code} {dC : Nat → ClassId} {dI : Nat → Nat → Nat} {a : Nat → Nat} {k : Nat → ClassId} {A : Nat → Prop} {q : Int32 × ST} (hC : CxB p s m args meth c dC dI k A cX11_isPlanAt RX11 (some .boolean) 2)   {p0 : Int32} {σ : ST} (h : f_X11_isPlanAt  p0 σ = some q) : GoB p l e ({ frames := 1, cells := 0, slots := 0, locals := 25 } : Room) s m args below meth c (MQ below (qBi dC dI a k A q) args s 0 0 A) dC dI a k A 2 0 σ (lv_args 0 [.ref (a 0), .int p0]) [] := by
  have hC0 := hC
  obtain ⟨hx, hb, hr, hml, hown, hts, hlocks, hA, hN, hK⟩ := hC0
  intro H locs ls hP hD hS hl
  have hD0 : ∀ σ1 : ST, va_D A (wB a k σ1) := fun σ1 => wB_D hD
  replace hl : lv_has ls 2 [(0, .ref (a 0)), (1, .int p0)] := hl
  unfold f_X11_isPlanAt at h
  refine lv_iload_n hx hb dX11_isPlanAt_0 rfl (lv_at hl 1 rfl) ?_
  refine lv_i2l (v := p0.toInt64) hx hb dX11_isPlanAt_1 rfl ?_
  refine lv_lconst (v := 0) hx hb dX11_isPlanAt_2 (by decide) ?_
  refine lv_aload_n hx hb dX11_isPlanAt_3 rfl (lv_at hl 0 rfl) ?_
  refine va_get (D := (dC, dI)) (ci := 11) (C := RX11) (T := TX11) (N := 95) hx hb hts inlX11 hown hK hP 0 gB_0 rfl 32 (by decide) (hts (.fieldLink RX11 377 "ShapeReaderModel" "planMany" "I") mw_33_5) (fun _ h9 => h9) rfl dX11_isPlanAt_4 ?_
  refine lv_iconst (v := 1) hx hb dX11_isPlanAt_7 (by decide) ?_
  refine lv_isub hx hb dX11_isPlanAt_8 ?_
  refine lv_i2l (v := ((σ.1 0 32) - 1).toInt64) hx hb dX11_isPlanAt_9 rfl ?_
  obtain ⟨q1, hc, h⟩ := ib h
  have hF := va_frees hD hS hA
  refine va_calli (va_runS (As := [.long (p0.toInt64), .long 0, .long (((σ.1 0 32) - 1).toInt64)]) (rest := []) ⟨hx, hb, hml, hown, hts⟩ (s_X11_within hc) (va_cwS 3 hts (gS mw_29_0 mw_29_1 mw_0_15 mw_53_26) rfl rfl rfl (by decide +kernel) ⟨(Nat.le_of_ble_eq_true rfl), (Nat.le_of_ble_eq_true rfl)⟩) (vS hK hP hD hN) rfl rfl hl.1 rfl (lv_room (Nat.le_of_ble_eq_true rfl)) dX11_isPlanAt_10 ⟨(Nat.le_of_ble_eq_true rfl), (Nat.le_of_ble_eq_true rfl)⟩) hS (fun q _ h => hF q h) hF (fun r2 u t H locs ht hvm hw hB _ _ hS => ?_)
  obtain rfl : r2 = q1.1 := hw
  replace hP : va_P (dC, dI) vwCl (wB a k q1.2) H := by rw [← ht]; exact hB.1
  replace hD := hD0 (q1.2)
  clear hB hF
  obtain ⟨hg, h⟩ := ig h
  obtain rfl := Option.some.inj h
  exact W.zret hx hb hr (zn hg) (fun t ht hW => ⟨⟨_, (), rfl, rfl, ⟨by rw [ht]; exact hP, va_K.moved hW.alike hK, hD⟩⟩, hS.F ht⟩) hS.2.2 dX11_isPlanAt_13

theorem s_X11_isPlanAt {l : Launch} {dC : Nat → ClassId} {dI : Nat → Nat → Nat} {a : Nat → Nat} {k : Nat → ClassId} {sz : Nat} {p0 : Int32} {σ : ST} {q : Int32 × ST} (h : f_X11_isPlanAt  p0 σ = some q) : Met l yX11_isPlanAt (.code yX11_isPlanAt cX11_isPlanAt 2 (some .boolean) :: pw) ({ frames := 1, cells := 0, slots := 0, locals := 25 } : Room) (va_Pc [.ref (a 0), .int p0] (vPre dC dI (wB a k σ) (tB k) sz)) (qBi dC dI a k (va_A (wB a k σ) sz) q) 0 0 (va_A (wB a k σ) sz) := metB (fun A => qBi dC dI a k A q) (plainFor_of_name (by decide)) (Nat.le_of_ble_eq_true rfl) (fun _ _ _ _ _ _ _ _ hC => b_X11_isPlanAt_e hC h)

def f_X11_orders_136 (r_X11_orders : Int32 → ST → Option (ST)) : Nat → Int32 → ST → Option (ST)
  | 0, _, _ => none
  | n + 1, x3, σ => if x3 < 0 then (some σ) else ((r_X11_orders  x3 σ).bind fun q1 => if 0 ≤ x3.toInt ∧ x3.toInt < 4096 then (f_X11_orders_136 r_X11_orders n (q1.1 30 x3.toNatClampNeg) q1) else none)
def f_X11_orders_70 (r_X11_orders : Int32 → ST → Option (ST)) (x1 : Int32) (x2 : Int32) (y0 : Int32) (y1 : Int32) (σ : ST) : Option (ST) := if 0 ≤ y1.toInt ∧ y1.toInt < 1600 then (if 0 ≤ x1.toInt ∧ x1.toInt < 4096 then (if 0 ≤ (x2 + 2).toInt ∧ (x2 + 2).toInt < 1600 then ((some (stI (stI σ 51 y1.toNatClampNeg y0) 51 (x2 + 2).toNatClampNeg ((stI σ 51 y1.toNatClampNeg y0).1 25 x1.toNatClampNeg))).bind fun z4 => if 0 ≤ (x2 + 3).toInt ∧ (x2 + 3).toInt < 1600 then (if 0 ≤ (x2 / 2).toInt ∧ (x2 / 2).toInt < 800 then ((some (stL (stI z4 51 (x2 + 3).toNatClampNeg (z4.1 23 x1.toNatClampNeg)) 52 (x2 / 2).toNatClampNeg ((stI z4 51 (x2 + 3).toNatClampNeg (z4.1 23 x1.toNatClampNeg)).2.1 21 x1.toNatClampNeg))).bind fun z7 => if 0 ≤ ((x2 / 2) + 1).toInt ∧ ((x2 / 2) + 1).toInt < 800 then ((some ((stL z7 52 ((x2 / 2) + 1).toNatClampNeg (z7.2.1 22 x1.toNatClampNeg)).1 28 x1.toNatClampNeg)).bind fun x9 => f_X11_orders_136 r_X11_orders FU x9 (stL z7 52 ((x2 / 2) + 1).toNatClampNeg (z7.2.1 22 x1.toNatClampNeg))) else none) else none) else none) else none) else none) else none
def f_X11_orders (r_X11_orders : Int32 → ST → Option (ST)) (p0 : Int32) (σ : ST) : Option (ST) := if 0 ≤ p0.toInt ∧ p0.toInt < 400 then ((some (stI (stI σ 50 p0.toNatClampNeg (σ.1 0 88)) 0 88 (((stI σ 50 p0.toNatClampNeg (σ.1 0 88)).1 0 88) + 1))).bind fun z2 => if 0 ≤ p0.toInt ∧ p0.toInt < 4096 then (if 0 ≤ (4 * ((stI σ 50 p0.toNatClampNeg (σ.1 0 88)).1 0 88)).toInt ∧ (4 * ((stI σ 50 p0.toNatClampNeg (σ.1 0 88)).1 0 88)).toInt < 1600 then ((some (stI z2 51 (4 * ((stI σ 50 p0.toNatClampNeg (σ.1 0 88)).1 0 88)).toNatClampNeg (z2.1 20 p0.toNatClampNeg))).bind fun z5 => if 0 ≤ (z5.1 24 p0.toNatClampNeg) then (if 0 ≤ (z5.1 24 p0.toNatClampNeg).toInt ∧ (z5.1 24 p0.toNatClampNeg).toInt < 400 then (f_X11_orders_70 r_X11_orders p0 (4 * ((stI σ 50 p0.toNatClampNeg (σ.1 0 88)).1 0 88)) (z5.1 50 (z5.1 24 p0.toNatClampNeg).toNatClampNeg) ((4 * ((stI σ 50 p0.toNatClampNeg (σ.1 0 88)).1 0 88)) + 1) z5) else none) else (f_X11_orders_70 r_X11_orders p0 (4 * ((stI σ 50 p0.toNatClampNeg (σ.1 0 88)).1 0 88)) (-1) ((4 * ((stI σ 50 p0.toNatClampNeg (σ.1 0 88)).1 0 88)) + 1) z5)) else none) else none) else none

def R_X11_orders : Nat → (Int32 → ST → Option (ST))
  | 0 => (fun _ _ => none)
  | n + 1 => f_X11_orders ((R_X11_orders n))
def f_T_X11_orders (p0 : Int32) (σ : ST) : Option (ST) := (R_X11_orders FRB) p0 σ

set_option maxRecDepth 100000 in
set_option maxHeartbeats 4000000 in
theorem b_X11_orders_136 {p : Program} {l : Launch} {e : Env} {s : State} {m : MethodId} {args : Array Value} {below : List Frame} {meth : Method} {c : Code} {dC : Nat → ClassId} {dI : Nat → Nat → Nat} {a : Nat → Nat} {k : Nat → ClassId} {A : Nat → Prop} {q : ST} (hC : CxB p s m args meth c dC dI k A cX11_orders RX11 none 4) {nn : Nat} {r_X11_orders : Int32 → ST → Option (ST)} (hr_X11_orders : ∀ {sz : Nat} {p0 : Int32} {σ : ST} {q : ST}, r_X11_orders  p0 σ = some q → Met l yX11_orders (.code yX11_orders cX11_orders 4 none :: pw) ({ frames := 2 + nn, cells := 0, slots := 0, locals := 0 + 23 * nn } : Room) (va_Pc [.ref (a 0), .int p0] (vPre dC dI (wB a k σ) (tB k) sz)) (qBv dC dI a k (va_A (wB a k σ) sz) q) 0 0 (va_A (wB a k σ) sz))  : ∀ (n : Nat) (x3 : Int32) (σ : ST), f_X11_orders_136 r_X11_orders n x3 σ = some q → GoB p l e ({ frames := 2 + (nn + 1), cells := 0, slots := 0, locals := 0 + 23 * (nn + 1) } : Room) s m args below meth c (MQ below (qBv dC dI a k A q) args s 0 0 A) dC dI a k A 4 136 σ [(0, .ref (a 0)), (3, .int x3)] [] := by
  intro n
  induction n with
  | zero =>
    intro x3 σ h
    rw [f_X11_orders_136] at h
    cases h
  | succ n ih =>
    intro x3 σ h
    have hC0 := hC
    obtain ⟨hx, hb, hr, hml, hown, hts, hlocks, hA, hN, hK⟩ := hC0
    intro H locs ls hP hD hS hl
    have hD0 : ∀ σ1 : ST, va_D A (wB a k σ1) := fun σ1 => wB_D hD
    rw [f_X11_orders_136] at h
    refine lv_iload_n hx hb dX11_orders_136 rfl (lv_at hl 1 rfl) ?_
    refine lv_if_lt (tgt := 155) hx hb dX11_orders_137 (by decide) (fun hc => ?_) (fun hc => ?_)
    · replace h := ip hc h
      obtain rfl := Option.some.inj h
      exact W.vret hx hb hr (fun t ht hW => ⟨⟨(), rfl, trivial, ⟨by rw [ht]; exact hP, va_K.moved hW.alike hK, hD⟩⟩, hS.F ht⟩) hS.2.2 dX11_orders_155
    · replace h := iq hc h
      refine lv_aload_n hx hb dX11_orders_140 rfl (lv_at hl 0 rfl) ?_
      refine lv_iload_n hx hb dX11_orders_141 rfl (lv_at hl 1 rfl) ?_
      obtain ⟨q1, hc, h⟩ := ib h
      have hF := va_frees hD hS hA
      refine va_callv (va_runV (As := [.int x3]) (rest := []) ⟨hx, hb, hml, hown, hts⟩ (hr_X11_orders hc) (cwV 1 hts (gV mw_39_13 mw_39_14 mw_39_15 mw_0_15 mw_57_13) rfl rfl rfl (by decide +kernel) ⟨by show (2 + nn) + 1 ≤ 2 + (nn + 1); omega, by show 8 + (4 + 11) + (0 + 23 * nn) ≤ 0 + 23 * (nn + 1); omega⟩) (vV (ci := 11) (q0 := 0) hK hP hD hN rfl gB_0) rfl rfl hl.1 rfl (lv_room (Nat.le_of_ble_eq_true rfl)) dX11_orders_142 ⟨(Nat.le_of_ble_eq_true rfl), (Nat.le_of_ble_eq_true rfl)⟩) hS (fun q _ h => hF q h) hF (fun u t H locs ht hvm hw hB _ _ hS => ?_)
      replace hP : va_P (dC, dI) vwCl (wB a k q1) H := by rw [← ht]; exact hB.1
      replace hD := hD0 (q1)
      clear hB hF
      refine lv_aload_n hx hb dX11_orders_145 rfl (lv_at hl 0 rfl) ?_
      refine va_get (D := (dC, dI)) (ci := 11) (C := RX11) (T := TX11) (N := 95) hx hb hts inlX11 hown hK hP 0 gB_0 rfl 45 (by decide) (hts (.fieldLink RX11 100 "ShapeReaderModel" "nodeNext" "[I") mw_27_26) (fun _ h9 => h9) rfl dX11_orders_146 ?_
      refine lv_iload_n hx hb dX11_orders_149 rfl (lv_at hl 1 rfl) ?_
      obtain ⟨hg3, h⟩ := ig h
      refine va_iald hx hb hK hP 30 29 gB_30 yB_30 (vp_in_iff.mpr hg3) dX11_orders_150 ?_
      refine lv_istore_n (lv' := [(3, .int (q1.1 30 x3.toNatClampNeg)), (0, .ref (a 0))]) hx hb dX11_orders_151 rfl hl (by decide) rfl (fun ls hl => ?_)
      refine lv_goto (tgt := 136) hx hb dX11_orders_152 (by decide) ?_
      exact ih _ _ h _ _ _ hP hD hS (lv_sub hl [1, 0] rfl)

set_option maxRecDepth 100000 in
set_option maxHeartbeats 4000000 in
theorem b_X11_orders_70 {p : Program} {l : Launch} {e : Env} {s : State} {m : MethodId} {args : Array Value} {below : List Frame} {meth : Method} {c : Code} {dC : Nat → ClassId} {dI : Nat → Nat → Nat} {a : Nat → Nat} {k : Nat → ClassId} {A : Nat → Prop} {q : ST} (hC : CxB p s m args meth c dC dI k A cX11_orders RX11 none 4) {nn : Nat} {r_X11_orders : Int32 → ST → Option (ST)} (hr_X11_orders : ∀ {sz : Nat} {p0 : Int32} {σ : ST} {q : ST}, r_X11_orders  p0 σ = some q → Met l yX11_orders (.code yX11_orders cX11_orders 4 none :: pw) ({ frames := 2 + nn, cells := 0, slots := 0, locals := 0 + 23 * nn } : Room) (va_Pc [.ref (a 0), .int p0] (vPre dC dI (wB a k σ) (tB k) sz)) (qBv dC dI a k (va_A (wB a k σ) sz) q) 0 0 (va_A (wB a k σ) sz))  {x1 : Int32} {x2 : Int32} {y0 : Int32} {y1 : Int32} {σ : ST} (h : f_X11_orders_70 r_X11_orders x1 x2 y0 y1 σ = some q) : GoB p l e ({ frames := 2 + (nn + 1), cells := 0, slots := 0, locals := 0 + 23 * (nn + 1) } : Room) s m args below meth c (MQ below (qBv dC dI a k A q) args s 0 0 A) dC dI a k A 4 70 σ [(0, .ref (a 0)), (1, .int x1), (2, .int x2)] [.int y0, .int y1, .ref (a 51)] := by
  have hC0 := hC
  obtain ⟨hx, hb, hr, hml, hown, hts, hlocks, hA, hN, hK⟩ := hC0
  intro H locs ls hP hD hS hl
  have hD0 : ∀ σ1 : ST, va_D A (wB a k σ1) := fun σ1 => wB_D hD
  unfold f_X11_orders_70 at h
  obtain ⟨hg1, h⟩ := ig h
  refine va_iast hx hb hK hP hD hS 51 50 gB_51 yB_51 (vp_in_iff.mpr hg1) dX11_orders_70 (fun H locs hP hD hS => ?_)
  replace hP := uB_51 hP
  replace hD := hD0 ((stI σ 51 y1.toNatClampNeg y0))
  refine lv_aload_n hx hb dX11_orders_71 rfl (lv_at hl 0 rfl) ?_
  refine va_get (D := (dC, dI)) (ci := 11) (C := RX11) (T := TX11) (N := 95) hx hb hts inlX11 hown hK hP 0 gB_0 rfl 86 (by decide) (hts (.fieldLink RX11 163 "ShapeReaderModel" "alikeNumbers" "[I") mw_28_17) (fun _ h9 => h9) rfl dX11_orders_72 ?_
  refine lv_iload_n hx hb dX11_orders_75 rfl (lv_at hl 2 rfl) ?_
  refine lv_iconst (v := 2) hx hb dX11_orders_76 (by decide) ?_
  refine lv_iadd hx hb dX11_orders_77 ?_
  refine lv_aload_n hx hb dX11_orders_78 rfl (lv_at hl 0 rfl) ?_
  refine va_get (D := (dC, dI)) (ci := 11) (C := RX11) (T := TX11) (N := 95) hx hb hts inlX11 hown hK hP 0 gB_0 rfl 40 (by decide) (hts (.fieldLink RX11 85 "ShapeReaderModel" "nodeIndex" "[I") mw_27_21) (fun _ h9 => h9) rfl dX11_orders_79 ?_
  refine lv_iload_n hx hb dX11_orders_82 rfl (lv_at hl 1 rfl) ?_
  obtain ⟨hg2, h⟩ := ig h
  refine va_iald hx hb hK hP 25 24 gB_25 yB_25 (vp_in_iff.mpr hg2) dX11_orders_83 ?_
  obtain ⟨hg3, h⟩ := ig h
  refine va_iast hx hb hK hP hD hS 51 50 gB_51 yB_51 (vp_in_iff.mpr hg3) dX11_orders_84 (fun H locs hP hD hS => ?_)
  replace hP := uB_51 hP
  replace hD := hD0 ((stI (stI σ 51 y1.toNatClampNeg y0) 51 (x2 + 2).toNatClampNeg ((stI σ 51 y1.toNatClampNeg y0).1 25 x1.toNatClampNeg)))
  obtain ⟨z4, hs, h⟩ := ib h
  replace hs := Option.some.inj hs
  replace hP : va_P (dC, dI) vwCl (wB a k z4) H := by rw [← hs]; exact hP
  replace hD := hD0 z4
  clear hs
  refine lv_aload_n hx hb dX11_orders_85 rfl (lv_at hl 0 rfl) ?_
  refine va_get (D := (dC, dI)) (ci := 11) (C := RX11) (T := TX11) (N := 95) hx hb hts inlX11 hown hK hP 0 gB_0 rfl 86 (by decide) (hts (.fieldLink RX11 163 "ShapeReaderModel" "alikeNumbers" "[I") mw_28_17) (fun _ h9 => h9) rfl dX11_orders_86 ?_
  refine lv_iload_n hx hb dX11_orders_89 rfl (lv_at hl 2 rfl) ?_
  refine lv_iconst (v := 3) hx hb dX11_orders_90 (by decide) ?_
  refine lv_iadd hx hb dX11_orders_91 ?_
  refine lv_aload_n hx hb dX11_orders_92 rfl (lv_at hl 0 rfl) ?_
  refine va_get (D := (dC, dI)) (ci := 11) (C := RX11) (T := TX11) (N := 95) hx hb hts inlX11 hown hK hP 0 gB_0 rfl 38 (by decide) (hts (.fieldLink RX11 79 "ShapeReaderModel" "nodeHas" "[I") mw_27_19) (fun _ h9 => h9) rfl dX11_orders_93 ?_
  refine lv_iload_n hx hb dX11_orders_96 rfl (lv_at hl 1 rfl) ?_
  refine va_iald hx hb hK hP 23 22 gB_23 yB_23 (vp_in_iff.mpr hg2) dX11_orders_97 ?_
  obtain ⟨hg5, h⟩ := ig h
  refine va_iast hx hb hK hP hD hS 51 50 gB_51 yB_51 (vp_in_iff.mpr hg5) dX11_orders_98 (fun H locs hP hD hS => ?_)
  replace hP := uB_51 hP
  replace hD := hD0 ((stI z4 51 (x2 + 3).toNatClampNeg (z4.1 23 x1.toNatClampNeg)))
  refine lv_aload_n hx hb dX11_orders_99 rfl (lv_at hl 0 rfl) ?_
  refine va_get (D := (dC, dI)) (ci := 11) (C := RX11) (T := TX11) (N := 95) hx hb hts inlX11 hown hK hP 0 gB_0 rfl 87 (by decide) (hts (.fieldLink RX11 166 "ShapeReaderModel" "alikeLongs" "[J") mw_28_18) (fun _ h9 => h9) rfl dX11_orders_100 ?_
  refine lv_iload_n hx hb dX11_orders_103 rfl (lv_at hl 2 rfl) ?_
  refine lv_iconst (v := 2) hx hb dX11_orders_104 (by decide) ?_
  refine lv_idiv hx hb dX11_orders_105 (by decide) ?_
  refine lv_aload_n hx hb dX11_orders_106 rfl (lv_at hl 0 rfl) ?_
  refine va_get (D := (dC, dI)) (ci := 11) (C := RX11) (T := TX11) (N := 95) hx hb hts inlX11 hown hK hP 0 gB_0 rfl 36 (by decide) (hts (.fieldLink RX11 73 "ShapeReaderModel" "nodeBits" "[J") mw_27_17) (fun _ h9 => h9) rfl dX11_orders_107 ?_
  refine lv_iload_n hx hb dX11_orders_110 rfl (lv_at hl 1 rfl) ?_
  refine va_lald hx hb hK hP 21 20 gB_21 yB_21 (vp_in_iff.mpr hg2) dX11_orders_111 ?_
  obtain ⟨hg6, h⟩ := ig h
  refine va_last hx hb hK hP hD hS 52 51 gB_52 yB_52 (vp_in_iff.mpr hg6) dX11_orders_112 (fun H locs hP hD hS => ?_)
  replace hP := uB_52 hP
  replace hD := hD0 ((stL (stI z4 51 (x2 + 3).toNatClampNeg (z4.1 23 x1.toNatClampNeg)) 52 (x2 / 2).toNatClampNeg ((stI z4 51 (x2 + 3).toNatClampNeg (z4.1 23 x1.toNatClampNeg)).2.1 21 x1.toNatClampNeg)))
  obtain ⟨z7, hs, h⟩ := ib h
  replace hs := Option.some.inj hs
  replace hP : va_P (dC, dI) vwCl (wB a k z7) H := by rw [← hs]; exact hP
  replace hD := hD0 z7
  clear hs
  refine lv_aload_n hx hb dX11_orders_113 rfl (lv_at hl 0 rfl) ?_
  refine va_get (D := (dC, dI)) (ci := 11) (C := RX11) (T := TX11) (N := 95) hx hb hts inlX11 hown hK hP 0 gB_0 rfl 87 (by decide) (hts (.fieldLink RX11 166 "ShapeReaderModel" "alikeLongs" "[J") mw_28_18) (fun _ h9 => h9) rfl dX11_orders_114 ?_
  refine lv_iload_n hx hb dX11_orders_117 rfl (lv_at hl 2 rfl) ?_
  refine lv_iconst (v := 2) hx hb dX11_orders_118 (by decide) ?_
  refine lv_idiv hx hb dX11_orders_119 (by decide) ?_
  refine lv_iconst (v := 1) hx hb dX11_orders_120 (by decide) ?_
  refine lv_iadd hx hb dX11_orders_121 ?_
  refine lv_aload_n hx hb dX11_orders_122 rfl (lv_at hl 0 rfl) ?_
  refine va_get (D := (dC, dI)) (ci := 11) (C := RX11) (T := TX11) (N := 95) hx hb hts inlX11 hown hK hP 0 gB_0 rfl 37 (by decide) (hts (.fieldLink RX11 76 "ShapeReaderModel" "nodeText" "[J") mw_27_18) (fun _ h9 => h9) rfl dX11_orders_123 ?_
  refine lv_iload_n hx hb dX11_orders_126 rfl (lv_at hl 1 rfl) ?_
  refine va_lald hx hb hK hP 22 21 gB_22 yB_22 (vp_in_iff.mpr hg2) dX11_orders_127 ?_
  obtain ⟨hg8, h⟩ := ig h
  refine va_last hx hb hK hP hD hS 52 51 gB_52 yB_52 (vp_in_iff.mpr hg8) dX11_orders_128 (fun H locs hP hD hS => ?_)
  replace hP := uB_52 hP
  replace hD := hD0 ((stL z7 52 ((x2 / 2) + 1).toNatClampNeg (z7.2.1 22 x1.toNatClampNeg)))
  refine lv_aload_n hx hb dX11_orders_129 rfl (lv_at hl 0 rfl) ?_
  refine va_get (D := (dC, dI)) (ci := 11) (C := RX11) (T := TX11) (N := 95) hx hb hts inlX11 hown hK hP 0 gB_0 rfl 43 (by decide) (hts (.fieldLink RX11 94 "ShapeReaderModel" "nodeFirst" "[I") mw_27_24) (fun _ h9 => h9) rfl dX11_orders_130 ?_
  refine lv_iload_n hx hb dX11_orders_133 rfl (lv_at hl 1 rfl) ?_
  refine va_iald hx hb hK hP 28 27 gB_28 yB_28 (vp_in_iff.mpr hg2) dX11_orders_134 ?_
  obtain ⟨x9, hs, h⟩ := ib h
  replace hs := Option.some.inj hs
  refine lv_topi (fun y9 e9 => ?_)
  obtain rfl : x9 = y9 := (e9.trans hs).symm
  clear hs e9
  refine lv_istore_n (lv' := [(3, .int x9), (0, .ref (a 0)), (1, .int x1), (2, .int x2)]) hx hb dX11_orders_135 rfl hl (by decide) rfl (fun ls hl => ?_)
  exact b_X11_orders_136 hC hr_X11_orders FU _ _ h _ _ _ hP hD hS (lv_sub hl [1, 0] rfl)

set_option maxRecDepth 100000 in
set_option maxHeartbeats 4000000 in
theorem b_X11_orders_e {p : Program} {l : Launch} {e : Env} {s : State} {m : MethodId} {args : Array Value} {below : List Frame} {meth : Method} {c : Code} {dC : Nat → ClassId} {dI : Nat → Nat → Nat} {a : Nat → Nat} {k : Nat → ClassId} {A : Nat → Prop} {q : ST} (hC : CxB p s m args meth c dC dI k A cX11_orders RX11 none 4) {nn : Nat} {r_X11_orders : Int32 → ST → Option (ST)} (hr_X11_orders : ∀ {sz : Nat} {p0 : Int32} {σ : ST} {q : ST}, r_X11_orders  p0 σ = some q → Met l yX11_orders (.code yX11_orders cX11_orders 4 none :: pw) ({ frames := 2 + nn, cells := 0, slots := 0, locals := 0 + 23 * nn } : Room) (va_Pc [.ref (a 0), .int p0] (vPre dC dI (wB a k σ) (tB k) sz)) (qBv dC dI a k (va_A (wB a k σ) sz) q) 0 0 (va_A (wB a k σ) sz))  {p0 : Int32} {σ : ST} (h : f_X11_orders r_X11_orders p0 σ = some q) : GoB p l e ({ frames := 2 + (nn + 1), cells := 0, slots := 0, locals := 0 + 23 * (nn + 1) } : Room) s m args below meth c (MQ below (qBv dC dI a k A q) args s 0 0 A) dC dI a k A 4 0 σ (lv_args 0 [.ref (a 0), .int p0]) [] := by
  have hC0 := hC
  obtain ⟨hx, hb, hr, hml, hown, hts, hlocks, hA, hN, hK⟩ := hC0
  intro H locs ls hP hD hS hl
  have hD0 : ∀ σ1 : ST, va_D A (wB a k σ1) := fun σ1 => wB_D hD
  replace hl : lv_has ls 4 [(0, .ref (a 0)), (1, .int p0)] := hl
  unfold f_X11_orders at h
  refine lv_aload_n hx hb dX11_orders_0 rfl (lv_at hl 0 rfl) ?_
  refine va_get (D := (dC, dI)) (ci := 11) (C := RX11) (T := TX11) (N := 95) hx hb hts inlX11 hown hK hP 0 gB_0 rfl 85 (by decide) (hts (.fieldLink RX11 160 "ShapeReaderModel" "orderOf" "[I") mw_28_16) (fun _ h9 => h9) rfl dX11_orders_1 ?_
  refine lv_iload_n hx hb dX11_orders_4 rfl (lv_at hl 1 rfl) ?_
  refine lv_aload_n hx hb dX11_orders_5 rfl (lv_at hl 0 rfl) ?_
  refine va_get (D := (dC, dI)) (ci := 11) (C := RX11) (T := TX11) (N := 95) hx hb hts inlX11 hown hK hP 0 gB_0 rfl 88 (by decide) (hts (.fieldLink RX11 629 "ShapeReaderModel" "ordered" "I") mw_39_12) (fun _ h9 => h9) rfl dX11_orders_6 ?_
  obtain ⟨hg1, h⟩ := ig h
  refine va_iast hx hb hK hP hD hS 50 49 gB_50 yB_50 (vp_in_iff.mpr hg1) dX11_orders_9 (fun H locs hP hD hS => ?_)
  replace hP := uB_50 hP
  replace hD := hD0 ((stI σ 50 p0.toNatClampNeg (σ.1 0 88)))
  refine lv_iconst (v := 4) hx hb dX11_orders_10 (by decide) ?_
  refine lv_aload_n hx hb dX11_orders_11 rfl (lv_at hl 0 rfl) ?_
  refine va_get (D := (dC, dI)) (ci := 11) (C := RX11) (T := TX11) (N := 95) hx hb hts inlX11 hown hK hP 0 gB_0 rfl 88 (by decide) (hts (.fieldLink RX11 629 "ShapeReaderModel" "ordered" "I") mw_39_12) (fun _ h9 => h9) rfl dX11_orders_12 ?_
  refine lv_imul hx hb dX11_orders_15 ?_
  refine lv_istore_n (lv' := [(2, .int (4 * ((stI σ 50 p0.toNatClampNeg (σ.1 0 88)).1 0 88))), (0, .ref (a 0)), (1, .int p0)]) hx hb dX11_orders_16 rfl hl (by decide) rfl (fun ls hl => ?_)
  refine lv_aload_n hx hb dX11_orders_17 rfl (lv_at hl 1 rfl) ?_
  refine lv_dup hx hb dX11_orders_18 rfl ?_
  refine va_get (D := (dC, dI)) (ci := 11) (C := RX11) (T := TX11) (N := 95) hx hb hts inlX11 hown hK hP 0 gB_0 rfl 88 (by decide) (hts (.fieldLink RX11 629 "ShapeReaderModel" "ordered" "I") mw_39_12) (fun _ h9 => h9) rfl dX11_orders_19 ?_
  refine lv_iconst (v := 1) hx hb dX11_orders_22 (by decide) ?_
  refine lv_iadd hx hb dX11_orders_23 ?_
  refine va_put (D := (dC, dI)) (ci := 11) (ty := .int) (C := RX11) (T := TX11) (N := 95) hx hb hts inlX11 tyX11 tyX11_ok nmX11 hown hK hP hD hS 0 gB_0 rfl 88 (by decide) (hts (.fieldLink RX11 629 "ShapeReaderModel" "ordered" "I") mw_39_12) (fun _ h9 => h9) rfl (by decide +kernel) rfl rfl (Nat.le_of_ble_eq_true rfl) dX11_orders_24 (fun H locs hP hD hS => ?_)
  replace hP := uB_0_88 hP
  replace hD := hD0 ((stI (stI σ 50 p0.toNatClampNeg (σ.1 0 88)) 0 88 (((stI σ 50 p0.toNatClampNeg (σ.1 0 88)).1 0 88) + 1)))
  obtain ⟨z2, hs, h⟩ := ib h
  replace hs := Option.some.inj hs
  replace hP : va_P (dC, dI) vwCl (wB a k z2) H := by rw [← hs]; exact hP
  replace hD := hD0 z2
  clear hs
  refine lv_aload_n hx hb dX11_orders_27 rfl (lv_at hl 1 rfl) ?_
  refine va_get (D := (dC, dI)) (ci := 11) (C := RX11) (T := TX11) (N := 95) hx hb hts inlX11 hown hK hP 0 gB_0 rfl 86 (by decide) (hts (.fieldLink RX11 163 "ShapeReaderModel" "alikeNumbers" "[I") mw_28_17) (fun _ h9 => h9) rfl dX11_orders_28 ?_
  refine lv_iload_n hx hb dX11_orders_31 rfl (lv_at hl 0 rfl) ?_
  refine lv_aload_n hx hb dX11_orders_32 rfl (lv_at hl 1 rfl) ?_
  refine va_get (D := (dC, dI)) (ci := 11) (C := RX11) (T := TX11) (N := 95) hx hb hts inlX11 hown hK hP 0 gB_0 rfl 35 (by decide) (hts (.fieldLink RX11 70 "ShapeReaderModel" "nodeSort" "[I") mw_27_16) (fun _ h9 => h9) rfl dX11_orders_33 ?_
  refine lv_iload_n hx hb dX11_orders_36 rfl (lv_at hl 2 rfl) ?_
  obtain ⟨hg3, h⟩ := ig h
  refine va_iald hx hb hK hP 20 19 gB_20 yB_20 (vp_in_iff.mpr hg3) dX11_orders_37 ?_
  obtain ⟨hg4, h⟩ := ig h
  refine va_iast hx hb hK hP hD hS 51 50 gB_51 yB_51 (vp_in_iff.mpr hg4) dX11_orders_38 (fun H locs hP hD hS => ?_)
  replace hP := uB_51 hP
  replace hD := hD0 ((stI z2 51 (4 * ((stI σ 50 p0.toNatClampNeg (σ.1 0 88)).1 0 88)).toNatClampNeg (z2.1 20 p0.toNatClampNeg)))
  obtain ⟨z5, hs, h⟩ := ib h
  replace hs := Option.some.inj hs
  replace hP : va_P (dC, dI) vwCl (wB a k z5) H := by rw [← hs]; exact hP
  replace hD := hD0 z5
  clear hs
  refine lv_aload_n hx hb dX11_orders_39 rfl (lv_at hl 1 rfl) ?_
  refine va_get (D := (dC, dI)) (ci := 11) (C := RX11) (T := TX11) (N := 95) hx hb hts inlX11 hown hK hP 0 gB_0 rfl 86 (by decide) (hts (.fieldLink RX11 163 "ShapeReaderModel" "alikeNumbers" "[I") mw_28_17) (fun _ h9 => h9) rfl dX11_orders_40 ?_
  refine lv_iload_n hx hb dX11_orders_43 rfl (lv_at hl 0 rfl) ?_
  refine lv_iconst (v := 1) hx hb dX11_orders_44 (by decide) ?_
  refine lv_iadd hx hb dX11_orders_45 ?_
  refine lv_aload_n hx hb dX11_orders_46 rfl (lv_at hl 1 rfl) ?_
  refine va_get (D := (dC, dI)) (ci := 11) (C := RX11) (T := TX11) (N := 95) hx hb hts inlX11 hown hK hP 0 gB_0 rfl 39 (by decide) (hts (.fieldLink RX11 82 "ShapeReaderModel" "nodeParent" "[I") mw_27_20) (fun _ h9 => h9) rfl dX11_orders_47 ?_
  refine lv_iload_n hx hb dX11_orders_50 rfl (lv_at hl 2 rfl) ?_
  refine va_iald hx hb hK hP 24 23 gB_24 yB_24 (vp_in_iff.mpr hg3) dX11_orders_51 ?_
  refine lv_if_ge (tgt := 59) hx hb dX11_orders_52 (by decide) (fun hc => ?_) (fun hc => ?_)
  · replace h := ip hc h
    refine lv_aload_n hx hb dX11_orders_59 rfl (lv_at hl 1 rfl) ?_
    refine va_get (D := (dC, dI)) (ci := 11) (C := RX11) (T := TX11) (N := 95) hx hb hts inlX11 hown hK hP 0 gB_0 rfl 85 (by decide) (hts (.fieldLink RX11 160 "ShapeReaderModel" "orderOf" "[I") mw_28_16) (fun _ h9 => h9) rfl dX11_orders_60 ?_
    refine lv_aload_n hx hb dX11_orders_63 rfl (lv_at hl 1 rfl) ?_
    refine va_get (D := (dC, dI)) (ci := 11) (C := RX11) (T := TX11) (N := 95) hx hb hts inlX11 hown hK hP 0 gB_0 rfl 39 (by decide) (hts (.fieldLink RX11 82 "ShapeReaderModel" "nodeParent" "[I") mw_27_20) (fun _ h9 => h9) rfl dX11_orders_64 ?_
    refine lv_iload_n hx hb dX11_orders_67 rfl (lv_at hl 2 rfl) ?_
    refine va_iald hx hb hK hP 24 23 gB_24 yB_24 (vp_in_iff.mpr hg3) dX11_orders_68 ?_
    obtain ⟨hg6, h⟩ := ig h
    refine va_iald hx hb hK hP 50 49 gB_50 yB_50 (vp_in_iff.mpr hg6) dX11_orders_69 ?_
    exact b_X11_orders_70 hC hr_X11_orders h _ _ _ hP hD hS (lv_sub hl [1, 2, 0] rfl)
  · replace h := iq hc h
    refine lv_iconst (v := (-1)) hx hb dX11_orders_55 (by decide) ?_
    refine lv_goto (tgt := 70) hx hb dX11_orders_56 (by decide) ?_
    exact b_X11_orders_70 hC hr_X11_orders h _ _ _ hP hD hS (lv_sub hl [1, 2, 0] rfl)


set_option maxRecDepth 100000 in
set_option maxHeartbeats 4000000 in
theorem s_R_X11_orders {l : Launch} {dC : Nat → ClassId} {dI : Nat → Nat → Nat} {a : Nat → Nat} {k : Nat → ClassId} : ∀ n : Nat, (∀ {sz : Nat} {p0 : Int32} {σ : ST} {q : ST}, (R_X11_orders n) p0 σ = some q → Met l yX11_orders (.code yX11_orders cX11_orders 4 none :: pw) ({ frames := 2 + n, cells := 0, slots := 0, locals := 0 + 23 * n } : Room) (va_Pc [.ref (a 0), .int p0] (vPre dC dI (wB a k σ) (tB k) sz)) (qBv dC dI a k (va_A (wB a k σ) sz) q) 0 0 (va_A (wB a k σ) sz)) := by
  intro n
  induction n with
  | zero => exact (fun h => nomatch h)
  | succ n ih => exact (fun h => metB (fun A => qBv dC dI a k A _) (plainFor_of_name (by decide)) (Nat.le_of_ble_eq_true rfl) (fun _ _ _ _ _ _ _ _ hC => b_X11_orders_e hC ih h))
theorem s_X11_orders {l : Launch} {dC : Nat → ClassId} {dI : Nat → Nat → Nat} {a : Nat → Nat} {k : Nat → ClassId} {sz : Nat} {p0 : Int32} {σ : ST} {q : ST} (h : f_T_X11_orders p0 σ = some q) : Met l yX11_orders (.code yX11_orders cX11_orders 4 none :: pw) ({ frames := 342, cells := 0, slots := 0, locals := 7820 } : Room) (va_Pc [.ref (a 0), .int p0] (vPre dC dI (wB a k σ) (tB k) sz)) (qBv dC dI a k (va_A (wB a k σ) sz) q) 0 0 (va_A (wB a k σ) sz) := (s_R_X11_orders FRB) h

def f_X11_fails_36  : Nat → Int32 → ST → Option (Int32 × ST)
  | 0, _, _ => none
  | n + 1, x3, σ => if (σ.1 0 68) ≤ x3 then (some (0, σ)) else (if 0 ≤ x3.toInt ∧ x3.toInt < 256 then (f_X11_fails_36  n (x3 + 1) (stI σ 41 x3.toNatClampNeg (σ.1 36 x3.toNatClampNeg))) else none)
def f_X11_fails_31 (y0 : Int32) (σ : ST) : Option (Int32 × ST) := f_X11_fails_36  FU 0 (stI σ 0 68 y0)
def f_X11_fails_23 (σ : ST) : Option (Int32 × ST) := f_X11_fails_31  0 σ
def f_X11_fails (p0 : Int32) (p1 : Int32) (σ : ST) : Option (Int32 × ST) := if p0 = 14 then (f_X11_fails_23   (stI (stI σ 0 66 p0) 0 67 p1)) else (if p0 = 15 then (f_X11_fails_23   (stI (stI σ 0 66 p0) 0 67 p1)) else (f_X11_fails_31  ((stI (stI σ 0 66 p0) 0 67 p1).1 0 57) (stI (stI σ 0 66 p0) 0 67 p1)))

set_option maxRecDepth 100000 in
set_option maxHeartbeats 4000000 in
theorem b_X11_fails_36 {p : Program} {l : Launch} {e : Env} {s : State} {m : MethodId} {args : Array Value} {below : List Frame} {meth : Method} {c : Code} {dC : Nat → ClassId} {dI : Nat → Nat → Nat} {a : Nat → Nat} {k : Nat → ClassId} {A : Nat → Prop} {q : Int32 × ST} (hC : CxB p s m args meth c dC dI k A cX11_fails RX11 (some .boolean) 4)   : ∀ (n : Nat) (x3 : Int32) (σ : ST), f_X11_fails_36  n x3 σ = some q → GoB p l e ({ frames := 0, cells := 0, slots := 0, locals := 0 } : Room) s m args below meth c (MQ below (qBi dC dI a k A q) args s 0 0 A) dC dI a k A 4 36 σ [(0, .ref (a 0)), (3, .int x3)] [] := by
  intro n
  induction n with
  | zero =>
    intro x3 σ h
    rw [f_X11_fails_36] at h
    cases h
  | succ n ih =>
    intro x3 σ h
    have hC0 := hC
    obtain ⟨hx, hb, hr, hml, hown, hts, hlocks, hA, hN, hK⟩ := hC0
    intro H locs ls hP hD hS hl
    have hD0 : ∀ σ1 : ST, va_D A (wB a k σ1) := fun σ1 => wB_D hD
    rw [f_X11_fails_36] at h
    refine lv_iload_n hx hb dX11_fails_36 rfl (lv_at hl 1 rfl) ?_
    refine lv_aload_n hx hb dX11_fails_37 rfl (lv_at hl 0 rfl) ?_
    refine va_get (D := (dC, dI)) (ci := 11) (C := RX11) (T := TX11) (N := 95) hx hb hts inlX11 hown hK hP 0 gB_0 rfl 68 (by decide) (hts (.fieldLink RX11 545 "ShapeReaderModel" "failSteps" "I") mw_37_12) (fun _ h9 => h9) rfl dX11_fails_38 ?_
    refine lv_icmp_ge (tgt := 62) hx hb dX11_fails_41 (by decide) (fun hc => ?_) (fun hc => ?_)
    · replace h := ip hc h
      refine lv_iconst (v := 0) hx hb dX11_fails_62 (by decide) ?_
      obtain rfl := Option.some.inj h
      exact W.zret hx hb hr rfl (fun t ht hW => ⟨⟨_, (), rfl, rfl, ⟨by rw [ht]; exact hP, va_K.moved hW.alike hK, hD⟩⟩, hS.F ht⟩) hS.2.2 dX11_fails_63
    · replace h := iq hc h
      refine lv_aload_n hx hb dX11_fails_44 rfl (lv_at hl 0 rfl) ?_
      refine va_get (D := (dC, dI)) (ci := 11) (C := RX11) (T := TX11) (N := 95) hx hb hts inlX11 hown hK hP 0 gB_0 rfl 69 (by decide) (hts (.fieldLink RX11 133 "ShapeReaderModel" "failPath" "[I") mw_28_7) (fun _ h9 => h9) rfl dX11_fails_45 ?_
      refine lv_iload_n hx hb dX11_fails_48 rfl (lv_at hl 1 rfl) ?_
      refine lv_aload_n hx hb dX11_fails_49 rfl (lv_at hl 0 rfl) ?_
      refine va_get (D := (dC, dI)) (ci := 11) (C := RX11) (T := TX11) (N := 95) hx hb hts inlX11 hown hK hP 0 gB_0 rfl 56 (by decide) (hts (.fieldLink RX11 118 "ShapeReaderModel" "step" "[I") mw_28_2) (fun _ h9 => h9) rfl dX11_fails_50 ?_
      refine lv_iload_n hx hb dX11_fails_53 rfl (lv_at hl 1 rfl) ?_
      obtain ⟨hg1, h⟩ := ig h
      refine va_iald hx hb hK hP 36 35 gB_36 yB_36 (vp_in_iff.mpr hg1) dX11_fails_54 ?_
      refine va_iast hx hb hK hP hD hS 41 40 gB_41 yB_41 (vp_in_iff.mpr hg1) dX11_fails_55 (fun H locs hP hD hS => ?_)
      replace hP := uB_41 hP
      replace hD := hD0 ((stI σ 41 x3.toNatClampNeg (σ.1 36 x3.toNatClampNeg)))
      refine lv_iinc (v := (x3 + 1)) (lv' := [(3, .int (x3 + 1)), (0, .ref (a 0))]) hx hb dX11_fails_56 hl (k := 1) rfl rfl (by decide) rfl (fun ls hl => ?_)
      refine lv_goto (tgt := 36) hx hb dX11_fails_59 (by decide) ?_
      exact ih _ _ h _ _ _ hP hD hS (lv_sub hl [1, 0] rfl)

set_option maxRecDepth 100000 in
set_option maxHeartbeats 4000000 in
theorem b_X11_fails_31 {p : Program} {l : Launch} {e : Env} {s : State} {m : MethodId} {args : Array Value} {below : List Frame} {meth : Method} {c : Code} {dC : Nat → ClassId} {dI : Nat → Nat → Nat} {a : Nat → Nat} {k : Nat → ClassId} {A : Nat → Prop} {q : Int32 × ST} (hC : CxB p s m args meth c dC dI k A cX11_fails RX11 (some .boolean) 4)   {y0 : Int32} {σ : ST} (h : f_X11_fails_31  y0 σ = some q) : GoB p l e ({ frames := 0, cells := 0, slots := 0, locals := 0 } : Room) s m args below meth c (MQ below (qBi dC dI a k A q) args s 0 0 A) dC dI a k A 4 31 σ [(0, .ref (a 0))] [.int y0, .ref (a 0)] := by
  have hC0 := hC
  obtain ⟨hx, hb, hr, hml, hown, hts, hlocks, hA, hN, hK⟩ := hC0
  intro H locs ls hP hD hS hl
  have hD0 : ∀ σ1 : ST, va_D A (wB a k σ1) := fun σ1 => wB_D hD
  unfold f_X11_fails_31 at h
  refine va_put (D := (dC, dI)) (ci := 11) (ty := .int) (C := RX11) (T := TX11) (N := 95) hx hb hts inlX11 tyX11 tyX11_ok nmX11 hown hK hP hD hS 0 gB_0 rfl 68 (by decide) (hts (.fieldLink RX11 545 "ShapeReaderModel" "failSteps" "I") mw_37_12) (fun _ h9 => h9) rfl (by decide +kernel) rfl rfl (Nat.le_of_ble_eq_true rfl) dX11_fails_31 (fun H locs hP hD hS => ?_)
  replace hP := uB_0_68 hP
  replace hD := hD0 ((stI σ 0 68 y0))
  refine lv_iconst (v := 0) hx hb dX11_fails_34 (by decide) ?_
  refine lv_istore_n (lv' := [(3, .int 0), (0, .ref (a 0))]) hx hb dX11_fails_35 rfl hl (by decide) rfl (fun ls hl => ?_)
  exact b_X11_fails_36 hC FU _ _ h _ _ _ hP hD hS (lv_sub hl [1, 0] rfl)

set_option maxRecDepth 100000 in
set_option maxHeartbeats 4000000 in
theorem b_X11_fails_23 {p : Program} {l : Launch} {e : Env} {s : State} {m : MethodId} {args : Array Value} {below : List Frame} {meth : Method} {c : Code} {dC : Nat → ClassId} {dI : Nat → Nat → Nat} {a : Nat → Nat} {k : Nat → ClassId} {A : Nat → Prop} {q : Int32 × ST} (hC : CxB p s m args meth c dC dI k A cX11_fails RX11 (some .boolean) 4)    {σ : ST} (h : f_X11_fails_23   σ = some q) : GoB p l e ({ frames := 0, cells := 0, slots := 0, locals := 0 } : Room) s m args below meth c (MQ below (qBi dC dI a k A q) args s 0 0 A) dC dI a k A 4 23 σ [(0, .ref (a 0))] [.ref (a 0)] := by
  have hC0 := hC
  obtain ⟨hx, hb, hr, hml, hown, hts, hlocks, hA, hN, hK⟩ := hC0
  intro H locs ls hP hD hS hl
  have hD0 : ∀ σ1 : ST, va_D A (wB a k σ1) := fun σ1 => wB_D hD
  unfold f_X11_fails_23 at h
  refine lv_iconst (v := 0) hx hb dX11_fails_23 (by decide) ?_
  refine lv_goto (tgt := 31) hx hb dX11_fails_24 (by decide) ?_
  exact b_X11_fails_31 hC h _ _ _ hP hD hS (lv_sub hl [0] rfl)

set_option maxRecDepth 100000 in
set_option maxHeartbeats 4000000 in
theorem b_X11_fails_e {p : Program} {l : Launch} {e : Env} {s : State} {m : MethodId} {args : Array Value} {below : List Frame} {meth : Method} {c : Code} {dC : Nat → ClassId} {dI : Nat → Nat → Nat} {a : Nat → Nat} {k : Nat → ClassId} {A : Nat → Prop} {q : Int32 × ST} (hC : CxB p s m args meth c dC dI k A cX11_fails RX11 (some .boolean) 4)   {p0 : Int32} {p1 : Int32} {σ : ST} (h : f_X11_fails  p0 p1 σ = some q) : GoB p l e ({ frames := 0, cells := 0, slots := 0, locals := 0 } : Room) s m args below meth c (MQ below (qBi dC dI a k A q) args s 0 0 A) dC dI a k A 4 0 σ (lv_args 0 [.ref (a 0), .int p0, .int p1]) [] := by
  have hC0 := hC
  obtain ⟨hx, hb, hr, hml, hown, hts, hlocks, hA, hN, hK⟩ := hC0
  intro H locs ls hP hD hS hl
  have hD0 : ∀ σ1 : ST, va_D A (wB a k σ1) := fun σ1 => wB_D hD
  replace hl : lv_has ls 4 [(0, .ref (a 0)), (1, .int p0), (2, .int p1)] := hl
  unfold f_X11_fails at h
  refine lv_aload_n hx hb dX11_fails_0 rfl (lv_at hl 0 rfl) ?_
  refine lv_iload_n hx hb dX11_fails_1 rfl (lv_at hl 1 rfl) ?_
  refine va_put (D := (dC, dI)) (ci := 11) (ty := .int) (C := RX11) (T := TX11) (N := 95) hx hb hts inlX11 tyX11 tyX11_ok nmX11 hown hK hP hD hS 0 gB_0 rfl 66 (by decide) (hts (.fieldLink RX11 539 "ShapeReaderModel" "failKind" "I") mw_37_10) (fun _ h9 => h9) rfl (by decide +kernel) rfl rfl (Nat.le_of_ble_eq_true rfl) dX11_fails_2 (fun H locs hP hD hS => ?_)
  replace hP := uB_0_66 hP
  replace hD := hD0 ((stI σ 0 66 p0))
  refine lv_aload_n hx hb dX11_fails_5 rfl (lv_at hl 0 rfl) ?_
  refine lv_iload_n hx hb dX11_fails_6 rfl (lv_at hl 2 rfl) ?_
  refine va_put (D := (dC, dI)) (ci := 11) (ty := .int) (C := RX11) (T := TX11) (N := 95) hx hb hts inlX11 tyX11 tyX11_ok nmX11 hown hK hP hD hS 0 gB_0 rfl 67 (by decide) (hts (.fieldLink RX11 542 "ShapeReaderModel" "failByte" "I") mw_37_11) (fun _ h9 => h9) rfl (by decide +kernel) rfl rfl (Nat.le_of_ble_eq_true rfl) dX11_fails_7 (fun H locs hP hD hS => ?_)
  replace hP := uB_0_67 hP
  replace hD := hD0 ((stI (stI σ 0 66 p0) 0 67 p1))
  refine lv_aload_n hx hb dX11_fails_10 rfl (lv_at hl 0 rfl) ?_
  refine lv_iload_n hx hb dX11_fails_11 rfl (lv_at hl 1 rfl) ?_
  refine lv_bipush (v := 14) hx hb dX11_fails_12 (by decide) ?_
  refine lv_icmp_eq (tgt := 23) hx hb dX11_fails_14 (by decide) (fun hc => ?_) (fun hc => ?_)
  · replace h := ip hc h
    exact b_X11_fails_23 hC h _ _ _ hP hD hS (lv_sub hl [0] rfl)
  · replace h := iq hc h
    refine lv_iload_n hx hb dX11_fails_17 rfl (lv_at hl 1 rfl) ?_
    refine lv_bipush (v := 15) hx hb dX11_fails_18 (by decide) ?_
    refine lv_icmp_ne (tgt := 27) hx hb dX11_fails_20 (by decide) (fun hc => ?_) (fun hc => ?_)
    · replace h := iq hc h
      refine lv_aload_n hx hb dX11_fails_27 rfl (lv_at hl 0 rfl) ?_
      refine va_get (D := (dC, dI)) (ci := 11) (C := RX11) (T := TX11) (N := 95) hx hb hts inlX11 hown hK hP 0 gB_0 rfl 57 (by decide) (hts (.fieldLink RX11 516 "ShapeReaderModel" "steps" "I") mw_36_18) (fun _ h9 => h9) rfl dX11_fails_28 ?_
      exact b_X11_fails_31 hC h _ _ _ hP hD hS (lv_sub hl [0] rfl)
    · replace h := ip hc h
      exact b_X11_fails_23 hC h _ _ _ hP hD hS (lv_sub hl [0] rfl)

theorem s_X11_fails {l : Launch} {dC : Nat → ClassId} {dI : Nat → Nat → Nat} {a : Nat → Nat} {k : Nat → ClassId} {sz : Nat} {p0 : Int32} {p1 : Int32} {σ : ST} {q : Int32 × ST} (h : f_X11_fails  p0 p1 σ = some q) : Met l yX11_fails (.code yX11_fails cX11_fails 4 (some .boolean) :: pw) ({ frames := 0, cells := 0, slots := 0, locals := 0 } : Room) (va_Pc [.ref (a 0), .int p0, .int p1] (vPre dC dI (wB a k σ) (tB k) sz)) (qBi dC dI a k (va_A (wB a k σ) sz) q) 0 0 (va_A (wB a k σ) sz) := metB (fun A => qBi dC dI a k A q) (plainFor_of_name (by decide)) (Nat.le_of_ble_eq_true rfl) (fun _ _ _ _ _ _ _ _ hC => b_X11_fails_e hC h)

def f_X11_fieldOf_3  : Nat → Int32 → Int64 → Int32 → ST → Option (Int32 × ST)
  | 0, _, _, _, _ => none
  | n + 1, x1, x2, x4, σ => if 0 ≤ x1.toInt ∧ x1.toInt < 72 then (if (σ.1 11 x1.toNatClampNeg) ≤ x4 then (some ((-1), σ)) else (if 0 ≤ ((8 * x1) + x4).toInt ∧ ((8 * x1) + x4).toInt < 576 then (if (lg_cmp (σ.2.1 12 ((8 * x1) + x4).toNatClampNeg) x2) = 0 then (some (((8 * x1) + x4), σ)) else (f_X11_fieldOf_3  n x1 x2 (x4 + 1) σ)) else none)) else none
def f_X11_fieldOf (p0 : Int32) (p1 : Int64) (σ : ST) : Option (Int32 × ST) := f_X11_fieldOf_3  FU p0 p1 0 σ

set_option maxRecDepth 100000 in
set_option maxHeartbeats 4000000 in
theorem b_X11_fieldOf_3 {p : Program} {l : Launch} {e : Env} {s : State} {m : MethodId} {args : Array Value} {below : List Frame} {meth : Method} {c : Code} {dC : Nat → ClassId} {dI : Nat → Nat → Nat} {a : Nat → Nat} {k : Nat → ClassId} {A : Nat → Prop} {q : Int32 × ST} (hC : CxB p s m args meth c dC dI k A cX11_fieldOf RX11 (some .int) 5)   : ∀ (n : Nat) (x1 : Int32) (x2 : Int64) (x4 : Int32) (σ : ST), f_X11_fieldOf_3  n x1 x2 x4 σ = some q → GoB p l e ({ frames := 0, cells := 0, slots := 0, locals := 0 } : Room) s m args below meth c (MQ below (qBi dC dI a k A q) args s 0 0 A) dC dI a k A 5 3 σ [(0, .ref (a 0)), (1, .int x1), (2, .long x2), (4, .int x4)] [] := by
  intro n
  induction n with
  | zero =>
    intro x1 x2 x4 σ h
    rw [f_X11_fieldOf_3] at h
    cases h
  | succ n ih =>
    intro x1 x2 x4 σ h
    have hC0 := hC
    obtain ⟨hx, hb, hr, hml, hown, hts, hlocks, hA, hN, hK⟩ := hC0
    intro H locs ls hP hD hS hl
    have hD0 : ∀ σ1 : ST, va_D A (wB a k σ1) := fun σ1 => wB_D hD
    rw [f_X11_fieldOf_3] at h
    refine lv_iload hx hb dX11_fieldOf_3 (lv_at hl 3 rfl) ?_
    refine lv_aload_n hx hb dX11_fieldOf_5 rfl (lv_at hl 0 rfl) ?_
    refine va_get (D := (dC, dI)) (ci := 11) (C := RX11) (T := TX11) (N := 95) hx hb hts inlX11 hown hK hP 0 gB_0 rfl 23 (by decide) (hts (.fieldLink RX11 42 "ShapeReaderModel" "fieldMany" "[I") mw_27_7) (fun _ h9 => h9) rfl dX11_fieldOf_6 ?_
    refine lv_iload_n hx hb dX11_fieldOf_9 rfl (lv_at hl 1 rfl) ?_
    obtain ⟨hg1, h⟩ := ig h
    refine va_iald hx hb hK hP 11 10 gB_11 yB_11 (vp_in_iff.mpr hg1) dX11_fieldOf_10 ?_
    refine lv_icmp_ge (tgt := 45) hx hb dX11_fieldOf_11 (by decide) (fun hc => ?_) (fun hc => ?_)
    · replace h := ip hc h
      refine lv_iconst (v := (-1)) hx hb dX11_fieldOf_45 (by decide) ?_
      obtain rfl := Option.some.inj h
      exact W.iret hx hb hr (fun t ht hW => ⟨⟨_, (), rfl, rfl, ⟨by rw [ht]; exact hP, va_K.moved hW.alike hK, hD⟩⟩, hS.F ht⟩) hS.2.2 dX11_fieldOf_46
    · replace h := iq hc h
      refine lv_aload_n hx hb dX11_fieldOf_14 rfl (lv_at hl 0 rfl) ?_
      refine va_get (D := (dC, dI)) (ci := 11) (C := RX11) (T := TX11) (N := 95) hx hb hts inlX11 hown hK hP 0 gB_0 rfl 24 (by decide) (hts (.fieldLink RX11 45 "ShapeReaderModel" "fieldName" "[J") mw_27_8) (fun _ h9 => h9) rfl dX11_fieldOf_15 ?_
      refine lv_bipush (v := 8) hx hb dX11_fieldOf_18 (by decide) ?_
      refine lv_iload_n hx hb dX11_fieldOf_20 rfl (lv_at hl 1 rfl) ?_
      refine lv_imul hx hb dX11_fieldOf_21 ?_
      refine lv_iload hx hb dX11_fieldOf_22 (lv_at hl 3 rfl) ?_
      refine lv_iadd hx hb dX11_fieldOf_24 ?_
      obtain ⟨hg2, h⟩ := ig h
      refine va_lald hx hb hK hP 12 11 gB_12 yB_12 (vp_in_iff.mpr hg2) dX11_fieldOf_25 ?_
      refine lv_lload_n hx hb dX11_fieldOf_26 rfl (lv_at hl 2 rfl) ?_
      refine W.lcmp hx hb dX11_fieldOf_27 ?_
      refine lv_if_ne (tgt := 39) hx hb dX11_fieldOf_28 (by decide) (fun hc => ?_) (fun hc => ?_)
      · replace h := iq hc h
        refine lv_iinc (v := (x4 + 1)) (lv' := [(4, .int (x4 + 1)), (0, .ref (a 0)), (1, .int x1), (2, .long x2)]) hx hb dX11_fieldOf_39 hl (k := 3) rfl rfl (by decide) rfl (fun ls hl => ?_)
        refine lv_goto (tgt := 3) hx hb dX11_fieldOf_42 (by decide) ?_
        exact ih _ _ _ _ h _ _ _ hP hD hS (lv_sub hl [1, 2, 3, 0] rfl)
      · replace h := ip hc h
        refine lv_bipush (v := 8) hx hb dX11_fieldOf_31 (by decide) ?_
        refine lv_iload_n hx hb dX11_fieldOf_33 rfl (lv_at hl 1 rfl) ?_
        refine lv_imul hx hb dX11_fieldOf_34 ?_
        refine lv_iload hx hb dX11_fieldOf_35 (lv_at hl 3 rfl) ?_
        refine lv_iadd hx hb dX11_fieldOf_37 ?_
        obtain rfl := Option.some.inj h
        exact W.iret hx hb hr (fun t ht hW => ⟨⟨_, (), rfl, rfl, ⟨by rw [ht]; exact hP, va_K.moved hW.alike hK, hD⟩⟩, hS.F ht⟩) hS.2.2 dX11_fieldOf_38

set_option maxRecDepth 100000 in
set_option maxHeartbeats 4000000 in
theorem b_X11_fieldOf_e {p : Program} {l : Launch} {e : Env} {s : State} {m : MethodId} {args : Array Value} {below : List Frame} {meth : Method} {c : Code} {dC : Nat → ClassId} {dI : Nat → Nat → Nat} {a : Nat → Nat} {k : Nat → ClassId} {A : Nat → Prop} {q : Int32 × ST} (hC : CxB p s m args meth c dC dI k A cX11_fieldOf RX11 (some .int) 5)   {p0 : Int32} {p1 : Int64} {σ : ST} (h : f_X11_fieldOf  p0 p1 σ = some q) : GoB p l e ({ frames := 0, cells := 0, slots := 0, locals := 0 } : Room) s m args below meth c (MQ below (qBi dC dI a k A q) args s 0 0 A) dC dI a k A 5 0 σ (lv_args 0 [.ref (a 0), .int p0, .long p1]) [] := by
  have hC0 := hC
  obtain ⟨hx, hb, hr, hml, hown, hts, hlocks, hA, hN, hK⟩ := hC0
  intro H locs ls hP hD hS hl
  have hD0 : ∀ σ1 : ST, va_D A (wB a k σ1) := fun σ1 => wB_D hD
  replace hl : lv_has ls 5 [(0, .ref (a 0)), (1, .int p0), (2, .long p1)] := hl
  unfold f_X11_fieldOf at h
  refine lv_iconst (v := 0) hx hb dX11_fieldOf_0 (by decide) ?_
  refine lv_istore (lv' := [(4, .int 0), (0, .ref (a 0)), (1, .int p0), (2, .long p1)]) hx hb dX11_fieldOf_1 hl (by decide) rfl (fun ls hl => ?_)
  exact b_X11_fieldOf_3 hC FU _ _ _ _ h _ _ _ hP hD hS (lv_sub hl [1, 2, 3, 0] rfl)

theorem s_X11_fieldOf {l : Launch} {dC : Nat → ClassId} {dI : Nat → Nat → Nat} {a : Nat → Nat} {k : Nat → ClassId} {sz : Nat} {p0 : Int32} {p1 : Int64} {σ : ST} {q : Int32 × ST} (h : f_X11_fieldOf  p0 p1 σ = some q) : Met l yX11_fieldOf (.code yX11_fieldOf cX11_fieldOf 5 (some .int) :: pw) ({ frames := 0, cells := 0, slots := 0, locals := 0 } : Room) (va_Pc [.ref (a 0), .int p0, .long p1] (vPre dC dI (wB a k σ) (tB k) sz)) (qBi dC dI a k (va_A (wB a k σ) sz) q) 0 0 (va_A (wB a k σ) sz) := metB (fun A => qBi dC dI a k A q) (plainFor_of_name (by decide)) (Nat.le_of_ble_eq_true rfl) (fun _ _ _ _ _ _ _ _ hC => b_X11_fieldOf_e hC h)

def f_X11_fieldFor (p0 : Int32) (p1 : Int32) (σ : ST) : Option (Int32 × ST) := if 0 ≤ p1.toInt ∧ p1.toInt < 576 then ((f_X11_fieldOf  ((6 * (σ.1 0 53)) + p0) (σ.2.1 12 p1.toNatClampNeg) σ).bind fun q2 => if 0 ≤ q2.1 then (some (q2.1, q2.2)) else (if (lg_cmp (q2.2.2.1 14 p1.toNatClampNeg) 0) ≤ 0 then (some (q2.1, q2.2)) else ((f_X11_fieldOf  ((6 * (q2.2.1 0 53)) + p0) (q2.2.2.1 14 p1.toNatClampNeg) q2.2).bind fun q4 => some (q4.1, q4.2)))) else none

set_option maxRecDepth 100000 in
set_option maxHeartbeats 4000000 in
theorem b_X11_fieldFor_e {p : Program} {l : Launch} {e : Env} {s : State} {m : MethodId} {args : Array Value} {below : List Frame} {meth : Method} {c : Code} {dC : Nat → ClassId} {dI : Nat → Nat → Nat} {a : Nat → Nat} {k : Nat → ClassId} {A : Nat → Prop} {q : Int32 × ST} (hC : CxB p s m args meth c dC dI k A cX11_fieldFor RX11 (some .int) 4)   {p0 : Int32} {p1 : Int32} {σ : ST} (h : f_X11_fieldFor  p0 p1 σ = some q) : GoB p l e ({ frames := 1, cells := 0, slots := 0, locals := 24 } : Room) s m args below meth c (MQ below (qBi dC dI a k A q) args s 0 0 A) dC dI a k A 4 0 σ (lv_args 0 [.ref (a 0), .int p0, .int p1]) [] := by
  have hC0 := hC
  obtain ⟨hx, hb, hr, hml, hown, hts, hlocks, hA, hN, hK⟩ := hC0
  intro H locs ls hP hD hS hl
  have hD0 : ∀ σ1 : ST, va_D A (wB a k σ1) := fun σ1 => wB_D hD
  replace hl : lv_has ls 4 [(0, .ref (a 0)), (1, .int p0), (2, .int p1)] := hl
  unfold f_X11_fieldFor at h
  refine lv_aload_n hx hb dX11_fieldFor_0 rfl (lv_at hl 0 rfl) ?_
  refine lv_bipush (v := 6) hx hb dX11_fieldFor_1 (by decide) ?_
  refine lv_aload_n hx hb dX11_fieldFor_3 rfl (lv_at hl 0 rfl) ?_
  refine va_get (D := (dC, dI)) (ci := 11) (C := RX11) (T := TX11) (N := 95) hx hb hts inlX11 hown hK hP 0 gB_0 rfl 53 (by decide) (hts (.fieldLink RX11 492 "ShapeReaderModel" "writer" "I") mw_36_0) (fun _ h9 => h9) rfl dX11_fieldFor_4 ?_
  refine lv_imul hx hb dX11_fieldFor_7 ?_
  refine lv_iload_n hx hb dX11_fieldFor_8 rfl (lv_at hl 1 rfl) ?_
  refine lv_iadd hx hb dX11_fieldFor_9 ?_
  refine lv_aload_n hx hb dX11_fieldFor_10 rfl (lv_at hl 0 rfl) ?_
  refine va_get (D := (dC, dI)) (ci := 11) (C := RX11) (T := TX11) (N := 95) hx hb hts inlX11 hown hK hP 0 gB_0 rfl 24 (by decide) (hts (.fieldLink RX11 45 "ShapeReaderModel" "fieldName" "[J") mw_27_8) (fun _ h9 => h9) rfl dX11_fieldFor_11 ?_
  refine lv_iload_n hx hb dX11_fieldFor_14 rfl (lv_at hl 2 rfl) ?_
  obtain ⟨hg1, h⟩ := ig h
  refine va_lald hx hb hK hP 12 11 gB_12 yB_12 (vp_in_iff.mpr hg1) dX11_fieldFor_15 ?_
  obtain ⟨q2, hc, h⟩ := ib h
  have hF := va_frees hD hS hA
  refine va_calli (va_runV (As := [.int ((6 * (σ.1 0 53)) + p0), .long (σ.2.1 12 p1.toNatClampNeg)]) (rest := []) ⟨hx, hb, hml, hown, hts⟩ (s_X11_fieldOf hc) (cwV 2 hts (gV mw_32_16 mw_32_17 mw_32_18 mw_0_15 mw_54_29) rfl rfl rfl (by decide +kernel) ⟨(Nat.le_of_ble_eq_true rfl), (Nat.le_of_ble_eq_true rfl)⟩) (vV (ci := 11) (q0 := 0) hK hP hD hN rfl gB_0) rfl rfl hl.1 rfl (lv_room (Nat.le_of_ble_eq_true rfl)) dX11_fieldFor_16 ⟨(Nat.le_of_ble_eq_true rfl), (Nat.le_of_ble_eq_true rfl)⟩) hS (fun q _ h => hF q h) hF (fun r3 u t H locs ht hvm hw hB _ _ hS => ?_)
  obtain rfl : r3 = q2.1 := hw
  replace hP : va_P (dC, dI) vwCl (wB a k q2.2) H := by rw [← ht]; exact hB.1
  replace hD := hD0 (q2.2)
  clear hB hF
  refine lv_istore_n (lv' := [(3, .int q2.1), (0, .ref (a 0)), (1, .int p0), (2, .int p1)]) hx hb dX11_fieldFor_19 rfl hl (by decide) rfl (fun ls hl => ?_)
  refine lv_iload_n hx hb dX11_fieldFor_20 rfl (lv_at hl 0 rfl) ?_
  refine lv_if_ge (tgt := 57) hx hb dX11_fieldFor_21 (by decide) (fun hc => ?_) (fun hc => ?_)
  · replace h := ip hc h
    refine lv_iload_n hx hb dX11_fieldFor_57 rfl (lv_at hl 0 rfl) ?_
    obtain rfl := Option.some.inj h
    exact W.iret hx hb hr (fun t ht hW => ⟨⟨_, (), rfl, rfl, ⟨by rw [ht]; exact hP, va_K.moved hW.alike hK, hD⟩⟩, hS.F ht⟩) hS.2.2 dX11_fieldFor_58
  · replace h := iq hc h
    refine lv_aload_n hx hb dX11_fieldFor_24 rfl (lv_at hl 1 rfl) ?_
    refine va_get (D := (dC, dI)) (ci := 11) (C := RX11) (T := TX11) (N := 95) hx hb hts inlX11 hown hK hP 0 gB_0 rfl 26 (by decide) (hts (.fieldLink RX11 51 "ShapeReaderModel" "fieldWas" "[J") mw_27_10) (fun _ h9 => h9) rfl dX11_fieldFor_25 ?_
    refine lv_iload_n hx hb dX11_fieldFor_28 rfl (lv_at hl 3 rfl) ?_
    refine va_lald hx hb hK hP 14 13 gB_14 yB_14 (vp_in_iff.mpr hg1) dX11_fieldFor_29 ?_
    refine lv_lconst (v := 0) hx hb dX11_fieldFor_30 (by decide) ?_
    refine W.lcmp hx hb dX11_fieldFor_31 ?_
    refine lv_if_le (tgt := 57) hx hb dX11_fieldFor_32 (by decide) (fun hc => ?_) (fun hc => ?_)
    · replace h := ip hc h
      refine lv_iload_n hx hb dX11_fieldFor_57 rfl (lv_at hl 0 rfl) ?_
      obtain rfl := Option.some.inj h
      exact W.iret hx hb hr (fun t ht hW => ⟨⟨_, (), rfl, rfl, ⟨by rw [ht]; exact hP, va_K.moved hW.alike hK, hD⟩⟩, hS.F ht⟩) hS.2.2 dX11_fieldFor_58
    · replace h := iq hc h
      refine lv_aload_n hx hb dX11_fieldFor_35 rfl (lv_at hl 1 rfl) ?_
      refine lv_bipush (v := 6) hx hb dX11_fieldFor_36 (by decide) ?_
      refine lv_aload_n hx hb dX11_fieldFor_38 rfl (lv_at hl 1 rfl) ?_
      refine va_get (D := (dC, dI)) (ci := 11) (C := RX11) (T := TX11) (N := 95) hx hb hts inlX11 hown hK hP 0 gB_0 rfl 53 (by decide) (hts (.fieldLink RX11 492 "ShapeReaderModel" "writer" "I") mw_36_0) (fun _ h9 => h9) rfl dX11_fieldFor_39 ?_
      refine lv_imul hx hb dX11_fieldFor_42 ?_
      refine lv_iload_n hx hb dX11_fieldFor_43 rfl (lv_at hl 2 rfl) ?_
      refine lv_iadd hx hb dX11_fieldFor_44 ?_
      refine lv_aload_n hx hb dX11_fieldFor_45 rfl (lv_at hl 1 rfl) ?_
      refine va_get (D := (dC, dI)) (ci := 11) (C := RX11) (T := TX11) (N := 95) hx hb hts inlX11 hown hK hP 0 gB_0 rfl 26 (by decide) (hts (.fieldLink RX11 51 "ShapeReaderModel" "fieldWas" "[J") mw_27_10) (fun _ h9 => h9) rfl dX11_fieldFor_46 ?_
      refine lv_iload_n hx hb dX11_fieldFor_49 rfl (lv_at hl 3 rfl) ?_
      refine va_lald hx hb hK hP 14 13 gB_14 yB_14 (vp_in_iff.mpr hg1) dX11_fieldFor_50 ?_
      obtain ⟨q4, hc, h⟩ := ib h
      have hF := va_frees hD hS hA
      refine va_calli (va_runV (As := [.int ((6 * (q2.2.1 0 53)) + p0), .long (q2.2.2.1 14 p1.toNatClampNeg)]) (rest := []) ⟨hx, hb, hml, hown, hts⟩ (s_X11_fieldOf hc) (cwV 2 hts (gV mw_32_16 mw_32_17 mw_32_18 mw_0_15 mw_54_29) rfl rfl rfl (by decide +kernel) ⟨(Nat.le_of_ble_eq_true rfl), (Nat.le_of_ble_eq_true rfl)⟩) (vV (ci := 11) (q0 := 0) hK hP hD hN rfl gB_0) rfl rfl hl.1 rfl (lv_room (Nat.le_of_ble_eq_true rfl)) dX11_fieldFor_51 ⟨(Nat.le_of_ble_eq_true rfl), (Nat.le_of_ble_eq_true rfl)⟩) hS (fun q _ h => hF q h) hF (fun r5 u t H locs ht hvm hw hB _ _ hS => ?_)
      obtain rfl : r5 = q4.1 := hw
      replace hP : va_P (dC, dI) vwCl (wB a k q4.2) H := by rw [← ht]; exact hB.1
      replace hD := hD0 (q4.2)
      clear hB hF
      refine lv_goto (tgt := 58) hx hb dX11_fieldFor_54 (by decide) ?_
      obtain rfl := Option.some.inj h
      exact W.iret hx hb hr (fun t ht hW => ⟨⟨_, (), rfl, rfl, ⟨by rw [ht]; exact hP, va_K.moved hW.alike hK, hD⟩⟩, hS.F ht⟩) hS.2.2 dX11_fieldFor_58

theorem s_X11_fieldFor {l : Launch} {dC : Nat → ClassId} {dI : Nat → Nat → Nat} {a : Nat → Nat} {k : Nat → ClassId} {sz : Nat} {p0 : Int32} {p1 : Int32} {σ : ST} {q : Int32 × ST} (h : f_X11_fieldFor  p0 p1 σ = some q) : Met l yX11_fieldFor (.code yX11_fieldFor cX11_fieldFor 4 (some .int) :: pw) ({ frames := 1, cells := 0, slots := 0, locals := 24 } : Room) (va_Pc [.ref (a 0), .int p0, .int p1] (vPre dC dI (wB a k σ) (tB k) sz)) (qBi dC dI a k (va_A (wB a k σ) sz) q) 0 0 (va_A (wB a k σ) sz) := metB (fun A => qBi dC dI a k A q) (plainFor_of_name (by decide)) (Nat.le_of_ble_eq_true rfl) (fun _ _ _ _ _ _ _ _ hC => b_X11_fieldFor_e hC h)

def f_X11_chosen_69 (r_X11_chosen : Int32 → Int32 → ST → Option (Int32 × ST)) (r_X11_match : Int32 → Int32 → ST → Option (Int32 × ST)) (k5 : Int32 → Int32 → Int32 → Int32 → ST → Option (Int32 × ST)) (x1 : Int32) (x2 : Int32) (x3 : Int32) (x4 : Int32) (σ : ST) : Option (Int32 × ST) := k5 x1 x2 x3 (x4 + 1) σ
def f_X11_chosen_68 (r_X11_chosen : Int32 → Int32 → ST → Option (Int32 × ST)) (r_X11_match : Int32 → Int32 → ST → Option (Int32 × ST)) (k5 : Int32 → Int32 → Int32 → Int32 → ST → Option (Int32 × ST)) (x1 : Int32) (x2 : Int32) (x4 : Int32) (y0 : Int32) (σ : ST) : Option (Int32 × ST) := f_X11_chosen_69 r_X11_chosen r_X11_match k5 x1 x2 y0 x4 σ
def f_X11_chosen_5 (r_X11_chosen : Int32 → Int32 → ST → Option (Int32 × ST)) (r_X11_match : Int32 → Int32 → ST → Option (Int32 × ST)) : Nat → Int32 → Int32 → Int32 → Int32 → ST → Option (Int32 × ST)
  | 0, _, _, _, _, _ => none
  | n + 1, x1, x2, x3, x4, σ => if 0 ≤ x2.toInt ∧ x2.toInt < 800 then (if (σ.1 4 x2.toNatClampNeg) ≤ x4 then (some (x3, σ)) else (if 0 ≤ ((4 * x2) + x4).toInt ∧ ((4 * x2) + x4).toInt < 3200 then ((r_X11_match  x1 (σ.1 5 ((4 * x2) + x4).toNatClampNeg) σ).bind fun q3 => if q3.1 = 0 then (f_X11_chosen_69 r_X11_chosen r_X11_match (f_X11_chosen_5 r_X11_chosen r_X11_match n) x1 x2 x3 x4 q3.2) else (if 0 ≤ (σ.1 5 ((4 * x2) + x4).toNatClampNeg).toInt ∧ (σ.1 5 ((4 * x2) + x4).toNatClampNeg).toInt < 800 then (if 0 ≤ x1.toInt ∧ x1.toInt < 800 then (if (q3.2.1 2 (σ.1 5 ((4 * x2) + x4).toNatClampNeg).toNatClampNeg) = (q3.2.1 2 x1.toNatClampNeg) then (some (x4, q3.2)) else (if 0 ≤ x3 then (f_X11_chosen_68 r_X11_chosen r_X11_match (f_X11_chosen_5 r_X11_chosen r_X11_match n) x1 x2 x4 x3 q3.2) else (f_X11_chosen_68 r_X11_chosen r_X11_match (f_X11_chosen_5 r_X11_chosen r_X11_match n) x1 x2 x4 x4 q3.2))) else none) else none)) else none)) else none
def f_X11_chosen (r_X11_chosen : Int32 → Int32 → ST → Option (Int32 × ST)) (r_X11_match : Int32 → Int32 → ST → Option (Int32 × ST)) (p0 : Int32) (p1 : Int32) (σ : ST) : Option (Int32 × ST) := f_X11_chosen_5 r_X11_chosen r_X11_match FU p0 p1 (-1) 0 σ

def f_X11_match_55 (r_X11_chosen : Int32 → Int32 → ST → Option (Int32 × ST)) (r_X11_match : Int32 → Int32 → ST → Option (Int32 × ST)) (k16 : Int32 → Int32 → Int32 → Int32 → ST → Option (Int32 × ST)) (x1 : Int32) (x2 : Int32) (x4 : Int32) (y0 : Int32) (σ : ST) : Option (Int32 × ST) := k16 x1 x2 y0 (x4 + 1) σ
def f_X11_match_50 (r_X11_chosen : Int32 → Int32 → ST → Option (Int32 × ST)) (r_X11_match : Int32 → Int32 → ST → Option (Int32 × ST)) (k16 : Int32 → Int32 → Int32 → Int32 → ST → Option (Int32 × ST)) (x1 : Int32) (x2 : Int32) (x4 : Int32) (σ : ST) : Option (Int32 × ST) := f_X11_match_55 r_X11_chosen r_X11_match k16 x1 x2 x4 1 σ
def f_X11_match_16 (r_X11_chosen : Int32 → Int32 → ST → Option (Int32 × ST)) (r_X11_match : Int32 → Int32 → ST → Option (Int32 × ST)) : Nat → Int32 → Int32 → Int32 → Int32 → ST → Option (Int32 × ST)
  | 0, _, _, _, _, _ => none
  | n + 1, x1, x2, x3, x4, σ => if 0 ≤ x1.toInt ∧ x1.toInt < 800 then (if (σ.1 4 x1.toNatClampNeg) ≤ x4 then (if x3 = 0 ∨ x3 = 1 then some (x3, σ) else none) else (if x3 = 0 then (if 0 ≤ ((4 * x1) + x4).toInt ∧ ((4 * x1) + x4).toInt < 3200 then ((r_X11_match  (σ.1 5 ((4 * x1) + x4).toNatClampNeg) x2 σ).bind fun q3 => if q3.1 = 0 then (f_X11_match_55 r_X11_chosen r_X11_match (f_X11_match_16 r_X11_chosen r_X11_match n) x1 x2 x4 0 q3.2) else (f_X11_match_50 r_X11_chosen r_X11_match (f_X11_match_16 r_X11_chosen r_X11_match n) x1 x2 x4 q3.2)) else none) else (f_X11_match_50 r_X11_chosen r_X11_match (f_X11_match_16 r_X11_chosen r_X11_match n) x1 x2 x4 σ))) else none
def f_X11_match_204 (r_X11_chosen : Int32 → Int32 → ST → Option (Int32 × ST)) (r_X11_match : Int32 → Int32 → ST → Option (Int32 × ST)) (σ : ST) : Option (Int32 × ST) := some (1, σ)
def f_X11_match_193 (r_X11_chosen : Int32 → Int32 → ST → Option (Int32 × ST)) (r_X11_match : Int32 → Int32 → ST → Option (Int32 × ST)) (x3 : Int32) (x4 : Int32) (σ : ST) : Option (Int32 × ST) := if x3 = 3 then (if x4 = 4 then (f_X11_match_204 r_X11_chosen r_X11_match  σ) else (some (0, σ))) else (some (0, σ))
def f_X11_match_170 (r_X11_chosen : Int32 → Int32 → ST → Option (Int32 × ST)) (r_X11_match : Int32 → Int32 → ST → Option (Int32 × ST)) (x3 : Int32) (x4 : Int32) (σ : ST) : Option (Int32 × ST) := if x3 = x4 then (f_X11_match_204 r_X11_chosen r_X11_match  σ) else (if x3 = 2 then (if x4 = 3 then (f_X11_match_204 r_X11_chosen r_X11_match  σ) else (if x4 = 4 then (f_X11_match_204 r_X11_chosen r_X11_match  σ) else (f_X11_match_193 r_X11_chosen r_X11_match x3 x4 σ))) else (f_X11_match_193 r_X11_chosen r_X11_match x3 x4 σ))
def f_X11_match_135 (r_X11_chosen : Int32 → Int32 → ST → Option (Int32 × ST)) (r_X11_match : Int32 → Int32 → ST → Option (Int32 × ST)) (x1 : Int32) (x2 : Int32) (x3 : Int32) (x4 : Int32) (σ : ST) : Option (Int32 × ST) := if x3 = 7 then (if x4 = 7 then (if 0 ≤ x1.toInt ∧ x1.toInt < 800 then (if 0 ≤ x2.toInt ∧ x2.toInt < 800 then (if 0 ≤ ((6 * (σ.1 3 x1.toNatClampNeg)) + (σ.1 3 x2.toNatClampNeg)).toInt ∧ ((6 * (σ.1 3 x1.toNatClampNeg)) + (σ.1 3 x2.toNatClampNeg)).toInt < 36 then (if (σ.1 35 ((6 * (σ.1 3 x1.toNatClampNeg)) + (σ.1 3 x2.toNatClampNeg)).toNatClampNeg) = 0 ∨ (σ.1 35 ((6 * (σ.1 3 x1.toNatClampNeg)) + (σ.1 3 x2.toNatClampNeg)).toNatClampNeg) = 1 then some ((σ.1 35 ((6 * (σ.1 3 x1.toNatClampNeg)) + (σ.1 3 x2.toNatClampNeg)).toNatClampNeg), σ) else none) else none) else none) else none) else (f_X11_match_170 r_X11_chosen r_X11_match x3 x4 σ)) else (f_X11_match_170 r_X11_chosen r_X11_match x3 x4 σ)
def f_X11_match (r_X11_chosen : Int32 → Int32 → ST → Option (Int32 × ST)) (r_X11_match : Int32 → Int32 → ST → Option (Int32 × ST)) (p0 : Int32) (p1 : Int32) (σ : ST) : Option (Int32 × ST) := if 0 ≤ p0.toInt ∧ p0.toInt < 800 then (if (σ.1 2 p0.toNatClampNeg) = 8 then (f_X11_match_16 r_X11_chosen r_X11_match FU p0 p1 0 0 σ) else (if 0 ≤ p1.toInt ∧ p1.toInt < 800 then (if (σ.1 2 p1.toNatClampNeg) = 8 then ((r_X11_chosen  p0 p1 σ).bind fun q5 => if q5.1 < 0 then (some (0, q5.2)) else (some (1, q5.2))) else (if (σ.1 2 p0.toNatClampNeg) = 6 then (if (σ.1 2 p1.toNatClampNeg) = 6 then ((r_X11_match  (σ.1 3 p0.toNatClampNeg) (σ.1 3 p1.toNatClampNeg) σ).bind fun q3 => if q3.1 = 0 ∨ q3.1 = 1 then some (q3.1, q3.2) else none) else (f_X11_match_135 r_X11_chosen r_X11_match p0 p1 (σ.1 2 p0.toNatClampNeg) (σ.1 2 p1.toNatClampNeg) σ)) else (f_X11_match_135 r_X11_chosen r_X11_match p0 p1 (σ.1 2 p0.toNatClampNeg) (σ.1 2 p1.toNatClampNeg) σ))) else none)) else none

def R_X11_chosen : Nat → (Int32 → Int32 → ST → Option (Int32 × ST)) × (Int32 → Int32 → ST → Option (Int32 × ST))
  | 0 => ((fun _ _ _ => none), (fun _ _ _ => none))
  | n + 1 => (f_X11_chosen ((R_X11_chosen n).1) ((R_X11_chosen n).2), f_X11_match ((R_X11_chosen n).1) ((R_X11_chosen n).2))
def f_T_X11_chosen (p0 : Int32) (p1 : Int32) (σ : ST) : Option (Int32 × ST) := (R_X11_chosen FRB).1 p0 p1 σ
def f_T_X11_match (p0 : Int32) (p1 : Int32) (σ : ST) : Option (Int32 × ST) := (R_X11_chosen FRB).2 p0 p1 σ

set_option maxRecDepth 100000 in
set_option maxHeartbeats 4000000 in
theorem b_X11_chosen_69 {p : Program} {l : Launch} {e : Env} {s : State} {m : MethodId} {args : Array Value} {below : List Frame} {meth : Method} {c : Code} {dC : Nat → ClassId} {dI : Nat → Nat → Nat} {a : Nat → Nat} {k : Nat → ClassId} {A : Nat → Prop} {q : Int32 × ST} (hC : CxB p s m args meth c dC dI k A cX11_chosen RX11 (some .int) 6) {nn : Nat} {r_X11_chosen : Int32 → Int32 → ST → Option (Int32 × ST)} (hr_X11_chosen : ∀ {sz : Nat} {p0 : Int32} {p1 : Int32} {σ : ST} {q : Int32 × ST}, r_X11_chosen  p0 p1 σ = some q → Met l yX11_chosen (.code yX11_chosen cX11_chosen 6 (some .int) :: pw) ({ frames := 2 + nn, cells := 0, slots := 0, locals := 0 + 25 * nn } : Room) (va_Pc [.ref (a 0), .int p0, .int p1] (vPre dC dI (wB a k σ) (tB k) sz)) (qBi dC dI a k (va_A (wB a k σ) sz) q) 0 0 (va_A (wB a k σ) sz)) {r_X11_match : Int32 → Int32 → ST → Option (Int32 × ST)} (hr_X11_match : ∀ {sz : Nat} {p0 : Int32} {p1 : Int32} {σ : ST} {q : Int32 × ST}, r_X11_match  p0 p1 σ = some q → Met l yX11_match (.code yX11_match cX11_match 5 (some .boolean) :: pw) ({ frames := 2 + nn, cells := 0, slots := 0, locals := 0 + 25 * nn } : Room) (va_Pc [.ref (a 0), .int p0, .int p1] (vPre dC dI (wB a k σ) (tB k) sz)) (qBi dC dI a k (va_A (wB a k σ) sz) q) 0 0 (va_A (wB a k σ) sz)) {k5 : Int32 → Int32 → Int32 → Int32 → ST → Option (Int32 × ST)} (hk5 : ∀ (x1 : Int32) (x2 : Int32) (x3 : Int32) (x4 : Int32) (σ : ST), k5 x1 x2 x3 x4 σ = some q → GoB p l e ({ frames := 2 + (nn + 1), cells := 0, slots := 0, locals := 0 + 25 * (nn + 1) } : Room) s m args below meth c (MQ below (qBi dC dI a k A q) args s 0 0 A) dC dI a k A 6 5 σ [(0, .ref (a 0)), (1, .int x1), (2, .int x2), (3, .int x3), (4, .int x4)] []) {x1 : Int32} {x2 : Int32} {x3 : Int32} {x4 : Int32} {σ : ST} (h : f_X11_chosen_69 r_X11_chosen r_X11_match k5 x1 x2 x3 x4 σ = some q) : GoB p l e ({ frames := 2 + (nn + 1), cells := 0, slots := 0, locals := 0 + 25 * (nn + 1) } : Room) s m args below meth c (MQ below (qBi dC dI a k A q) args s 0 0 A) dC dI a k A 6 69 σ [(0, .ref (a 0)), (1, .int x1), (2, .int x2), (3, .int x3), (4, .int x4)] [] := by
  have hC0 := hC
  obtain ⟨hx, hb, hr, hml, hown, hts, hlocks, hA, hN, hK⟩ := hC0
  intro H locs ls hP hD hS hl
  have hD0 : ∀ σ1 : ST, va_D A (wB a k σ1) := fun σ1 => wB_D hD
  unfold f_X11_chosen_69 at h
  refine lv_iinc (v := (x4 + 1)) (lv' := [(4, .int (x4 + 1)), (0, .ref (a 0)), (1, .int x1), (2, .int x2), (3, .int x3)]) hx hb dX11_chosen_69 hl (k := 4) rfl rfl (by decide) rfl (fun ls hl => ?_)
  refine lv_goto (tgt := 5) hx hb dX11_chosen_72 (by decide) ?_
  exact hk5 _ _ _ _ _ h _ _ _ hP hD hS (lv_sub hl [1, 2, 3, 4, 0] rfl)

set_option maxRecDepth 100000 in
set_option maxHeartbeats 4000000 in
theorem b_X11_chosen_68 {p : Program} {l : Launch} {e : Env} {s : State} {m : MethodId} {args : Array Value} {below : List Frame} {meth : Method} {c : Code} {dC : Nat → ClassId} {dI : Nat → Nat → Nat} {a : Nat → Nat} {k : Nat → ClassId} {A : Nat → Prop} {q : Int32 × ST} (hC : CxB p s m args meth c dC dI k A cX11_chosen RX11 (some .int) 6) {nn : Nat} {r_X11_chosen : Int32 → Int32 → ST → Option (Int32 × ST)} (hr_X11_chosen : ∀ {sz : Nat} {p0 : Int32} {p1 : Int32} {σ : ST} {q : Int32 × ST}, r_X11_chosen  p0 p1 σ = some q → Met l yX11_chosen (.code yX11_chosen cX11_chosen 6 (some .int) :: pw) ({ frames := 2 + nn, cells := 0, slots := 0, locals := 0 + 25 * nn } : Room) (va_Pc [.ref (a 0), .int p0, .int p1] (vPre dC dI (wB a k σ) (tB k) sz)) (qBi dC dI a k (va_A (wB a k σ) sz) q) 0 0 (va_A (wB a k σ) sz)) {r_X11_match : Int32 → Int32 → ST → Option (Int32 × ST)} (hr_X11_match : ∀ {sz : Nat} {p0 : Int32} {p1 : Int32} {σ : ST} {q : Int32 × ST}, r_X11_match  p0 p1 σ = some q → Met l yX11_match (.code yX11_match cX11_match 5 (some .boolean) :: pw) ({ frames := 2 + nn, cells := 0, slots := 0, locals := 0 + 25 * nn } : Room) (va_Pc [.ref (a 0), .int p0, .int p1] (vPre dC dI (wB a k σ) (tB k) sz)) (qBi dC dI a k (va_A (wB a k σ) sz) q) 0 0 (va_A (wB a k σ) sz)) {k5 : Int32 → Int32 → Int32 → Int32 → ST → Option (Int32 × ST)} (hk5 : ∀ (x1 : Int32) (x2 : Int32) (x3 : Int32) (x4 : Int32) (σ : ST), k5 x1 x2 x3 x4 σ = some q → GoB p l e ({ frames := 2 + (nn + 1), cells := 0, slots := 0, locals := 0 + 25 * (nn + 1) } : Room) s m args below meth c (MQ below (qBi dC dI a k A q) args s 0 0 A) dC dI a k A 6 5 σ [(0, .ref (a 0)), (1, .int x1), (2, .int x2), (3, .int x3), (4, .int x4)] []) {x1 : Int32} {x2 : Int32} {x4 : Int32} {y0 : Int32} {σ : ST} (h : f_X11_chosen_68 r_X11_chosen r_X11_match k5 x1 x2 x4 y0 σ = some q) : GoB p l e ({ frames := 2 + (nn + 1), cells := 0, slots := 0, locals := 0 + 25 * (nn + 1) } : Room) s m args below meth c (MQ below (qBi dC dI a k A q) args s 0 0 A) dC dI a k A 6 68 σ [(0, .ref (a 0)), (1, .int x1), (2, .int x2), (4, .int x4)] [.int y0] := by
  have hC0 := hC
  obtain ⟨hx, hb, hr, hml, hown, hts, hlocks, hA, hN, hK⟩ := hC0
  intro H locs ls hP hD hS hl
  have hD0 : ∀ σ1 : ST, va_D A (wB a k σ1) := fun σ1 => wB_D hD
  unfold f_X11_chosen_68 at h
  refine lv_istore_n (lv' := [(3, .int y0), (0, .ref (a 0)), (1, .int x1), (2, .int x2), (4, .int x4)]) hx hb dX11_chosen_68 rfl hl (by decide) rfl (fun ls hl => ?_)
  exact b_X11_chosen_69 hC hr_X11_chosen hr_X11_match hk5 h _ _ _ hP hD hS (lv_sub hl [1, 2, 3, 0, 4] rfl)

set_option maxRecDepth 100000 in
set_option maxHeartbeats 4000000 in
theorem b_X11_chosen_5 {p : Program} {l : Launch} {e : Env} {s : State} {m : MethodId} {args : Array Value} {below : List Frame} {meth : Method} {c : Code} {dC : Nat → ClassId} {dI : Nat → Nat → Nat} {a : Nat → Nat} {k : Nat → ClassId} {A : Nat → Prop} {q : Int32 × ST} (hC : CxB p s m args meth c dC dI k A cX11_chosen RX11 (some .int) 6) {nn : Nat} {r_X11_chosen : Int32 → Int32 → ST → Option (Int32 × ST)} (hr_X11_chosen : ∀ {sz : Nat} {p0 : Int32} {p1 : Int32} {σ : ST} {q : Int32 × ST}, r_X11_chosen  p0 p1 σ = some q → Met l yX11_chosen (.code yX11_chosen cX11_chosen 6 (some .int) :: pw) ({ frames := 2 + nn, cells := 0, slots := 0, locals := 0 + 25 * nn } : Room) (va_Pc [.ref (a 0), .int p0, .int p1] (vPre dC dI (wB a k σ) (tB k) sz)) (qBi dC dI a k (va_A (wB a k σ) sz) q) 0 0 (va_A (wB a k σ) sz)) {r_X11_match : Int32 → Int32 → ST → Option (Int32 × ST)} (hr_X11_match : ∀ {sz : Nat} {p0 : Int32} {p1 : Int32} {σ : ST} {q : Int32 × ST}, r_X11_match  p0 p1 σ = some q → Met l yX11_match (.code yX11_match cX11_match 5 (some .boolean) :: pw) ({ frames := 2 + nn, cells := 0, slots := 0, locals := 0 + 25 * nn } : Room) (va_Pc [.ref (a 0), .int p0, .int p1] (vPre dC dI (wB a k σ) (tB k) sz)) (qBi dC dI a k (va_A (wB a k σ) sz) q) 0 0 (va_A (wB a k σ) sz))  : ∀ (n : Nat) (x1 : Int32) (x2 : Int32) (x3 : Int32) (x4 : Int32) (σ : ST), f_X11_chosen_5 r_X11_chosen r_X11_match n x1 x2 x3 x4 σ = some q → GoB p l e ({ frames := 2 + (nn + 1), cells := 0, slots := 0, locals := 0 + 25 * (nn + 1) } : Room) s m args below meth c (MQ below (qBi dC dI a k A q) args s 0 0 A) dC dI a k A 6 5 σ [(0, .ref (a 0)), (1, .int x1), (2, .int x2), (3, .int x3), (4, .int x4)] [] := by
  intro n
  induction n with
  | zero =>
    intro x1 x2 x3 x4 σ h
    rw [f_X11_chosen_5] at h
    cases h
  | succ n ih =>
    intro x1 x2 x3 x4 σ h
    have hC0 := hC
    obtain ⟨hx, hb, hr, hml, hown, hts, hlocks, hA, hN, hK⟩ := hC0
    intro H locs ls hP hD hS hl
    have hD0 : ∀ σ1 : ST, va_D A (wB a k σ1) := fun σ1 => wB_D hD
    rw [f_X11_chosen_5] at h
    refine lv_iload hx hb dX11_chosen_5 (lv_at hl 4 rfl) ?_
    refine lv_aload_n hx hb dX11_chosen_7 rfl (lv_at hl 0 rfl) ?_
    refine va_get (D := (dC, dI)) (ci := 11) (C := RX11) (T := TX11) (N := 95) hx hb hts inlX11 hown hK hP 0 gB_0 rfl 16 (by decide) (hts (.fieldLink RX11 20 "ShapeReaderModel" "typeMany" "[I") mw_27_0) (fun _ h9 => h9) rfl dX11_chosen_8 ?_
    refine lv_iload_n hx hb dX11_chosen_11 rfl (lv_at hl 2 rfl) ?_
    obtain ⟨hg1, h⟩ := ig h
    refine va_iald hx hb hK hP 4 3 gB_4 yB_4 (vp_in_iff.mpr hg1) dX11_chosen_12 ?_
    refine lv_icmp_ge (tgt := 75) hx hb dX11_chosen_13 (by decide) (fun hc => ?_) (fun hc => ?_)
    · replace h := ip hc h
      refine lv_iload_n hx hb dX11_chosen_75 rfl (lv_at hl 3 rfl) ?_
      obtain rfl := Option.some.inj h
      exact W.iret hx hb hr (fun t ht hW => ⟨⟨_, (), rfl, rfl, ⟨by rw [ht]; exact hP, va_K.moved hW.alike hK, hD⟩⟩, hS.F ht⟩) hS.2.2 dX11_chosen_76
    · replace h := iq hc h
      refine lv_aload_n hx hb dX11_chosen_16 rfl (lv_at hl 0 rfl) ?_
      refine va_get (D := (dC, dI)) (ci := 11) (C := RX11) (T := TX11) (N := 95) hx hb hts inlX11 hown hK hP 0 gB_0 rfl 17 (by decide) (hts (.fieldLink RX11 23 "ShapeReaderModel" "branch" "[I") mw_27_1) (fun _ h9 => h9) rfl dX11_chosen_17 ?_
      refine lv_iconst (v := 4) hx hb dX11_chosen_20 (by decide) ?_
      refine lv_iload_n hx hb dX11_chosen_21 rfl (lv_at hl 2 rfl) ?_
      refine lv_imul hx hb dX11_chosen_22 ?_
      refine lv_iload hx hb dX11_chosen_23 (lv_at hl 4 rfl) ?_
      refine lv_iadd hx hb dX11_chosen_25 ?_
      obtain ⟨hg2, h⟩ := ig h
      refine va_iald hx hb hK hP 5 4 gB_5 yB_5 (vp_in_iff.mpr hg2) dX11_chosen_26 ?_
      refine lv_istore (lv' := [(5, .int (σ.1 5 ((4 * x2) + x4).toNatClampNeg)), (0, .ref (a 0)), (1, .int x1), (2, .int x2), (3, .int x3), (4, .int x4)]) hx hb dX11_chosen_27 hl (by decide) rfl (fun ls hl => ?_)
      refine lv_aload_n hx hb dX11_chosen_29 rfl (lv_at hl 1 rfl) ?_
      refine lv_iload_n hx hb dX11_chosen_30 rfl (lv_at hl 2 rfl) ?_
      refine lv_iload hx hb dX11_chosen_31 (lv_at hl 0 rfl) ?_
      obtain ⟨q3, hc, h⟩ := ib h
      have hF := va_frees hD hS hA
      refine va_calli (va_runV (As := [.int x1, .int (σ.1 5 ((4 * x2) + x4).toNatClampNeg)]) (rest := []) ⟨hx, hb, hml, hown, hts⟩ (hr_X11_match hc) (cwV 2 hts (gV mw_36_2 mw_36_3 mw_36_4 mw_0_15 mw_56_8) rfl rfl rfl (by decide +kernel) ⟨by show (2 + nn) + 1 ≤ 2 + (nn + 1); omega, by show 8 + (5 + 11) + (0 + 25 * nn) ≤ 0 + 25 * (nn + 1); omega⟩) (vV (ci := 11) (q0 := 0) hK hP hD hN rfl gB_0) rfl rfl hl.1 rfl (lv_room (Nat.le_of_ble_eq_true rfl)) dX11_chosen_33 ⟨(Nat.le_of_ble_eq_true rfl), (Nat.le_of_ble_eq_true rfl)⟩) hS (fun q _ h => hF q h) hF (fun r4 u t H locs ht hvm hw hB _ _ hS => ?_)
      obtain rfl : r4 = q3.1 := hw
      replace hP : va_P (dC, dI) vwCl (wB a k q3.2) H := by rw [← ht]; exact hB.1
      replace hD := hD0 (q3.2)
      clear hB hF
      refine lv_if_eq (tgt := 69) hx hb dX11_chosen_36 (by decide) (fun hc => ?_) (fun hc => ?_)
      · replace h := ip hc h
        exact b_X11_chosen_69 hC hr_X11_chosen hr_X11_match ih h _ _ _ hP hD hS (lv_sub hl [1, 2, 3, 4, 5] rfl)
      · replace h := iq hc h
        refine lv_aload_n hx hb dX11_chosen_39 rfl (lv_at hl 1 rfl) ?_
        refine va_get (D := (dC, dI)) (ci := 11) (C := RX11) (T := TX11) (N := 95) hx hb hts inlX11 hown hK hP 0 gB_0 rfl 14 (by decide) (hts (.fieldLink RX11 13 "ShapeReaderModel" "typeSort" "[I") mw_26_28) (fun _ h9 => h9) rfl dX11_chosen_40 ?_
        refine lv_iload hx hb dX11_chosen_43 (lv_at hl 0 rfl) ?_
        obtain ⟨hg5, h⟩ := ig h
        refine va_iald hx hb hK hP 2 1 gB_2 yB_2 (vp_in_iff.mpr hg5) dX11_chosen_45 ?_
        refine lv_aload_n hx hb dX11_chosen_46 rfl (lv_at hl 1 rfl) ?_
        refine va_get (D := (dC, dI)) (ci := 11) (C := RX11) (T := TX11) (N := 95) hx hb hts inlX11 hown hK hP 0 gB_0 rfl 14 (by decide) (hts (.fieldLink RX11 13 "ShapeReaderModel" "typeSort" "[I") mw_26_28) (fun _ h9 => h9) rfl dX11_chosen_47 ?_
        refine lv_iload_n hx hb dX11_chosen_50 rfl (lv_at hl 2 rfl) ?_
        obtain ⟨hg6, h⟩ := ig h
        refine va_iald hx hb hK hP 2 1 gB_2 yB_2 (vp_in_iff.mpr hg6) dX11_chosen_51 ?_
        refine lv_icmp_ne (tgt := 58) hx hb dX11_chosen_52 (by decide) (fun hc => ?_) (fun hc => ?_)
        · replace h := iq hc h
          refine lv_iload_n hx hb dX11_chosen_58 rfl (lv_at hl 4 rfl) ?_
          refine lv_if_ge (tgt := 67) hx hb dX11_chosen_59 (by decide) (fun hc => ?_) (fun hc => ?_)
          · replace h := ip hc h
            refine lv_iload_n hx hb dX11_chosen_67 rfl (lv_at hl 4 rfl) ?_
            exact b_X11_chosen_68 hC hr_X11_chosen hr_X11_match ih h _ _ _ hP hD hS (lv_sub hl [1, 2, 3, 5] rfl)
          · replace h := iq hc h
            refine lv_iload hx hb dX11_chosen_62 (lv_at hl 5 rfl) ?_
            refine lv_goto (tgt := 68) hx hb dX11_chosen_64 (by decide) ?_
            exact b_X11_chosen_68 hC hr_X11_chosen hr_X11_match ih h _ _ _ hP hD hS (lv_sub hl [1, 2, 3, 5] rfl)
        · replace h := ip hc h
          refine lv_iload hx hb dX11_chosen_55 (lv_at hl 5 rfl) ?_
          obtain rfl := Option.some.inj h
          exact W.iret hx hb hr (fun t ht hW => ⟨⟨_, (), rfl, rfl, ⟨by rw [ht]; exact hP, va_K.moved hW.alike hK, hD⟩⟩, hS.F ht⟩) hS.2.2 dX11_chosen_57

set_option maxRecDepth 100000 in
set_option maxHeartbeats 4000000 in
theorem b_X11_chosen_e {p : Program} {l : Launch} {e : Env} {s : State} {m : MethodId} {args : Array Value} {below : List Frame} {meth : Method} {c : Code} {dC : Nat → ClassId} {dI : Nat → Nat → Nat} {a : Nat → Nat} {k : Nat → ClassId} {A : Nat → Prop} {q : Int32 × ST} (hC : CxB p s m args meth c dC dI k A cX11_chosen RX11 (some .int) 6) {nn : Nat} {r_X11_chosen : Int32 → Int32 → ST → Option (Int32 × ST)} (hr_X11_chosen : ∀ {sz : Nat} {p0 : Int32} {p1 : Int32} {σ : ST} {q : Int32 × ST}, r_X11_chosen  p0 p1 σ = some q → Met l yX11_chosen (.code yX11_chosen cX11_chosen 6 (some .int) :: pw) ({ frames := 2 + nn, cells := 0, slots := 0, locals := 0 + 25 * nn } : Room) (va_Pc [.ref (a 0), .int p0, .int p1] (vPre dC dI (wB a k σ) (tB k) sz)) (qBi dC dI a k (va_A (wB a k σ) sz) q) 0 0 (va_A (wB a k σ) sz)) {r_X11_match : Int32 → Int32 → ST → Option (Int32 × ST)} (hr_X11_match : ∀ {sz : Nat} {p0 : Int32} {p1 : Int32} {σ : ST} {q : Int32 × ST}, r_X11_match  p0 p1 σ = some q → Met l yX11_match (.code yX11_match cX11_match 5 (some .boolean) :: pw) ({ frames := 2 + nn, cells := 0, slots := 0, locals := 0 + 25 * nn } : Room) (va_Pc [.ref (a 0), .int p0, .int p1] (vPre dC dI (wB a k σ) (tB k) sz)) (qBi dC dI a k (va_A (wB a k σ) sz) q) 0 0 (va_A (wB a k σ) sz))  {p0 : Int32} {p1 : Int32} {σ : ST} (h : f_X11_chosen r_X11_chosen r_X11_match p0 p1 σ = some q) : GoB p l e ({ frames := 2 + (nn + 1), cells := 0, slots := 0, locals := 0 + 25 * (nn + 1) } : Room) s m args below meth c (MQ below (qBi dC dI a k A q) args s 0 0 A) dC dI a k A 6 0 σ (lv_args 0 [.ref (a 0), .int p0, .int p1]) [] := by
  have hC0 := hC
  obtain ⟨hx, hb, hr, hml, hown, hts, hlocks, hA, hN, hK⟩ := hC0
  intro H locs ls hP hD hS hl
  have hD0 : ∀ σ1 : ST, va_D A (wB a k σ1) := fun σ1 => wB_D hD
  replace hl : lv_has ls 6 [(0, .ref (a 0)), (1, .int p0), (2, .int p1)] := hl
  unfold f_X11_chosen at h
  refine lv_iconst (v := (-1)) hx hb dX11_chosen_0 (by decide) ?_
  refine lv_istore_n (lv' := [(3, .int (-1)), (0, .ref (a 0)), (1, .int p0), (2, .int p1)]) hx hb dX11_chosen_1 rfl hl (by decide) rfl (fun ls hl => ?_)
  refine lv_iconst (v := 0) hx hb dX11_chosen_2 (by decide) ?_
  refine lv_istore (lv' := [(4, .int 0), (3, .int (-1)), (0, .ref (a 0)), (1, .int p0), (2, .int p1)]) hx hb dX11_chosen_3 hl (by decide) rfl (fun ls hl => ?_)
  exact b_X11_chosen_5 hC hr_X11_chosen hr_X11_match FU _ _ _ _ _ h _ _ _ hP hD hS (lv_sub hl [2, 3, 4, 1, 0] rfl)


set_option maxRecDepth 100000 in
set_option maxHeartbeats 4000000 in
theorem b_X11_match_55 {p : Program} {l : Launch} {e : Env} {s : State} {m : MethodId} {args : Array Value} {below : List Frame} {meth : Method} {c : Code} {dC : Nat → ClassId} {dI : Nat → Nat → Nat} {a : Nat → Nat} {k : Nat → ClassId} {A : Nat → Prop} {q : Int32 × ST} (hC : CxB p s m args meth c dC dI k A cX11_match RX11 (some .boolean) 5) {nn : Nat} {r_X11_chosen : Int32 → Int32 → ST → Option (Int32 × ST)} (hr_X11_chosen : ∀ {sz : Nat} {p0 : Int32} {p1 : Int32} {σ : ST} {q : Int32 × ST}, r_X11_chosen  p0 p1 σ = some q → Met l yX11_chosen (.code yX11_chosen cX11_chosen 6 (some .int) :: pw) ({ frames := 2 + nn, cells := 0, slots := 0, locals := 0 + 25 * nn } : Room) (va_Pc [.ref (a 0), .int p0, .int p1] (vPre dC dI (wB a k σ) (tB k) sz)) (qBi dC dI a k (va_A (wB a k σ) sz) q) 0 0 (va_A (wB a k σ) sz)) {r_X11_match : Int32 → Int32 → ST → Option (Int32 × ST)} (hr_X11_match : ∀ {sz : Nat} {p0 : Int32} {p1 : Int32} {σ : ST} {q : Int32 × ST}, r_X11_match  p0 p1 σ = some q → Met l yX11_match (.code yX11_match cX11_match 5 (some .boolean) :: pw) ({ frames := 2 + nn, cells := 0, slots := 0, locals := 0 + 25 * nn } : Room) (va_Pc [.ref (a 0), .int p0, .int p1] (vPre dC dI (wB a k σ) (tB k) sz)) (qBi dC dI a k (va_A (wB a k σ) sz) q) 0 0 (va_A (wB a k σ) sz)) {k16 : Int32 → Int32 → Int32 → Int32 → ST → Option (Int32 × ST)} (hk16 : ∀ (x1 : Int32) (x2 : Int32) (x3 : Int32) (x4 : Int32) (σ : ST), k16 x1 x2 x3 x4 σ = some q → GoB p l e ({ frames := 2 + (nn + 1), cells := 0, slots := 0, locals := 0 + 25 * (nn + 1) } : Room) s m args below meth c (MQ below (qBi dC dI a k A q) args s 0 0 A) dC dI a k A 5 16 σ [(0, .ref (a 0)), (1, .int x1), (2, .int x2), (3, .int x3), (4, .int x4)] []) {x1 : Int32} {x2 : Int32} {x4 : Int32} {y0 : Int32} {σ : ST} (h : f_X11_match_55 r_X11_chosen r_X11_match k16 x1 x2 x4 y0 σ = some q) : GoB p l e ({ frames := 2 + (nn + 1), cells := 0, slots := 0, locals := 0 + 25 * (nn + 1) } : Room) s m args below meth c (MQ below (qBi dC dI a k A q) args s 0 0 A) dC dI a k A 5 55 σ [(0, .ref (a 0)), (1, .int x1), (2, .int x2), (4, .int x4)] [.int y0] := by
  have hC0 := hC
  obtain ⟨hx, hb, hr, hml, hown, hts, hlocks, hA, hN, hK⟩ := hC0
  intro H locs ls hP hD hS hl
  have hD0 : ∀ σ1 : ST, va_D A (wB a k σ1) := fun σ1 => wB_D hD
  unfold f_X11_match_55 at h
  refine lv_istore_n (lv' := [(3, .int y0), (0, .ref (a 0)), (1, .int x1), (2, .int x2), (4, .int x4)]) hx hb dX11_match_55 rfl hl (by decide) rfl (fun ls hl => ?_)
  refine lv_iinc (v := (x4 + 1)) (lv' := [(4, .int (x4 + 1)), (3, .int y0), (0, .ref (a 0)), (1, .int x1), (2, .int x2)]) hx hb dX11_match_56 hl (k := 4) rfl rfl (by decide) rfl (fun ls hl => ?_)
  refine lv_goto (tgt := 16) hx hb dX11_match_59 (by decide) ?_
  exact hk16 _ _ _ _ _ h _ _ _ hP hD hS (lv_sub hl [2, 3, 4, 1, 0] rfl)

set_option maxRecDepth 100000 in
set_option maxHeartbeats 4000000 in
theorem b_X11_match_50 {p : Program} {l : Launch} {e : Env} {s : State} {m : MethodId} {args : Array Value} {below : List Frame} {meth : Method} {c : Code} {dC : Nat → ClassId} {dI : Nat → Nat → Nat} {a : Nat → Nat} {k : Nat → ClassId} {A : Nat → Prop} {q : Int32 × ST} (hC : CxB p s m args meth c dC dI k A cX11_match RX11 (some .boolean) 5) {nn : Nat} {r_X11_chosen : Int32 → Int32 → ST → Option (Int32 × ST)} (hr_X11_chosen : ∀ {sz : Nat} {p0 : Int32} {p1 : Int32} {σ : ST} {q : Int32 × ST}, r_X11_chosen  p0 p1 σ = some q → Met l yX11_chosen (.code yX11_chosen cX11_chosen 6 (some .int) :: pw) ({ frames := 2 + nn, cells := 0, slots := 0, locals := 0 + 25 * nn } : Room) (va_Pc [.ref (a 0), .int p0, .int p1] (vPre dC dI (wB a k σ) (tB k) sz)) (qBi dC dI a k (va_A (wB a k σ) sz) q) 0 0 (va_A (wB a k σ) sz)) {r_X11_match : Int32 → Int32 → ST → Option (Int32 × ST)} (hr_X11_match : ∀ {sz : Nat} {p0 : Int32} {p1 : Int32} {σ : ST} {q : Int32 × ST}, r_X11_match  p0 p1 σ = some q → Met l yX11_match (.code yX11_match cX11_match 5 (some .boolean) :: pw) ({ frames := 2 + nn, cells := 0, slots := 0, locals := 0 + 25 * nn } : Room) (va_Pc [.ref (a 0), .int p0, .int p1] (vPre dC dI (wB a k σ) (tB k) sz)) (qBi dC dI a k (va_A (wB a k σ) sz) q) 0 0 (va_A (wB a k σ) sz)) {k16 : Int32 → Int32 → Int32 → Int32 → ST → Option (Int32 × ST)} (hk16 : ∀ (x1 : Int32) (x2 : Int32) (x3 : Int32) (x4 : Int32) (σ : ST), k16 x1 x2 x3 x4 σ = some q → GoB p l e ({ frames := 2 + (nn + 1), cells := 0, slots := 0, locals := 0 + 25 * (nn + 1) } : Room) s m args below meth c (MQ below (qBi dC dI a k A q) args s 0 0 A) dC dI a k A 5 16 σ [(0, .ref (a 0)), (1, .int x1), (2, .int x2), (3, .int x3), (4, .int x4)] []) {x1 : Int32} {x2 : Int32} {x4 : Int32} {σ : ST} (h : f_X11_match_50 r_X11_chosen r_X11_match k16 x1 x2 x4 σ = some q) : GoB p l e ({ frames := 2 + (nn + 1), cells := 0, slots := 0, locals := 0 + 25 * (nn + 1) } : Room) s m args below meth c (MQ below (qBi dC dI a k A q) args s 0 0 A) dC dI a k A 5 50 σ [(0, .ref (a 0)), (1, .int x1), (2, .int x2), (4, .int x4)] [] := by
  have hC0 := hC
  obtain ⟨hx, hb, hr, hml, hown, hts, hlocks, hA, hN, hK⟩ := hC0
  intro H locs ls hP hD hS hl
  have hD0 : ∀ σ1 : ST, va_D A (wB a k σ1) := fun σ1 => wB_D hD
  unfold f_X11_match_50 at h
  refine lv_iconst (v := 1) hx hb dX11_match_50 (by decide) ?_
  refine lv_goto (tgt := 55) hx hb dX11_match_51 (by decide) ?_
  exact b_X11_match_55 hC hr_X11_chosen hr_X11_match hk16 h _ _ _ hP hD hS (lv_sub hl [0, 1, 2, 3] rfl)

set_option maxRecDepth 100000 in
set_option maxHeartbeats 4000000 in
theorem b_X11_match_16 {p : Program} {l : Launch} {e : Env} {s : State} {m : MethodId} {args : Array Value} {below : List Frame} {meth : Method} {c : Code} {dC : Nat → ClassId} {dI : Nat → Nat → Nat} {a : Nat → Nat} {k : Nat → ClassId} {A : Nat → Prop} {q : Int32 × ST} (hC : CxB p s m args meth c dC dI k A cX11_match RX11 (some .boolean) 5) {nn : Nat} {r_X11_chosen : Int32 → Int32 → ST → Option (Int32 × ST)} (hr_X11_chosen : ∀ {sz : Nat} {p0 : Int32} {p1 : Int32} {σ : ST} {q : Int32 × ST}, r_X11_chosen  p0 p1 σ = some q → Met l yX11_chosen (.code yX11_chosen cX11_chosen 6 (some .int) :: pw) ({ frames := 2 + nn, cells := 0, slots := 0, locals := 0 + 25 * nn } : Room) (va_Pc [.ref (a 0), .int p0, .int p1] (vPre dC dI (wB a k σ) (tB k) sz)) (qBi dC dI a k (va_A (wB a k σ) sz) q) 0 0 (va_A (wB a k σ) sz)) {r_X11_match : Int32 → Int32 → ST → Option (Int32 × ST)} (hr_X11_match : ∀ {sz : Nat} {p0 : Int32} {p1 : Int32} {σ : ST} {q : Int32 × ST}, r_X11_match  p0 p1 σ = some q → Met l yX11_match (.code yX11_match cX11_match 5 (some .boolean) :: pw) ({ frames := 2 + nn, cells := 0, slots := 0, locals := 0 + 25 * nn } : Room) (va_Pc [.ref (a 0), .int p0, .int p1] (vPre dC dI (wB a k σ) (tB k) sz)) (qBi dC dI a k (va_A (wB a k σ) sz) q) 0 0 (va_A (wB a k σ) sz))  : ∀ (n : Nat) (x1 : Int32) (x2 : Int32) (x3 : Int32) (x4 : Int32) (σ : ST), f_X11_match_16 r_X11_chosen r_X11_match n x1 x2 x3 x4 σ = some q → GoB p l e ({ frames := 2 + (nn + 1), cells := 0, slots := 0, locals := 0 + 25 * (nn + 1) } : Room) s m args below meth c (MQ below (qBi dC dI a k A q) args s 0 0 A) dC dI a k A 5 16 σ [(0, .ref (a 0)), (1, .int x1), (2, .int x2), (3, .int x3), (4, .int x4)] [] := by
  intro n
  induction n with
  | zero =>
    intro x1 x2 x3 x4 σ h
    rw [f_X11_match_16] at h
    cases h
  | succ n ih =>
    intro x1 x2 x3 x4 σ h
    have hC0 := hC
    obtain ⟨hx, hb, hr, hml, hown, hts, hlocks, hA, hN, hK⟩ := hC0
    intro H locs ls hP hD hS hl
    have hD0 : ∀ σ1 : ST, va_D A (wB a k σ1) := fun σ1 => wB_D hD
    rw [f_X11_match_16] at h
    refine lv_iload hx hb dX11_match_16 (lv_at hl 4 rfl) ?_
    refine lv_aload_n hx hb dX11_match_18 rfl (lv_at hl 0 rfl) ?_
    refine va_get (D := (dC, dI)) (ci := 11) (C := RX11) (T := TX11) (N := 95) hx hb hts inlX11 hown hK hP 0 gB_0 rfl 16 (by decide) (hts (.fieldLink RX11 20 "ShapeReaderModel" "typeMany" "[I") mw_27_0) (fun _ h9 => h9) rfl dX11_match_19 ?_
    refine lv_iload_n hx hb dX11_match_22 rfl (lv_at hl 1 rfl) ?_
    obtain ⟨hg1, h⟩ := ig h
    refine va_iald hx hb hK hP 4 3 gB_4 yB_4 (vp_in_iff.mpr hg1) dX11_match_23 ?_
    refine lv_icmp_ge (tgt := 62) hx hb dX11_match_24 (by decide) (fun hc => ?_) (fun hc => ?_)
    · replace h := ip hc h
      refine lv_iload_n hx hb dX11_match_62 rfl (lv_at hl 3 rfl) ?_
      obtain ⟨hg, h⟩ := ig h
      obtain rfl := Option.some.inj h
      exact W.zret hx hb hr (zn hg) (fun t ht hW => ⟨⟨_, (), rfl, rfl, ⟨by rw [ht]; exact hP, va_K.moved hW.alike hK, hD⟩⟩, hS.F ht⟩) hS.2.2 dX11_match_63
    · replace h := iq hc h
      refine lv_iload_n hx hb dX11_match_27 rfl (lv_at hl 3 rfl) ?_
      refine lv_if_ne (tgt := 50) hx hb dX11_match_28 (by decide) (fun hc => ?_) (fun hc => ?_)
      · replace h := iq hc h
        exact b_X11_match_50 hC hr_X11_chosen hr_X11_match ih h _ _ _ hP hD hS (lv_sub hl [0, 1, 2, 4] rfl)
      · replace h := ip hc h
        refine lv_aload_n hx hb dX11_match_31 rfl (lv_at hl 0 rfl) ?_
        refine lv_aload_n hx hb dX11_match_32 rfl (lv_at hl 0 rfl) ?_
        refine va_get (D := (dC, dI)) (ci := 11) (C := RX11) (T := TX11) (N := 95) hx hb hts inlX11 hown hK hP 0 gB_0 rfl 17 (by decide) (hts (.fieldLink RX11 23 "ShapeReaderModel" "branch" "[I") mw_27_1) (fun _ h9 => h9) rfl dX11_match_33 ?_
        refine lv_iconst (v := 4) hx hb dX11_match_36 (by decide) ?_
        refine lv_iload_n hx hb dX11_match_37 rfl (lv_at hl 1 rfl) ?_
        refine lv_imul hx hb dX11_match_38 ?_
        refine lv_iload hx hb dX11_match_39 (lv_at hl 4 rfl) ?_
        refine lv_iadd hx hb dX11_match_41 ?_
        obtain ⟨hg2, h⟩ := ig h
        refine va_iald hx hb hK hP 5 4 gB_5 yB_5 (vp_in_iff.mpr hg2) dX11_match_42 ?_
        refine lv_iload_n hx hb dX11_match_43 rfl (lv_at hl 2 rfl) ?_
        obtain ⟨q3, hc, h⟩ := ib h
        have hF := va_frees hD hS hA
        refine va_calli (va_runV (As := [.int (σ.1 5 ((4 * x1) + x4).toNatClampNeg), .int x2]) (rest := []) ⟨hx, hb, hml, hown, hts⟩ (hr_X11_match hc) (cwV 2 hts (gV mw_36_2 mw_36_3 mw_36_4 mw_0_15 mw_56_8) rfl rfl rfl (by decide +kernel) ⟨by show (2 + nn) + 1 ≤ 2 + (nn + 1); omega, by show 8 + (5 + 11) + (0 + 25 * nn) ≤ 0 + 25 * (nn + 1); omega⟩) (vV (ci := 11) (q0 := 0) hK hP hD hN rfl gB_0) rfl rfl hl.1 rfl (lv_room (Nat.le_of_ble_eq_true rfl)) dX11_match_44 ⟨(Nat.le_of_ble_eq_true rfl), (Nat.le_of_ble_eq_true rfl)⟩) hS (fun q _ h => hF q h) hF (fun r4 u t H locs ht hvm hw hB _ _ hS => ?_)
        obtain rfl : r4 = q3.1 := hw
        replace hP : va_P (dC, dI) vwCl (wB a k q3.2) H := by rw [← ht]; exact hB.1
        replace hD := hD0 (q3.2)
        clear hB hF
        refine lv_if_eq (tgt := 54) hx hb dX11_match_47 (by decide) (fun hc => ?_) (fun hc => ?_)
        · replace h := ip hc h
          refine lv_iconst (v := 0) hx hb dX11_match_54 (by decide) ?_
          exact b_X11_match_55 hC hr_X11_chosen hr_X11_match ih h _ _ _ hP hD hS (lv_sub hl [0, 1, 2, 4] rfl)
        · replace h := iq hc h
          exact b_X11_match_50 hC hr_X11_chosen hr_X11_match ih h _ _ _ hP hD hS (lv_sub hl [0, 1, 2, 4] rfl)

set_option maxRecDepth 100000 in
set_option maxHeartbeats 4000000 in
theorem b_X11_match_204 {p : Program} {l : Launch} {e : Env} {s : State} {m : MethodId} {args : Array Value} {below : List Frame} {meth : Method} {c : Code} {dC : Nat → ClassId} {dI : Nat → Nat → Nat} {a : Nat → Nat} {k : Nat → ClassId} {A : Nat → Prop} {q : Int32 × ST} (hC : CxB p s m args meth c dC dI k A cX11_match RX11 (some .boolean) 5) {nn : Nat} {r_X11_chosen : Int32 → Int32 → ST → Option (Int32 × ST)} (hr_X11_chosen : ∀ {sz : Nat} {p0 : Int32} {p1 : Int32} {σ : ST} {q : Int32 × ST}, r_X11_chosen  p0 p1 σ = some q → Met l yX11_chosen (.code yX11_chosen cX11_chosen 6 (some .int) :: pw) ({ frames := 2 + nn, cells := 0, slots := 0, locals := 0 + 25 * nn } : Room) (va_Pc [.ref (a 0), .int p0, .int p1] (vPre dC dI (wB a k σ) (tB k) sz)) (qBi dC dI a k (va_A (wB a k σ) sz) q) 0 0 (va_A (wB a k σ) sz)) {r_X11_match : Int32 → Int32 → ST → Option (Int32 × ST)} (hr_X11_match : ∀ {sz : Nat} {p0 : Int32} {p1 : Int32} {σ : ST} {q : Int32 × ST}, r_X11_match  p0 p1 σ = some q → Met l yX11_match (.code yX11_match cX11_match 5 (some .boolean) :: pw) ({ frames := 2 + nn, cells := 0, slots := 0, locals := 0 + 25 * nn } : Room) (va_Pc [.ref (a 0), .int p0, .int p1] (vPre dC dI (wB a k σ) (tB k) sz)) (qBi dC dI a k (va_A (wB a k σ) sz) q) 0 0 (va_A (wB a k σ) sz))   {σ : ST} (h : f_X11_match_204 r_X11_chosen r_X11_match  σ = some q) : GoB p l e ({ frames := 2 + (nn + 1), cells := 0, slots := 0, locals := 0 + 25 * (nn + 1) } : Room) s m args below meth c (MQ below (qBi dC dI a k A q) args s 0 0 A) dC dI a k A 5 204 σ [] [] := by
  have hC0 := hC
  obtain ⟨hx, hb, hr, hml, hown, hts, hlocks, hA, hN, hK⟩ := hC0
  intro H locs ls hP hD hS hl
  have hD0 : ∀ σ1 : ST, va_D A (wB a k σ1) := fun σ1 => wB_D hD
  unfold f_X11_match_204 at h
  refine lv_iconst (v := 1) hx hb dX11_match_204 (by decide) ?_
  refine lv_goto (tgt := 209) hx hb dX11_match_205 (by decide) ?_
  obtain rfl := Option.some.inj h
  exact W.zret hx hb hr rfl (fun t ht hW => ⟨⟨_, (), rfl, rfl, ⟨by rw [ht]; exact hP, va_K.moved hW.alike hK, hD⟩⟩, hS.F ht⟩) hS.2.2 dX11_match_209

set_option maxRecDepth 100000 in
set_option maxHeartbeats 4000000 in
theorem b_X11_match_193 {p : Program} {l : Launch} {e : Env} {s : State} {m : MethodId} {args : Array Value} {below : List Frame} {meth : Method} {c : Code} {dC : Nat → ClassId} {dI : Nat → Nat → Nat} {a : Nat → Nat} {k : Nat → ClassId} {A : Nat → Prop} {q : Int32 × ST} (hC : CxB p s m args meth c dC dI k A cX11_match RX11 (some .boolean) 5) {nn : Nat} {r_X11_chosen : Int32 → Int32 → ST → Option (Int32 × ST)} (hr_X11_chosen : ∀ {sz : Nat} {p0 : Int32} {p1 : Int32} {σ : ST} {q : Int32 × ST}, r_X11_chosen  p0 p1 σ = some q → Met l yX11_chosen (.code yX11_chosen cX11_chosen 6 (some .int) :: pw) ({ frames := 2 + nn, cells := 0, slots := 0, locals := 0 + 25 * nn } : Room) (va_Pc [.ref (a 0), .int p0, .int p1] (vPre dC dI (wB a k σ) (tB k) sz)) (qBi dC dI a k (va_A (wB a k σ) sz) q) 0 0 (va_A (wB a k σ) sz)) {r_X11_match : Int32 → Int32 → ST → Option (Int32 × ST)} (hr_X11_match : ∀ {sz : Nat} {p0 : Int32} {p1 : Int32} {σ : ST} {q : Int32 × ST}, r_X11_match  p0 p1 σ = some q → Met l yX11_match (.code yX11_match cX11_match 5 (some .boolean) :: pw) ({ frames := 2 + nn, cells := 0, slots := 0, locals := 0 + 25 * nn } : Room) (va_Pc [.ref (a 0), .int p0, .int p1] (vPre dC dI (wB a k σ) (tB k) sz)) (qBi dC dI a k (va_A (wB a k σ) sz) q) 0 0 (va_A (wB a k σ) sz))  {x3 : Int32} {x4 : Int32} {σ : ST} (h : f_X11_match_193 r_X11_chosen r_X11_match x3 x4 σ = some q) : GoB p l e ({ frames := 2 + (nn + 1), cells := 0, slots := 0, locals := 0 + 25 * (nn + 1) } : Room) s m args below meth c (MQ below (qBi dC dI a k A q) args s 0 0 A) dC dI a k A 5 193 σ [(3, .int x3), (4, .int x4)] [] := by
  have hC0 := hC
  obtain ⟨hx, hb, hr, hml, hown, hts, hlocks, hA, hN, hK⟩ := hC0
  intro H locs ls hP hD hS hl
  have hD0 : ∀ σ1 : ST, va_D A (wB a k σ1) := fun σ1 => wB_D hD
  unfold f_X11_match_193 at h
  refine lv_iload_n hx hb dX11_match_193 rfl (lv_at hl 0 rfl) ?_
  refine lv_iconst (v := 3) hx hb dX11_match_194 (by decide) ?_
  refine lv_icmp_ne (tgt := 208) hx hb dX11_match_195 (by decide) (fun hc => ?_) (fun hc => ?_)
  · replace h := iq hc h
    refine lv_iconst (v := 0) hx hb dX11_match_208 (by decide) ?_
    obtain rfl := Option.some.inj h
    exact W.zret hx hb hr rfl (fun t ht hW => ⟨⟨_, (), rfl, rfl, ⟨by rw [ht]; exact hP, va_K.moved hW.alike hK, hD⟩⟩, hS.F ht⟩) hS.2.2 dX11_match_209
  · replace h := ip hc h
    refine lv_iload hx hb dX11_match_198 (lv_at hl 1 rfl) ?_
    refine lv_iconst (v := 4) hx hb dX11_match_200 (by decide) ?_
    refine lv_icmp_ne (tgt := 208) hx hb dX11_match_201 (by decide) (fun hc => ?_) (fun hc => ?_)
    · replace h := iq hc h
      refine lv_iconst (v := 0) hx hb dX11_match_208 (by decide) ?_
      obtain rfl := Option.some.inj h
      exact W.zret hx hb hr rfl (fun t ht hW => ⟨⟨_, (), rfl, rfl, ⟨by rw [ht]; exact hP, va_K.moved hW.alike hK, hD⟩⟩, hS.F ht⟩) hS.2.2 dX11_match_209
    · replace h := ip hc h
      exact b_X11_match_204 hC hr_X11_chosen hr_X11_match h _ _ _ hP hD hS (lv_sub hl [] rfl)

set_option maxRecDepth 100000 in
set_option maxHeartbeats 4000000 in
theorem b_X11_match_170 {p : Program} {l : Launch} {e : Env} {s : State} {m : MethodId} {args : Array Value} {below : List Frame} {meth : Method} {c : Code} {dC : Nat → ClassId} {dI : Nat → Nat → Nat} {a : Nat → Nat} {k : Nat → ClassId} {A : Nat → Prop} {q : Int32 × ST} (hC : CxB p s m args meth c dC dI k A cX11_match RX11 (some .boolean) 5) {nn : Nat} {r_X11_chosen : Int32 → Int32 → ST → Option (Int32 × ST)} (hr_X11_chosen : ∀ {sz : Nat} {p0 : Int32} {p1 : Int32} {σ : ST} {q : Int32 × ST}, r_X11_chosen  p0 p1 σ = some q → Met l yX11_chosen (.code yX11_chosen cX11_chosen 6 (some .int) :: pw) ({ frames := 2 + nn, cells := 0, slots := 0, locals := 0 + 25 * nn } : Room) (va_Pc [.ref (a 0), .int p0, .int p1] (vPre dC dI (wB a k σ) (tB k) sz)) (qBi dC dI a k (va_A (wB a k σ) sz) q) 0 0 (va_A (wB a k σ) sz)) {r_X11_match : Int32 → Int32 → ST → Option (Int32 × ST)} (hr_X11_match : ∀ {sz : Nat} {p0 : Int32} {p1 : Int32} {σ : ST} {q : Int32 × ST}, r_X11_match  p0 p1 σ = some q → Met l yX11_match (.code yX11_match cX11_match 5 (some .boolean) :: pw) ({ frames := 2 + nn, cells := 0, slots := 0, locals := 0 + 25 * nn } : Room) (va_Pc [.ref (a 0), .int p0, .int p1] (vPre dC dI (wB a k σ) (tB k) sz)) (qBi dC dI a k (va_A (wB a k σ) sz) q) 0 0 (va_A (wB a k σ) sz))  {x3 : Int32} {x4 : Int32} {σ : ST} (h : f_X11_match_170 r_X11_chosen r_X11_match x3 x4 σ = some q) : GoB p l e ({ frames := 2 + (nn + 1), cells := 0, slots := 0, locals := 0 + 25 * (nn + 1) } : Room) s m args below meth c (MQ below (qBi dC dI a k A q) args s 0 0 A) dC dI a k A 5 170 σ [(3, .int x3), (4, .int x4)] [] := by
  have hC0 := hC
  obtain ⟨hx, hb, hr, hml, hown, hts, hlocks, hA, hN, hK⟩ := hC0
  intro H locs ls hP hD hS hl
  have hD0 : ∀ σ1 : ST, va_D A (wB a k σ1) := fun σ1 => wB_D hD
  unfold f_X11_match_170 at h
  refine lv_iload_n hx hb dX11_match_170 rfl (lv_at hl 0 rfl) ?_
  refine lv_iload hx hb dX11_match_171 (lv_at hl 1 rfl) ?_
  refine lv_icmp_eq (tgt := 204) hx hb dX11_match_173 (by decide) (fun hc => ?_) (fun hc => ?_)
  · replace h := ip hc h
    exact b_X11_match_204 hC hr_X11_chosen hr_X11_match h _ _ _ hP hD hS (lv_sub hl [] rfl)
  · replace h := iq hc h
    refine lv_iload_n hx hb dX11_match_176 rfl (lv_at hl 0 rfl) ?_
    refine lv_iconst (v := 2) hx hb dX11_match_177 (by decide) ?_
    refine lv_icmp_ne (tgt := 193) hx hb dX11_match_178 (by decide) (fun hc => ?_) (fun hc => ?_)
    · replace h := iq hc h
      exact b_X11_match_193 hC hr_X11_chosen hr_X11_match h _ _ _ hP hD hS (lv_sub hl [0, 1] rfl)
    · replace h := ip hc h
      refine lv_iload hx hb dX11_match_181 (lv_at hl 1 rfl) ?_
      refine lv_iconst (v := 3) hx hb dX11_match_183 (by decide) ?_
      refine lv_icmp_eq (tgt := 204) hx hb dX11_match_184 (by decide) (fun hc => ?_) (fun hc => ?_)
      · replace h := ip hc h
        exact b_X11_match_204 hC hr_X11_chosen hr_X11_match h _ _ _ hP hD hS (lv_sub hl [] rfl)
      · replace h := iq hc h
        refine lv_iload hx hb dX11_match_187 (lv_at hl 1 rfl) ?_
        refine lv_iconst (v := 4) hx hb dX11_match_189 (by decide) ?_
        refine lv_icmp_eq (tgt := 204) hx hb dX11_match_190 (by decide) (fun hc => ?_) (fun hc => ?_)
        · replace h := ip hc h
          exact b_X11_match_204 hC hr_X11_chosen hr_X11_match h _ _ _ hP hD hS (lv_sub hl [] rfl)
        · replace h := iq hc h
          exact b_X11_match_193 hC hr_X11_chosen hr_X11_match h _ _ _ hP hD hS (lv_sub hl [0, 1] rfl)

set_option maxRecDepth 100000 in
set_option maxHeartbeats 4000000 in
theorem b_X11_match_135 {p : Program} {l : Launch} {e : Env} {s : State} {m : MethodId} {args : Array Value} {below : List Frame} {meth : Method} {c : Code} {dC : Nat → ClassId} {dI : Nat → Nat → Nat} {a : Nat → Nat} {k : Nat → ClassId} {A : Nat → Prop} {q : Int32 × ST} (hC : CxB p s m args meth c dC dI k A cX11_match RX11 (some .boolean) 5) {nn : Nat} {r_X11_chosen : Int32 → Int32 → ST → Option (Int32 × ST)} (hr_X11_chosen : ∀ {sz : Nat} {p0 : Int32} {p1 : Int32} {σ : ST} {q : Int32 × ST}, r_X11_chosen  p0 p1 σ = some q → Met l yX11_chosen (.code yX11_chosen cX11_chosen 6 (some .int) :: pw) ({ frames := 2 + nn, cells := 0, slots := 0, locals := 0 + 25 * nn } : Room) (va_Pc [.ref (a 0), .int p0, .int p1] (vPre dC dI (wB a k σ) (tB k) sz)) (qBi dC dI a k (va_A (wB a k σ) sz) q) 0 0 (va_A (wB a k σ) sz)) {r_X11_match : Int32 → Int32 → ST → Option (Int32 × ST)} (hr_X11_match : ∀ {sz : Nat} {p0 : Int32} {p1 : Int32} {σ : ST} {q : Int32 × ST}, r_X11_match  p0 p1 σ = some q → Met l yX11_match (.code yX11_match cX11_match 5 (some .boolean) :: pw) ({ frames := 2 + nn, cells := 0, slots := 0, locals := 0 + 25 * nn } : Room) (va_Pc [.ref (a 0), .int p0, .int p1] (vPre dC dI (wB a k σ) (tB k) sz)) (qBi dC dI a k (va_A (wB a k σ) sz) q) 0 0 (va_A (wB a k σ) sz))  {x1 : Int32} {x2 : Int32} {x3 : Int32} {x4 : Int32} {σ : ST} (h : f_X11_match_135 r_X11_chosen r_X11_match x1 x2 x3 x4 σ = some q) : GoB p l e ({ frames := 2 + (nn + 1), cells := 0, slots := 0, locals := 0 + 25 * (nn + 1) } : Room) s m args below meth c (MQ below (qBi dC dI a k A q) args s 0 0 A) dC dI a k A 5 135 σ [(0, .ref (a 0)), (1, .int x1), (2, .int x2), (3, .int x3), (4, .int x4)] [] := by
  have hC0 := hC
  obtain ⟨hx, hb, hr, hml, hown, hts, hlocks, hA, hN, hK⟩ := hC0
  intro H locs ls hP hD hS hl
  have hD0 : ∀ σ1 : ST, va_D A (wB a k σ1) := fun σ1 => wB_D hD
  unfold f_X11_match_135 at h
  refine lv_iload_n hx hb dX11_match_135 rfl (lv_at hl 3 rfl) ?_
  refine lv_bipush (v := 7) hx hb dX11_match_136 (by decide) ?_
  refine lv_icmp_ne (tgt := 170) hx hb dX11_match_138 (by decide) (fun hc => ?_) (fun hc => ?_)
  · replace h := iq hc h
    exact b_X11_match_170 hC hr_X11_chosen hr_X11_match h _ _ _ hP hD hS (lv_sub hl [3, 4] rfl)
  · replace h := ip hc h
    refine lv_iload hx hb dX11_match_141 (lv_at hl 4 rfl) ?_
    refine lv_bipush (v := 7) hx hb dX11_match_143 (by decide) ?_
    refine lv_icmp_ne (tgt := 170) hx hb dX11_match_145 (by decide) (fun hc => ?_) (fun hc => ?_)
    · replace h := iq hc h
      exact b_X11_match_170 hC hr_X11_chosen hr_X11_match h _ _ _ hP hD hS (lv_sub hl [3, 4] rfl)
    · replace h := ip hc h
      refine lv_aload_n hx hb dX11_match_148 rfl (lv_at hl 0 rfl) ?_
      refine va_get (D := (dC, dI)) (ci := 11) (C := RX11) (T := TX11) (N := 95) hx hb hts inlX11 hown hK hP 0 gB_0 rfl 55 (by decide) (hts (.fieldLink RX11 115 "ShapeReaderModel" "pair" "[Z") mw_28_1) (fun _ h9 => h9) rfl dX11_match_149 ?_
      refine lv_bipush (v := 6) hx hb dX11_match_152 (by decide) ?_
      refine lv_aload_n hx hb dX11_match_154 rfl (lv_at hl 0 rfl) ?_
      refine va_get (D := (dC, dI)) (ci := 11) (C := RX11) (T := TX11) (N := 95) hx hb hts inlX11 hown hK hP 0 gB_0 rfl 15 (by decide) (hts (.fieldLink RX11 17 "ShapeReaderModel" "typeArg" "[I") mw_26_29) (fun _ h9 => h9) rfl dX11_match_155 ?_
      refine lv_iload_n hx hb dX11_match_158 rfl (lv_at hl 1 rfl) ?_
      obtain ⟨hg1, h⟩ := ig h
      refine va_iald hx hb hK hP 3 2 gB_3 yB_3 (vp_in_iff.mpr hg1) dX11_match_159 ?_
      refine lv_imul hx hb dX11_match_160 ?_
      refine lv_aload_n hx hb dX11_match_161 rfl (lv_at hl 0 rfl) ?_
      refine va_get (D := (dC, dI)) (ci := 11) (C := RX11) (T := TX11) (N := 95) hx hb hts inlX11 hown hK hP 0 gB_0 rfl 15 (by decide) (hts (.fieldLink RX11 17 "ShapeReaderModel" "typeArg" "[I") mw_26_29) (fun _ h9 => h9) rfl dX11_match_162 ?_
      refine lv_iload_n hx hb dX11_match_165 rfl (lv_at hl 2 rfl) ?_
      obtain ⟨hg2, h⟩ := ig h
      refine va_iald hx hb hK hP 3 2 gB_3 yB_3 (vp_in_iff.mpr hg2) dX11_match_166 ?_
      refine lv_iadd hx hb dX11_match_167 ?_
      obtain ⟨hg3, h⟩ := ig h
      refine va_zald hx hb hK hP 35 34 gB_35 yB_35 (vp_in_iff.mpr hg3) dX11_match_168 ?_
      obtain ⟨hg, h⟩ := ig h
      obtain rfl := Option.some.inj h
      exact W.zret hx hb hr (zn hg) (fun t ht hW => ⟨⟨_, (), rfl, rfl, ⟨by rw [ht]; exact hP, va_K.moved hW.alike hK, hD⟩⟩, hS.F ht⟩) hS.2.2 dX11_match_169

set_option maxRecDepth 100000 in
set_option maxHeartbeats 4000000 in
theorem b_X11_match_e {p : Program} {l : Launch} {e : Env} {s : State} {m : MethodId} {args : Array Value} {below : List Frame} {meth : Method} {c : Code} {dC : Nat → ClassId} {dI : Nat → Nat → Nat} {a : Nat → Nat} {k : Nat → ClassId} {A : Nat → Prop} {q : Int32 × ST} (hC : CxB p s m args meth c dC dI k A cX11_match RX11 (some .boolean) 5) {nn : Nat} {r_X11_chosen : Int32 → Int32 → ST → Option (Int32 × ST)} (hr_X11_chosen : ∀ {sz : Nat} {p0 : Int32} {p1 : Int32} {σ : ST} {q : Int32 × ST}, r_X11_chosen  p0 p1 σ = some q → Met l yX11_chosen (.code yX11_chosen cX11_chosen 6 (some .int) :: pw) ({ frames := 2 + nn, cells := 0, slots := 0, locals := 0 + 25 * nn } : Room) (va_Pc [.ref (a 0), .int p0, .int p1] (vPre dC dI (wB a k σ) (tB k) sz)) (qBi dC dI a k (va_A (wB a k σ) sz) q) 0 0 (va_A (wB a k σ) sz)) {r_X11_match : Int32 → Int32 → ST → Option (Int32 × ST)} (hr_X11_match : ∀ {sz : Nat} {p0 : Int32} {p1 : Int32} {σ : ST} {q : Int32 × ST}, r_X11_match  p0 p1 σ = some q → Met l yX11_match (.code yX11_match cX11_match 5 (some .boolean) :: pw) ({ frames := 2 + nn, cells := 0, slots := 0, locals := 0 + 25 * nn } : Room) (va_Pc [.ref (a 0), .int p0, .int p1] (vPre dC dI (wB a k σ) (tB k) sz)) (qBi dC dI a k (va_A (wB a k σ) sz) q) 0 0 (va_A (wB a k σ) sz))  {p0 : Int32} {p1 : Int32} {σ : ST} (h : f_X11_match r_X11_chosen r_X11_match p0 p1 σ = some q) : GoB p l e ({ frames := 2 + (nn + 1), cells := 0, slots := 0, locals := 0 + 25 * (nn + 1) } : Room) s m args below meth c (MQ below (qBi dC dI a k A q) args s 0 0 A) dC dI a k A 5 0 σ (lv_args 0 [.ref (a 0), .int p0, .int p1]) [] := by
  have hC0 := hC
  obtain ⟨hx, hb, hr, hml, hown, hts, hlocks, hA, hN, hK⟩ := hC0
  intro H locs ls hP hD hS hl
  have hD0 : ∀ σ1 : ST, va_D A (wB a k σ1) := fun σ1 => wB_D hD
  replace hl : lv_has ls 5 [(0, .ref (a 0)), (1, .int p0), (2, .int p1)] := hl
  unfold f_X11_match at h
  refine lv_aload_n hx hb dX11_match_0 rfl (lv_at hl 0 rfl) ?_
  refine va_get (D := (dC, dI)) (ci := 11) (C := RX11) (T := TX11) (N := 95) hx hb hts inlX11 hown hK hP 0 gB_0 rfl 14 (by decide) (hts (.fieldLink RX11 13 "ShapeReaderModel" "typeSort" "[I") mw_26_28) (fun _ h9 => h9) rfl dX11_match_1 ?_
  refine lv_iload_n hx hb dX11_match_4 rfl (lv_at hl 1 rfl) ?_
  obtain ⟨hg1, h⟩ := ig h
  refine va_iald hx hb hK hP 2 1 gB_2 yB_2 (vp_in_iff.mpr hg1) dX11_match_5 ?_
  refine lv_bipush (v := 8) hx hb dX11_match_6 (by decide) ?_
  refine lv_icmp_ne (tgt := 64) hx hb dX11_match_8 (by decide) (fun hc => ?_) (fun hc => ?_)
  · replace h := iq hc h
    refine lv_aload_n hx hb dX11_match_64 rfl (lv_at hl 0 rfl) ?_
    refine va_get (D := (dC, dI)) (ci := 11) (C := RX11) (T := TX11) (N := 95) hx hb hts inlX11 hown hK hP 0 gB_0 rfl 14 (by decide) (hts (.fieldLink RX11 13 "ShapeReaderModel" "typeSort" "[I") mw_26_28) (fun _ h9 => h9) rfl dX11_match_65 ?_
    refine lv_iload_n hx hb dX11_match_68 rfl (lv_at hl 2 rfl) ?_
    obtain ⟨hg2, h⟩ := ig h
    refine va_iald hx hb hK hP 2 1 gB_2 yB_2 (vp_in_iff.mpr hg2) dX11_match_69 ?_
    refine lv_bipush (v := 8) hx hb dX11_match_70 (by decide) ?_
    refine lv_icmp_ne (tgt := 90) hx hb dX11_match_72 (by decide) (fun hc => ?_) (fun hc => ?_)
    · replace h := iq hc h
      refine lv_aload_n hx hb dX11_match_90 rfl (lv_at hl 0 rfl) ?_
      refine va_get (D := (dC, dI)) (ci := 11) (C := RX11) (T := TX11) (N := 95) hx hb hts inlX11 hown hK hP 0 gB_0 rfl 14 (by decide) (hts (.fieldLink RX11 13 "ShapeReaderModel" "typeSort" "[I") mw_26_28) (fun _ h9 => h9) rfl dX11_match_91 ?_
      refine lv_iload_n hx hb dX11_match_94 rfl (lv_at hl 1 rfl) ?_
      refine va_iald hx hb hK hP 2 1 gB_2 yB_2 (vp_in_iff.mpr hg1) dX11_match_95 ?_
      refine lv_istore_n (lv' := [(3, .int (σ.1 2 p0.toNatClampNeg)), (0, .ref (a 0)), (1, .int p0), (2, .int p1)]) hx hb dX11_match_96 rfl hl (by decide) rfl (fun ls hl => ?_)
      refine lv_aload_n hx hb dX11_match_97 rfl (lv_at hl 1 rfl) ?_
      refine va_get (D := (dC, dI)) (ci := 11) (C := RX11) (T := TX11) (N := 95) hx hb hts inlX11 hown hK hP 0 gB_0 rfl 14 (by decide) (hts (.fieldLink RX11 13 "ShapeReaderModel" "typeSort" "[I") mw_26_28) (fun _ h9 => h9) rfl dX11_match_98 ?_
      refine lv_iload_n hx hb dX11_match_101 rfl (lv_at hl 3 rfl) ?_
      refine va_iald hx hb hK hP 2 1 gB_2 yB_2 (vp_in_iff.mpr hg2) dX11_match_102 ?_
      refine lv_istore (lv' := [(4, .int (σ.1 2 p1.toNatClampNeg)), (3, .int (σ.1 2 p0.toNatClampNeg)), (0, .ref (a 0)), (1, .int p0), (2, .int p1)]) hx hb dX11_match_103 hl (by decide) rfl (fun ls hl => ?_)
      refine lv_iload_n hx hb dX11_match_105 rfl (lv_at hl 1 rfl) ?_
      refine lv_bipush (v := 6) hx hb dX11_match_106 (by decide) ?_
      refine lv_icmp_ne (tgt := 135) hx hb dX11_match_108 (by decide) (fun hc => ?_) (fun hc => ?_)
      · replace h := iq hc h
        exact b_X11_match_135 hC hr_X11_chosen hr_X11_match h _ _ _ hP hD hS (lv_sub hl [2, 3, 4, 1, 0] rfl)
      · replace h := ip hc h
        refine lv_iload hx hb dX11_match_111 (lv_at hl 0 rfl) ?_
        refine lv_bipush (v := 6) hx hb dX11_match_113 (by decide) ?_
        refine lv_icmp_ne (tgt := 135) hx hb dX11_match_115 (by decide) (fun hc => ?_) (fun hc => ?_)
        · replace h := iq hc h
          exact b_X11_match_135 hC hr_X11_chosen hr_X11_match h _ _ _ hP hD hS (lv_sub hl [2, 3, 4, 1, 0] rfl)
        · replace h := ip hc h
          refine lv_aload_n hx hb dX11_match_118 rfl (lv_at hl 2 rfl) ?_
          refine lv_aload_n hx hb dX11_match_119 rfl (lv_at hl 2 rfl) ?_
          refine va_get (D := (dC, dI)) (ci := 11) (C := RX11) (T := TX11) (N := 95) hx hb hts inlX11 hown hK hP 0 gB_0 rfl 15 (by decide) (hts (.fieldLink RX11 17 "ShapeReaderModel" "typeArg" "[I") mw_26_29) (fun _ h9 => h9) rfl dX11_match_120 ?_
          refine lv_iload_n hx hb dX11_match_123 rfl (lv_at hl 3 rfl) ?_
          refine va_iald hx hb hK hP 3 2 gB_3 yB_3 (vp_in_iff.mpr hg1) dX11_match_124 ?_
          refine lv_aload_n hx hb dX11_match_125 rfl (lv_at hl 2 rfl) ?_
          refine va_get (D := (dC, dI)) (ci := 11) (C := RX11) (T := TX11) (N := 95) hx hb hts inlX11 hown hK hP 0 gB_0 rfl 15 (by decide) (hts (.fieldLink RX11 17 "ShapeReaderModel" "typeArg" "[I") mw_26_29) (fun _ h9 => h9) rfl dX11_match_126 ?_
          refine lv_iload_n hx hb dX11_match_129 rfl (lv_at hl 4 rfl) ?_
          refine va_iald hx hb hK hP 3 2 gB_3 yB_3 (vp_in_iff.mpr hg2) dX11_match_130 ?_
          obtain ⟨q3, hc, h⟩ := ib h
          have hF := va_frees hD hS hA
          refine va_calli (va_runV (As := [.int (σ.1 3 p0.toNatClampNeg), .int (σ.1 3 p1.toNatClampNeg)]) (rest := []) ⟨hx, hb, hml, hown, hts⟩ (hr_X11_match hc) (cwV 2 hts (gV mw_36_2 mw_36_3 mw_36_4 mw_0_15 mw_56_8) rfl rfl rfl (by decide +kernel) ⟨by show (2 + nn) + 1 ≤ 2 + (nn + 1); omega, by show 8 + (5 + 11) + (0 + 25 * nn) ≤ 0 + 25 * (nn + 1); omega⟩) (vV (ci := 11) (q0 := 0) hK hP hD hN rfl gB_0) rfl rfl hl.1 rfl (lv_room (Nat.le_of_ble_eq_true rfl)) dX11_match_131 ⟨(Nat.le_of_ble_eq_true rfl), (Nat.le_of_ble_eq_true rfl)⟩) hS (fun q _ h => hF q h) hF (fun r4 u t H locs ht hvm hw hB _ _ hS => ?_)
          obtain rfl : r4 = q3.1 := hw
          replace hP : va_P (dC, dI) vwCl (wB a k q3.2) H := by rw [← ht]; exact hB.1
          replace hD := hD0 (q3.2)
          clear hB hF
          obtain ⟨hg, h⟩ := ig h
          obtain rfl := Option.some.inj h
          exact W.zret hx hb hr (zn hg) (fun t ht hW => ⟨⟨_, (), rfl, rfl, ⟨by rw [ht]; exact hP, va_K.moved hW.alike hK, hD⟩⟩, hS.F ht⟩) hS.2.2 dX11_match_134
    · replace h := ip hc h
      refine lv_aload_n hx hb dX11_match_75 rfl (lv_at hl 0 rfl) ?_
      refine lv_iload_n hx hb dX11_match_76 rfl (lv_at hl 1 rfl) ?_
      refine lv_iload_n hx hb dX11_match_77 rfl (lv_at hl 2 rfl) ?_
      obtain ⟨q5, hc, h⟩ := ib h
      have hF := va_frees hD hS hA
      refine va_calli (va_runV (As := [.int p0, .int p1]) (rest := []) ⟨hx, hb, hml, hown, hts⟩ (hr_X11_chosen hc) (cwV 2 hts (gV mw_36_5 mw_36_6 mw_36_7 mw_0_15 mw_56_9) rfl rfl rfl (by decide +kernel) ⟨by show (2 + nn) + 1 ≤ 2 + (nn + 1); omega, by show 8 + (6 + 11) + (0 + 25 * nn) ≤ 0 + 25 * (nn + 1); omega⟩) (vV (ci := 11) (q0 := 0) hK hP hD hN rfl gB_0) rfl rfl hl.1 rfl (lv_room (Nat.le_of_ble_eq_true rfl)) dX11_match_78 ⟨(Nat.le_of_ble_eq_true rfl), (Nat.le_of_ble_eq_true rfl)⟩) hS (fun q _ h => hF q h) hF (fun r6 u t H locs ht hvm hw hB _ _ hS => ?_)
      obtain rfl : r6 = q5.1 := hw
      replace hP : va_P (dC, dI) vwCl (wB a k q5.2) H := by rw [← ht]; exact hB.1
      replace hD := hD0 (q5.2)
      clear hB hF
      refine lv_if_lt (tgt := 88) hx hb dX11_match_81 (by decide) (fun hc => ?_) (fun hc => ?_)
      · replace h := ip hc h
        refine lv_iconst (v := 0) hx hb dX11_match_88 (by decide) ?_
        obtain rfl := Option.some.inj h
        exact W.zret hx hb hr rfl (fun t ht hW => ⟨⟨_, (), rfl, rfl, ⟨by rw [ht]; exact hP, va_K.moved hW.alike hK, hD⟩⟩, hS.F ht⟩) hS.2.2 dX11_match_89
      · replace h := iq hc h
        refine lv_iconst (v := 1) hx hb dX11_match_84 (by decide) ?_
        refine lv_goto (tgt := 89) hx hb dX11_match_85 (by decide) ?_
        obtain rfl := Option.some.inj h
        exact W.zret hx hb hr rfl (fun t ht hW => ⟨⟨_, (), rfl, rfl, ⟨by rw [ht]; exact hP, va_K.moved hW.alike hK, hD⟩⟩, hS.F ht⟩) hS.2.2 dX11_match_89
  · replace h := ip hc h
    refine lv_iconst (v := 0) hx hb dX11_match_11 (by decide) ?_
    refine lv_istore_n (lv' := [(3, .int 0), (0, .ref (a 0)), (1, .int p0), (2, .int p1)]) hx hb dX11_match_12 rfl hl (by decide) rfl (fun ls hl => ?_)
    refine lv_iconst (v := 0) hx hb dX11_match_13 (by decide) ?_
    refine lv_istore (lv' := [(4, .int 0), (3, .int 0), (0, .ref (a 0)), (1, .int p0), (2, .int p1)]) hx hb dX11_match_14 hl (by decide) rfl (fun ls hl => ?_)
    exact b_X11_match_16 hC hr_X11_chosen hr_X11_match FU _ _ _ _ _ h _ _ _ hP hD hS (lv_sub hl [2, 3, 4, 1, 0] rfl)


set_option maxRecDepth 100000 in
set_option maxHeartbeats 4000000 in
theorem s_R_X11_chosen {l : Launch} {dC : Nat → ClassId} {dI : Nat → Nat → Nat} {a : Nat → Nat} {k : Nat → ClassId} : ∀ n : Nat, (∀ {sz : Nat} {p0 : Int32} {p1 : Int32} {σ : ST} {q : Int32 × ST}, (R_X11_chosen n).1 p0 p1 σ = some q → Met l yX11_chosen (.code yX11_chosen cX11_chosen 6 (some .int) :: pw) ({ frames := 2 + n, cells := 0, slots := 0, locals := 0 + 25 * n } : Room) (va_Pc [.ref (a 0), .int p0, .int p1] (vPre dC dI (wB a k σ) (tB k) sz)) (qBi dC dI a k (va_A (wB a k σ) sz) q) 0 0 (va_A (wB a k σ) sz)) ∧ (∀ {sz : Nat} {p0 : Int32} {p1 : Int32} {σ : ST} {q : Int32 × ST}, (R_X11_chosen n).2 p0 p1 σ = some q → Met l yX11_match (.code yX11_match cX11_match 5 (some .boolean) :: pw) ({ frames := 2 + n, cells := 0, slots := 0, locals := 0 + 25 * n } : Room) (va_Pc [.ref (a 0), .int p0, .int p1] (vPre dC dI (wB a k σ) (tB k) sz)) (qBi dC dI a k (va_A (wB a k σ) sz) q) 0 0 (va_A (wB a k σ) sz)) := by
  intro n
  induction n with
  | zero => exact ⟨(fun h => nomatch h), (fun h => nomatch h)⟩
  | succ n ih => exact ⟨(fun h => metB (fun A => qBi dC dI a k A _) (plainFor_of_name (by decide)) (Nat.le_of_ble_eq_true rfl) (fun _ _ _ _ _ _ _ _ hC => b_X11_chosen_e hC ih.1 ih.2 h)), (fun h => metB (fun A => qBi dC dI a k A _) (plainFor_of_name (by decide)) (Nat.le_of_ble_eq_true rfl) (fun _ _ _ _ _ _ _ _ hC => b_X11_match_e hC ih.1 ih.2 h))⟩
theorem s_X11_chosen {l : Launch} {dC : Nat → ClassId} {dI : Nat → Nat → Nat} {a : Nat → Nat} {k : Nat → ClassId} {sz : Nat} {p0 : Int32} {p1 : Int32} {σ : ST} {q : Int32 × ST} (h : f_T_X11_chosen p0 p1 σ = some q) : Met l yX11_chosen (.code yX11_chosen cX11_chosen 6 (some .int) :: pw) ({ frames := 342, cells := 0, slots := 0, locals := 8500 } : Room) (va_Pc [.ref (a 0), .int p0, .int p1] (vPre dC dI (wB a k σ) (tB k) sz)) (qBi dC dI a k (va_A (wB a k σ) sz) q) 0 0 (va_A (wB a k σ) sz) := (s_R_X11_chosen FRB).1 h
theorem s_X11_match {l : Launch} {dC : Nat → ClassId} {dI : Nat → Nat → Nat} {a : Nat → Nat} {k : Nat → ClassId} {sz : Nat} {p0 : Int32} {p1 : Int32} {σ : ST} {q : Int32 × ST} (h : f_T_X11_match p0 p1 σ = some q) : Met l yX11_match (.code yX11_match cX11_match 5 (some .boolean) :: pw) ({ frames := 342, cells := 0, slots := 0, locals := 8500 } : Room) (va_Pc [.ref (a 0), .int p0, .int p1] (vPre dC dI (wB a k σ) (tB k) sz)) (qBi dC dI a k (va_A (wB a k σ) sz) q) 0 0 (va_A (wB a k σ) sz) := (s_R_X11_chosen FRB).2 h

def f_X11_namesMay_40 (σ : ST) : Option (Int32 × ST) := some (1, σ)
def f_X11_namesMay_8 (x1 : Int32) (x2 : Int32) (σ : ST) : Option (Int32 × ST) := if 0 ≤ ((6 * (σ.1 0 53)) + x1).toInt ∧ ((6 * (σ.1 0 53)) + x1).toInt < 72 then (if 0 ≤ ((6 * (σ.1 0 54)) + x2).toInt ∧ ((6 * (σ.1 0 54)) + x2).toInt < 72 then (if (lg_cmp (σ.2.1 9 ((6 * (σ.1 0 53)) + x1).toNatClampNeg) (σ.2.1 9 ((6 * (σ.1 0 54)) + x2).toNatClampNeg)) = 0 then (f_X11_namesMay_40   σ) else (some (0, σ))) else none) else none
def f_X11_namesMay (p0 : Int32) (p1 : Int32) (σ : ST) : Option (Int32 × ST) := if p0 = 0 then (if p1 = 0 then (f_X11_namesMay_40   σ) else (f_X11_namesMay_8  p0 p1 σ)) else (f_X11_namesMay_8  p0 p1 σ)

set_option maxRecDepth 100000 in
set_option maxHeartbeats 4000000 in
theorem b_X11_namesMay_40 {p : Program} {l : Launch} {e : Env} {s : State} {m : MethodId} {args : Array Value} {below : List Frame} {meth : Method} {c : Code} {dC : Nat → ClassId} {dI : Nat → Nat → Nat} {a : Nat → Nat} {k : Nat → ClassId} {A : Nat → Prop} {q : Int32 × ST} (hC : CxB p s m args meth c dC dI k A cX11_namesMay RX11 (some .boolean) 3)    {σ : ST} (h : f_X11_namesMay_40   σ = some q) : GoB p l e ({ frames := 0, cells := 0, slots := 0, locals := 0 } : Room) s m args below meth c (MQ below (qBi dC dI a k A q) args s 0 0 A) dC dI a k A 3 40 σ [] [] := by
  have hC0 := hC
  obtain ⟨hx, hb, hr, hml, hown, hts, hlocks, hA, hN, hK⟩ := hC0
  intro H locs ls hP hD hS hl
  have hD0 : ∀ σ1 : ST, va_D A (wB a k σ1) := fun σ1 => wB_D hD
  unfold f_X11_namesMay_40 at h
  refine lv_iconst (v := 1) hx hb dX11_namesMay_40 (by decide) ?_
  refine lv_goto (tgt := 45) hx hb dX11_namesMay_41 (by decide) ?_
  obtain rfl := Option.some.inj h
  exact W.zret hx hb hr rfl (fun t ht hW => ⟨⟨_, (), rfl, rfl, ⟨by rw [ht]; exact hP, va_K.moved hW.alike hK, hD⟩⟩, hS.F ht⟩) hS.2.2 dX11_namesMay_45

set_option maxRecDepth 100000 in
set_option maxHeartbeats 4000000 in
theorem b_X11_namesMay_8 {p : Program} {l : Launch} {e : Env} {s : State} {m : MethodId} {args : Array Value} {below : List Frame} {meth : Method} {c : Code} {dC : Nat → ClassId} {dI : Nat → Nat → Nat} {a : Nat → Nat} {k : Nat → ClassId} {A : Nat → Prop} {q : Int32 × ST} (hC : CxB p s m args meth c dC dI k A cX11_namesMay RX11 (some .boolean) 3)   {x1 : Int32} {x2 : Int32} {σ : ST} (h : f_X11_namesMay_8  x1 x2 σ = some q) : GoB p l e ({ frames := 0, cells := 0, slots := 0, locals := 0 } : Room) s m args below meth c (MQ below (qBi dC dI a k A q) args s 0 0 A) dC dI a k A 3 8 σ [(0, .ref (a 0)), (1, .int x1), (2, .int x2)] [] := by
  have hC0 := hC
  obtain ⟨hx, hb, hr, hml, hown, hts, hlocks, hA, hN, hK⟩ := hC0
  intro H locs ls hP hD hS hl
  have hD0 : ∀ σ1 : ST, va_D A (wB a k σ1) := fun σ1 => wB_D hD
  unfold f_X11_namesMay_8 at h
  refine lv_aload_n hx hb dX11_namesMay_8 rfl (lv_at hl 0 rfl) ?_
  refine va_get (D := (dC, dI)) (ci := 11) (C := RX11) (T := TX11) (N := 95) hx hb hts inlX11 hown hK hP 0 gB_0 rfl 21 (by decide) (hts (.fieldLink RX11 36 "ShapeReaderModel" "recordName" "[J") mw_27_5) (fun _ h9 => h9) rfl dX11_namesMay_9 ?_
  refine lv_bipush (v := 6) hx hb dX11_namesMay_12 (by decide) ?_
  refine lv_aload_n hx hb dX11_namesMay_14 rfl (lv_at hl 0 rfl) ?_
  refine va_get (D := (dC, dI)) (ci := 11) (C := RX11) (T := TX11) (N := 95) hx hb hts inlX11 hown hK hP 0 gB_0 rfl 53 (by decide) (hts (.fieldLink RX11 492 "ShapeReaderModel" "writer" "I") mw_36_0) (fun _ h9 => h9) rfl dX11_namesMay_15 ?_
  refine lv_imul hx hb dX11_namesMay_18 ?_
  refine lv_iload_n hx hb dX11_namesMay_19 rfl (lv_at hl 1 rfl) ?_
  refine lv_iadd hx hb dX11_namesMay_20 ?_
  obtain ⟨hg1, h⟩ := ig h
  refine va_lald hx hb hK hP 9 8 gB_9 yB_9 (vp_in_iff.mpr hg1) dX11_namesMay_21 ?_
  refine lv_aload_n hx hb dX11_namesMay_22 rfl (lv_at hl 0 rfl) ?_
  refine va_get (D := (dC, dI)) (ci := 11) (C := RX11) (T := TX11) (N := 95) hx hb hts inlX11 hown hK hP 0 gB_0 rfl 21 (by decide) (hts (.fieldLink RX11 36 "ShapeReaderModel" "recordName" "[J") mw_27_5) (fun _ h9 => h9) rfl dX11_namesMay_23 ?_
  refine lv_bipush (v := 6) hx hb dX11_namesMay_26 (by decide) ?_
  refine lv_aload_n hx hb dX11_namesMay_28 rfl (lv_at hl 0 rfl) ?_
  refine va_get (D := (dC, dI)) (ci := 11) (C := RX11) (T := TX11) (N := 95) hx hb hts inlX11 hown hK hP 0 gB_0 rfl 54 (by decide) (hts (.fieldLink RX11 495 "ShapeReaderModel" "reader" "I") mw_36_1) (fun _ h9 => h9) rfl dX11_namesMay_29 ?_
  refine lv_imul hx hb dX11_namesMay_32 ?_
  refine lv_iload_n hx hb dX11_namesMay_33 rfl (lv_at hl 2 rfl) ?_
  refine lv_iadd hx hb dX11_namesMay_34 ?_
  obtain ⟨hg2, h⟩ := ig h
  refine va_lald hx hb hK hP 9 8 gB_9 yB_9 (vp_in_iff.mpr hg2) dX11_namesMay_35 ?_
  refine W.lcmp hx hb dX11_namesMay_36 ?_
  refine lv_if_ne (tgt := 44) hx hb dX11_namesMay_37 (by decide) (fun hc => ?_) (fun hc => ?_)
  · replace h := iq hc h
    refine lv_iconst (v := 0) hx hb dX11_namesMay_44 (by decide) ?_
    obtain rfl := Option.some.inj h
    exact W.zret hx hb hr rfl (fun t ht hW => ⟨⟨_, (), rfl, rfl, ⟨by rw [ht]; exact hP, va_K.moved hW.alike hK, hD⟩⟩, hS.F ht⟩) hS.2.2 dX11_namesMay_45
  · replace h := ip hc h
    exact b_X11_namesMay_40 hC h _ _ _ hP hD hS (lv_sub hl [] rfl)

set_option maxRecDepth 100000 in
set_option maxHeartbeats 4000000 in
theorem b_X11_namesMay_e {p : Program} {l : Launch} {e : Env} {s : State} {m : MethodId} {args : Array Value} {below : List Frame} {meth : Method} {c : Code} {dC : Nat → ClassId} {dI : Nat → Nat → Nat} {a : Nat → Nat} {k : Nat → ClassId} {A : Nat → Prop} {q : Int32 × ST} (hC : CxB p s m args meth c dC dI k A cX11_namesMay RX11 (some .boolean) 3)   {p0 : Int32} {p1 : Int32} {σ : ST} (h : f_X11_namesMay  p0 p1 σ = some q) : GoB p l e ({ frames := 0, cells := 0, slots := 0, locals := 0 } : Room) s m args below meth c (MQ below (qBi dC dI a k A q) args s 0 0 A) dC dI a k A 3 0 σ (lv_args 0 [.ref (a 0), .int p0, .int p1]) [] := by
  have hC0 := hC
  obtain ⟨hx, hb, hr, hml, hown, hts, hlocks, hA, hN, hK⟩ := hC0
  intro H locs ls hP hD hS hl
  have hD0 : ∀ σ1 : ST, va_D A (wB a k σ1) := fun σ1 => wB_D hD
  replace hl : lv_has ls 3 [(0, .ref (a 0)), (1, .int p0), (2, .int p1)] := hl
  unfold f_X11_namesMay at h
  refine lv_iload_n hx hb dX11_namesMay_0 rfl (lv_at hl 1 rfl) ?_
  refine lv_if_ne (tgt := 8) hx hb dX11_namesMay_1 (by decide) (fun hc => ?_) (fun hc => ?_)
  · replace h := iq hc h
    exact b_X11_namesMay_8 hC h _ _ _ hP hD hS (lv_sub hl [0, 1, 2] rfl)
  · replace h := ip hc h
    refine lv_iload_n hx hb dX11_namesMay_4 rfl (lv_at hl 2 rfl) ?_
    refine lv_if_eq (tgt := 40) hx hb dX11_namesMay_5 (by decide) (fun hc => ?_) (fun hc => ?_)
    · replace h := ip hc h
      exact b_X11_namesMay_40 hC h _ _ _ hP hD hS (lv_sub hl [] rfl)
    · replace h := iq hc h
      exact b_X11_namesMay_8 hC h _ _ _ hP hD hS (lv_sub hl [0, 1, 2] rfl)

theorem s_X11_namesMay {l : Launch} {dC : Nat → ClassId} {dI : Nat → Nat → Nat} {a : Nat → Nat} {k : Nat → ClassId} {sz : Nat} {p0 : Int32} {p1 : Int32} {σ : ST} {q : Int32 × ST} (h : f_X11_namesMay  p0 p1 σ = some q) : Met l yX11_namesMay (.code yX11_namesMay cX11_namesMay 3 (some .boolean) :: pw) ({ frames := 0, cells := 0, slots := 0, locals := 0 } : Room) (va_Pc [.ref (a 0), .int p0, .int p1] (vPre dC dI (wB a k σ) (tB k) sz)) (qBi dC dI a k (va_A (wB a k σ) sz) q) 0 0 (va_A (wB a k σ) sz) := metB (fun A => qBi dC dI a k A q) (plainFor_of_name (by decide)) (Nat.le_of_ble_eq_true rfl) (fun _ _ _ _ _ _ _ _ hC => b_X11_namesMay_e hC h)
