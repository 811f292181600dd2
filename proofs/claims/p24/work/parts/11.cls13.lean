theorem dX1_store_0 : decode cX1_store 0 = .ok (.aload_n 0, 1) := by decide +kernel
theorem dX1_store_1 : decode cX1_store 1 = .ok (.iload_n 1, 1) := by decide +kernel
theorem dX1_store_2 : decode cX1_store 2 = .ok (.invokevirtual 28, 3) := by decide +kernel
theorem dX1_store_5 : decode cX1_store 5 = .ok (.ifCond .eq 51, 3) := by decide +kernel
theorem dX1_store_8 : decode cX1_store 8 = .ok (.aload_n 3, 1) := by decide +kernel
theorem dX1_store_9 : decode cX1_store 9 = .ok (.getfield 47, 3) := by decide +kernel
theorem dX1_store_12 : decode cX1_store 12 = .ok (.sipush 400, 3) := by decide +kernel
theorem dX1_store_15 : decode cX1_store 15 = .ok (.if_icmp .gt 41, 3) := by decide +kernel
theorem dX1_store_18 : decode cX1_store 18 = .ok (.aload_n 3, 1) := by decide +kernel
theorem dX1_store_19 : decode cX1_store 19 = .ok (.getfield 53, 3) := by decide +kernel
theorem dX1_store_22 : decode cX1_store 22 = .ok (.iconst 0, 1) := by decide +kernel
theorem dX1_store_23 : decode cX1_store 23 = .ok (.aload_n 0, 1) := by decide +kernel
theorem dX1_store_24 : decode cX1_store 24 = .ok (.getfield 9, 3) := by decide +kernel
theorem dX1_store_27 : decode cX1_store 27 = .ok (.iload_n 1, 1) := by decide +kernel
theorem dX1_store_28 : decode cX1_store 28 = .ok (.sipush 400, 3) := by decide +kernel
theorem dX1_store_31 : decode cX1_store 31 = .ok (.imul, 1) := by decide +kernel
theorem dX1_store_32 : decode cX1_store 32 = .ok (.aload_n 3, 1) := by decide +kernel
theorem dX1_store_33 : decode cX1_store 33 = .ok (.getfield 47, 3) := by decide +kernel
theorem dX1_store_36 : decode cX1_store 36 = .ok (.invokestatic 54, 3) := by decide +kernel
theorem dX1_store_39 : decode cX1_store 39 = .ok (.aload_n 0, 1) := by decide +kernel
theorem dX1_store_40 : decode cX1_store 40 = .ok (.getfield 15, 3) := by decide +kernel
theorem dX1_store_43 : decode cX1_store 43 = .ok (.iload_n 1, 1) := by decide +kernel
theorem dX1_store_44 : decode cX1_store 44 = .ok (.aload_n 3, 1) := by decide +kernel
theorem dX1_store_45 : decode cX1_store 45 = .ok (.getfield 47, 3) := by decide +kernel
theorem dX1_store_48 : decode cX1_store 48 = .ok (.iastore, 1) := by decide +kernel
theorem dX1_store_49 : decode cX1_store 49 = .ok (.aload_n 0, 1) := by decide +kernel
theorem dX1_store_50 : decode cX1_store 50 = .ok (.getfield 19, 3) := by decide +kernel
theorem dX1_store_53 : decode cX1_store 53 = .ok (.iload_n 1, 1) := by decide +kernel
theorem dX1_store_54 : decode cX1_store 54 = .ok (.iload_n 2, 1) := by decide +kernel
theorem dX1_store_55 : decode cX1_store 55 = .ok (.iastore, 1) := by decide +kernel
theorem dX1_store_56 : decode cX1_store 56 = .ok (.return_, 1) := by decide +kernel
theorem dX2_packBranch_0 : decode cX2_packBranch 0 = .ok (.aload_n 0, 1) := by decide +kernel
theorem dX2_packBranch_1 : decode cX2_packBranch 1 = .ok (.getfield 19, 3) := by decide +kernel
theorem dX2_packBranch_4 : decode cX2_packBranch 4 = .ok (.iload_n 1, 1) := by decide +kernel
theorem dX2_packBranch_5 : decode cX2_packBranch 5 = .ok (.invokevirtual 42, 3) := by decide +kernel
theorem dX2_packBranch_8 : decode cX2_packBranch 8 = .ok (.istore_n 3, 1) := by decide +kernel
theorem dX2_packBranch_9 : decode cX2_packBranch 9 = .ok (.iconst 0, 1) := by decide +kernel
theorem dX2_packBranch_10 : decode cX2_packBranch 10 = .ok (.istore 4, 2) := by decide +kernel
theorem dX2_packBranch_12 : decode cX2_packBranch 12 = .ok (.iconst 0, 1) := by decide +kernel
theorem dX2_packBranch_13 : decode cX2_packBranch 13 = .ok (.istore 5, 2) := by decide +kernel
theorem dX2_packBranch_15 : decode cX2_packBranch 15 = .ok (.iload 5, 2) := by decide +kernel
theorem dX2_packBranch_17 : decode cX2_packBranch 17 = .ok (.iconst 4, 1) := by decide +kernel
theorem dX2_packBranch_18 : decode cX2_packBranch 18 = .ok (.if_icmp .ge 38, 3) := by decide +kernel
theorem dX2_packBranch_21 : decode cX2_packBranch 21 = .ok (.iload_n 3, 1) := by decide +kernel
theorem dX2_packBranch_22 : decode cX2_packBranch 22 = .ok (.iconst (-1), 1) := by decide +kernel
theorem dX2_packBranch_23 : decode cX2_packBranch 23 = .ok (.if_icmp .eq 33, 3) := by decide +kernel
theorem dX2_packBranch_26 : decode cX2_packBranch 26 = .ok (.aload_n 0, 1) := by decide +kernel
theorem dX2_packBranch_27 : decode cX2_packBranch 27 = .ok (.getfield 19, 3) := by decide +kernel
theorem dX2_packBranch_30 : decode cX2_packBranch 30 = .ok (.iload_n 3, 1) := by decide +kernel
theorem dX2_packBranch_31 : decode cX2_packBranch 31 = .ok (.invokevirtual 33, 3) := by decide +kernel
theorem dX2_packBranch_34 : decode cX2_packBranch 34 = .ok (.iload_n 2, 1) := by decide +kernel
theorem dX2_packBranch_35 : decode cX2_packBranch 35 = .ok (.if_icmp .eq 21, 3) := by decide +kernel
theorem dX2_packBranch_38 : decode cX2_packBranch 38 = .ok (.aload_n 0, 1) := by decide +kernel
theorem dX2_packBranch_39 : decode cX2_packBranch 39 = .ok (.getfield 19, 3) := by decide +kernel
theorem dX2_packBranch_42 : decode cX2_packBranch 42 = .ok (.iload_n 3, 1) := by decide +kernel
theorem dX2_packBranch_43 : decode cX2_packBranch 43 = .ok (.invokevirtual 69, 3) := by decide +kernel
theorem dX2_packBranch_46 : decode cX2_packBranch 46 = .ok (.istore_n 3, 1) := by decide +kernel
theorem dX2_packBranch_47 : decode cX2_packBranch 47 = .ok (.iinc 4 1, 3) := by decide +kernel
theorem dX2_packBranch_50 : decode cX2_packBranch 50 = .ok (.iinc 5 1, 3) := by decide +kernel
theorem dX2_packBranch_53 : decode cX2_packBranch 53 = .ok (.goto (-38), 3) := by decide +kernel
theorem dX2_packBranch_56 : decode cX2_packBranch 56 = .ok (.aload_n 0, 1) := by decide +kernel
theorem dX2_packBranch_57 : decode cX2_packBranch 57 = .ok (.iload 4, 2) := by decide +kernel
theorem dX2_packBranch_59 : decode cX2_packBranch 59 = .ok (.i2l, 1) := by decide +kernel
theorem dX2_packBranch_60 : decode cX2_packBranch 60 = .ok (.invokevirtual 51, 3) := by decide +kernel
theorem dX2_packBranch_63 : decode cX2_packBranch 63 = .ok (.iload_n 3, 1) := by decide +kernel
theorem dX2_packBranch_64 : decode cX2_packBranch 64 = .ok (.ireturn, 1) := by decide +kernel
theorem dX2_packElse_0 : decode cX2_packElse 0 = .ok (.aload_n 0, 1) := by decide +kernel
theorem dX2_packElse_1 : decode cX2_packElse 1 = .ok (.getfield 19, 3) := by decide +kernel
theorem dX2_packElse_4 : decode cX2_packElse 4 = .ok (.iload_n 3, 1) := by decide +kernel
theorem dX2_packElse_5 : decode cX2_packElse 5 = .ok (.invokevirtual 85, 3) := by decide +kernel
theorem dX2_packElse_8 : decode cX2_packElse 8 = .ok (.istore 4, 2) := by decide +kernel
theorem dX2_packElse_10 : decode cX2_packElse 10 = .ok (.iload 4, 2) := by decide +kernel
theorem dX2_packElse_12 : decode cX2_packElse 12 = .ok (.iload_n 3, 1) := by decide +kernel
theorem dX2_packElse_13 : decode cX2_packElse 13 = .ok (.if_icmp .eq 8, 3) := by decide +kernel
theorem dX2_packElse_16 : decode cX2_packElse 16 = .ok (.aload_n 0, 1) := by decide +kernel
theorem dX2_packElse_17 : decode cX2_packElse 17 = .ok (.lconst 0, 1) := by decide +kernel
theorem dX2_packElse_18 : decode cX2_packElse 18 = .ok (.invokevirtual 51, 3) := by decide +kernel
theorem dX2_packElse_21 : decode cX2_packElse 21 = .ok (.aload_n 0, 1) := by decide +kernel
theorem dX2_packElse_22 : decode cX2_packElse 22 = .ok (.aload_n 0, 1) := by decide +kernel
theorem dX2_packElse_23 : decode cX2_packElse 23 = .ok (.getfield 19, 3) := by decide +kernel
theorem dX2_packElse_26 : decode cX2_packElse 26 = .ok (.iload 4, 2) := by decide +kernel
theorem dX2_packElse_28 : decode cX2_packElse 28 = .ok (.invokevirtual 33, 3) := by decide +kernel
theorem dX2_packElse_31 : decode cX2_packElse 31 = .ok (.aload_n 0, 1) := by decide +kernel
theorem dX2_packElse_32 : decode cX2_packElse 32 = .ok (.getfield 19, 3) := by decide +kernel
theorem dX2_packElse_35 : decode cX2_packElse 35 = .ok (.iload_n 1, 1) := by decide +kernel
theorem dX2_packElse_36 : decode cX2_packElse 36 = .ok (.iload_n 2, 1) := by decide +kernel
theorem dX2_packElse_37 : decode cX2_packElse 37 = .ok (.invokevirtual 88, 3) := by decide +kernel
theorem dX2_packElse_40 : decode cX2_packElse 40 = .ok (.invokevirtual 65, 3) := by decide +kernel
theorem dX2_packElse_43 : decode cX2_packElse 43 = .ok (.return_, 1) := by decide +kernel
theorem dX2_packFields_0 : decode cX2_packFields 0 = .ok (.aload_n 1, 1) := by decide +kernel
theorem dX2_packFields_1 : decode cX2_packFields 1 = .ok (.iload_n 2, 1) := by decide +kernel
theorem dX2_packFields_2 : decode cX2_packFields 2 = .ok (.invokevirtual 55, 3) := by decide +kernel
theorem dX2_packFields_5 : decode cX2_packFields 5 = .ok (.istore 5, 2) := by decide +kernel
theorem dX2_packFields_7 : decode cX2_packFields 7 = .ok (.iconst 0, 1) := by decide +kernel
theorem dX2_packFields_8 : decode cX2_packFields 8 = .ok (.istore 6, 2) := by decide +kernel
theorem dX2_packFields_10 : decode cX2_packFields 10 = .ok (.iload 6, 2) := by decide +kernel
theorem dX2_packFields_12 : decode cX2_packFields 12 = .ok (.aload_n 0, 1) := by decide +kernel
theorem dX2_packFields_13 : decode cX2_packFields 13 = .ok (.getfield 19, 3) := by decide +kernel
theorem dX2_packFields_16 : decode cX2_packFields 16 = .ok (.iload_n 3, 1) := by decide +kernel
theorem dX2_packFields_17 : decode cX2_packFields 17 = .ok (.invokevirtual 72, 3) := by decide +kernel
theorem dX2_packFields_20 : decode cX2_packFields 20 = .ok (.if_icmp .ge 71, 3) := by decide +kernel
theorem dX2_packFields_23 : decode cX2_packFields 23 = .ok (.aload_n 0, 1) := by decide +kernel
theorem dX2_packFields_24 : decode cX2_packFields 24 = .ok (.getfield 19, 3) := by decide +kernel
theorem dX2_packFields_27 : decode cX2_packFields 27 = .ok (.iload_n 3, 1) := by decide +kernel
theorem dX2_packFields_28 : decode cX2_packFields 28 = .ok (.iload 6, 2) := by decide +kernel
theorem dX2_packFields_30 : decode cX2_packFields 30 = .ok (.invokevirtual 75, 3) := by decide +kernel
theorem dX2_packFields_33 : decode cX2_packFields 33 = .ok (.istore 7, 2) := by decide +kernel
theorem dX2_packFields_35 : decode cX2_packFields 35 = .ok (.iload 5, 2) := by decide +kernel
theorem dX2_packFields_37 : decode cX2_packFields 37 = .ok (.iconst (-1), 1) := by decide +kernel
theorem dX2_packFields_38 : decode cX2_packFields 38 = .ok (.if_icmp .eq 38, 3) := by decide +kernel
theorem dX2_packFields_41 : decode cX2_packFields 41 = .ok (.aload_n 1, 1) := by decide +kernel
theorem dX2_packFields_42 : decode cX2_packFields 42 = .ok (.iload 5, 2) := by decide +kernel
theorem dX2_packFields_44 : decode cX2_packFields 44 = .ok (.invokevirtual 78, 3) := by decide +kernel
theorem dX2_packFields_47 : decode cX2_packFields 47 = .ok (.iload 6, 2) := by decide +kernel
theorem dX2_packFields_49 : decode cX2_packFields 49 = .ok (.if_icmp .ne 27, 3) := by decide +kernel
theorem dX2_packFields_52 : decode cX2_packFields 52 = .ok (.aload_n 0, 1) := by decide +kernel
theorem dX2_packFields_53 : decode cX2_packFields 53 = .ok (.aload_n 1, 1) := by decide +kernel
theorem dX2_packFields_54 : decode cX2_packFields 54 = .ok (.iload 5, 2) := by decide +kernel
theorem dX2_packFields_56 : decode cX2_packFields 56 = .ok (.iload 7, 2) := by decide +kernel
theorem dX2_packFields_58 : decode cX2_packFields 58 = .ok (.iload 4, 2) := by decide +kernel
theorem dX2_packFields_60 : decode cX2_packFields 60 = .ok (.iconst 1, 1) := by decide +kernel
theorem dX2_packFields_61 : decode cX2_packFields 61 = .ok (.iadd, 1) := by decide +kernel
theorem dX2_packFields_62 : decode cX2_packFields 62 = .ok (.invokevirtual 23, 3) := by decide +kernel
theorem dX2_packFields_65 : decode cX2_packFields 65 = .ok (.aload_n 1, 1) := by decide +kernel
theorem dX2_packFields_66 : decode cX2_packFields 66 = .ok (.iload 5, 2) := by decide +kernel
theorem dX2_packFields_68 : decode cX2_packFields 68 = .ok (.invokevirtual 58, 3) := by decide +kernel
theorem dX2_packFields_71 : decode cX2_packFields 71 = .ok (.istore 5, 2) := by decide +kernel
theorem dX2_packFields_73 : decode cX2_packFields 73 = .ok (.goto 12, 3) := by decide +kernel
theorem dX2_packFields_76 : decode cX2_packFields 76 = .ok (.aload_n 0, 1) := by decide +kernel
theorem dX2_packFields_77 : decode cX2_packFields 77 = .ok (.iload_n 3, 1) := by decide +kernel
theorem dX2_packFields_78 : decode cX2_packFields 78 = .ok (.iload 6, 2) := by decide +kernel
theorem dX2_packFields_80 : decode cX2_packFields 80 = .ok (.iload 7, 2) := by decide +kernel
theorem dX2_packFields_82 : decode cX2_packFields 82 = .ok (.invokevirtual 81, 3) := by decide +kernel
theorem dX2_packFields_85 : decode cX2_packFields 85 = .ok (.iinc 6 1, 3) := by decide +kernel
theorem dX2_packFields_88 : decode cX2_packFields 88 = .ok (.goto (-78), 3) := by decide +kernel
theorem dX2_packFields_91 : decode cX2_packFields 91 = .ok (.return_, 1) := by decide +kernel
theorem dX2_packLetters_0 : decode cX2_packLetters 0 = .ok (.lload_n 1, 1) := by decide +kernel
theorem dX2_packLetters_1 : decode cX2_packLetters 1 = .ok (.invokestatic 99, 3) := by decide +kernel
theorem dX2_packLetters_4 : decode cX2_packLetters 4 = .ok (.istore_n 3, 1) := by decide +kernel
theorem dX2_packLetters_5 : decode cX2_packLetters 5 = .ok (.aload_n 0, 1) := by decide +kernel
theorem dX2_packLetters_6 : decode cX2_packLetters 6 = .ok (.iload_n 3, 1) := by decide +kernel
theorem dX2_packLetters_7 : decode cX2_packLetters 7 = .ok (.i2l, 1) := by decide +kernel
theorem dX2_packLetters_8 : decode cX2_packLetters 8 = .ok (.invokevirtual 51, 3) := by decide +kernel
theorem dX2_packLetters_11 : decode cX2_packLetters 11 = .ok (.iconst 0, 1) := by decide +kernel
theorem dX2_packLetters_12 : decode cX2_packLetters 12 = .ok (.istore 4, 2) := by decide +kernel
theorem dX2_packLetters_14 : decode cX2_packLetters 14 = .ok (.iload 4, 2) := by decide +kernel
theorem dX2_packLetters_16 : decode cX2_packLetters 16 = .ok (.iload_n 3, 1) := by decide +kernel
theorem dX2_packLetters_17 : decode cX2_packLetters 17 = .ok (.if_icmp .ge 22, 3) := by decide +kernel
theorem dX2_packLetters_20 : decode cX2_packLetters 20 = .ok (.aload_n 0, 1) := by decide +kernel
theorem dX2_packLetters_21 : decode cX2_packLetters 21 = .ok (.bipush 96, 2) := by decide +kernel
theorem dX2_packLetters_23 : decode cX2_packLetters 23 = .ok (.lload_n 1, 1) := by decide +kernel
theorem dX2_packLetters_24 : decode cX2_packLetters 24 = .ok (.iload 4, 2) := by decide +kernel
theorem dX2_packLetters_26 : decode cX2_packLetters 26 = .ok (.invokestatic 103, 3) := by decide +kernel
theorem dX2_packLetters_29 : decode cX2_packLetters 29 = .ok (.iadd, 1) := by decide +kernel
theorem dX2_packLetters_30 : decode cX2_packLetters 30 = .ok (.invokevirtual 92, 3) := by decide +kernel
theorem dX2_packLetters_33 : decode cX2_packLetters 33 = .ok (.iinc 4 1, 3) := by decide +kernel
theorem dX2_packLetters_36 : decode cX2_packLetters 36 = .ok (.goto (-22), 3) := by decide +kernel
theorem dX2_packLetters_39 : decode cX2_packLetters 39 = .ok (.return_, 1) := by decide +kernel
theorem dX2_packPlain_0 : decode cX2_packPlain 0 = .ok (.iload_n 1, 1) := by decide +kernel
theorem dX2_packPlain_1 : decode cX2_packPlain 1 = .ok (.tableswitch 99 1 6 #[39, 48, 48, 56, 83, 91], 39) := by decide +kernel
theorem dX2_packPlain_40 : decode cX2_packPlain 40 = .ok (.aload_n 0, 1) := by decide +kernel
theorem dX2_packPlain_41 : decode cX2_packPlain 41 = .ok (.lload_n 2, 1) := by decide +kernel
theorem dX2_packPlain_42 : decode cX2_packPlain 42 = .ok (.l2i, 1) := by decide +kernel
theorem dX2_packPlain_43 : decode cX2_packPlain 43 = .ok (.invokevirtual 92, 3) := by decide +kernel
theorem dX2_packPlain_46 : decode cX2_packPlain 46 = .ok (.goto 54, 3) := by decide +kernel
theorem dX2_packPlain_49 : decode cX2_packPlain 49 = .ok (.aload_n 0, 1) := by decide +kernel
theorem dX2_packPlain_50 : decode cX2_packPlain 50 = .ok (.lload_n 2, 1) := by decide +kernel
theorem dX2_packPlain_51 : decode cX2_packPlain 51 = .ok (.invokevirtual 51, 3) := by decide +kernel
theorem dX2_packPlain_54 : decode cX2_packPlain 54 = .ok (.goto 46, 3) := by decide +kernel
theorem dX2_packPlain_57 : decode cX2_packPlain 57 = .ok (.bipush 56, 2) := by decide +kernel
theorem dX2_packPlain_59 : decode cX2_packPlain 59 = .ok (.istore 4, 2) := by decide +kernel
theorem dX2_packPlain_61 : decode cX2_packPlain 61 = .ok (.iload 4, 2) := by decide +kernel
theorem dX2_packPlain_63 : decode cX2_packPlain 63 = .ok (.ifCond .lt 18, 3) := by decide +kernel
theorem dX2_packPlain_66 : decode cX2_packPlain 66 = .ok (.aload_n 0, 1) := by decide +kernel
theorem dX2_packPlain_67 : decode cX2_packPlain 67 = .ok (.lload_n 2, 1) := by decide +kernel
theorem dX2_packPlain_68 : decode cX2_packPlain 68 = .ok (.iload 4, 2) := by decide +kernel
theorem dX2_packPlain_70 : decode cX2_packPlain 70 = .ok (.lshr, 1) := by decide +kernel
theorem dX2_packPlain_71 : decode cX2_packPlain 71 = .ok (.l2i, 1) := by decide +kernel
theorem dX2_packPlain_72 : decode cX2_packPlain 72 = .ok (.invokevirtual 92, 3) := by decide +kernel
theorem dX2_packPlain_75 : decode cX2_packPlain 75 = .ok (.iinc 4 (-8), 3) := by decide +kernel
theorem dX2_packPlain_78 : decode cX2_packPlain 78 = .ok (.goto (-17), 3) := by decide +kernel
theorem dX2_packPlain_81 : decode cX2_packPlain 81 = .ok (.goto 19, 3) := by decide +kernel
theorem dX2_packPlain_84 : decode cX2_packPlain 84 = .ok (.aload_n 0, 1) := by decide +kernel
theorem dX2_packPlain_85 : decode cX2_packPlain 85 = .ok (.lload_n 2, 1) := by decide +kernel
theorem dX2_packPlain_86 : decode cX2_packPlain 86 = .ok (.invokevirtual 96, 3) := by decide +kernel
theorem dX2_packPlain_89 : decode cX2_packPlain 89 = .ok (.goto 11, 3) := by decide +kernel
theorem dX2_packPlain_92 : decode cX2_packPlain 92 = .ok (.aload_n 0, 1) := by decide +kernel
theorem dX2_packPlain_93 : decode cX2_packPlain 93 = .ok (.lconst 0, 1) := by decide +kernel
theorem dX2_packPlain_94 : decode cX2_packPlain 94 = .ok (.invokevirtual 51, 3) := by decide +kernel
theorem dX2_packPlain_97 : decode cX2_packPlain 97 = .ok (.goto 3, 3) := by decide +kernel
theorem dX2_packPlain_100 : decode cX2_packPlain 100 = .ok (.return_, 1) := by decide +kernel
theorem dX2_packValue_0 : decode cX2_packValue 0 = .ok (.iload 4, 2) := by decide +kernel
theorem dX2_packValue_2 : decode cX2_packValue 2 = .ok (.bipush 31, 2) := by decide +kernel
theorem dX2_packValue_4 : decode cX2_packValue 4 = .ok (.if_icmp .le 4, 3) := by decide +kernel
theorem dX2_packValue_7 : decode cX2_packValue 7 = .ok (.return_, 1) := by decide +kernel
theorem dX2_packValue_8 : decode cX2_packValue 8 = .ok (.aload_n 1, 1) := by decide +kernel
theorem dX2_packValue_9 : decode cX2_packValue 9 = .ok (.iload_n 2, 1) := by decide +kernel
theorem dX2_packValue_10 : decode cX2_packValue 10 = .ok (.invokevirtual 27, 3) := by decide +kernel
theorem dX2_packValue_13 : decode cX2_packValue 13 = .ok (.istore 5, 2) := by decide +kernel
theorem dX2_packValue_15 : decode cX2_packValue 15 = .ok (.aload_n 0, 1) := by decide +kernel
theorem dX2_packValue_16 : decode cX2_packValue 16 = .ok (.getfield 19, 3) := by decide +kernel
theorem dX2_packValue_19 : decode cX2_packValue 19 = .ok (.iload_n 3, 1) := by decide +kernel
theorem dX2_packValue_20 : decode cX2_packValue 20 = .ok (.invokevirtual 33, 3) := by decide +kernel
theorem dX2_packValue_23 : decode cX2_packValue 23 = .ok (.bipush 8, 2) := by decide +kernel
theorem dX2_packValue_25 : decode cX2_packValue 25 = .ok (.if_icmp .ne 13, 3) := by decide +kernel
theorem dX2_packValue_28 : decode cX2_packValue 28 = .ok (.aload_n 0, 1) := by decide +kernel
theorem dX2_packValue_29 : decode cX2_packValue 29 = .ok (.iload_n 3, 1) := by decide +kernel
theorem dX2_packValue_30 : decode cX2_packValue 30 = .ok (.iload 5, 2) := by decide +kernel
theorem dX2_packValue_32 : decode cX2_packValue 32 = .ok (.invokevirtual 38, 3) := by decide +kernel
theorem dX2_packValue_35 : decode cX2_packValue 35 = .ok (.goto 4, 3) := by decide +kernel
theorem dX2_packValue_38 : decode cX2_packValue 38 = .ok (.iload_n 3, 1) := by decide +kernel
theorem dX2_packValue_39 : decode cX2_packValue 39 = .ok (.istore 6, 2) := by decide +kernel
theorem dX2_packValue_41 : decode cX2_packValue 41 = .ok (.iload 5, 2) := by decide +kernel
theorem dX2_packValue_43 : decode cX2_packValue 43 = .ok (.bipush 7, 2) := by decide +kernel
theorem dX2_packValue_45 : decode cX2_packValue 45 = .ok (.if_icmp .ne 23, 3) := by decide +kernel
theorem dX2_packValue_48 : decode cX2_packValue 48 = .ok (.aload_n 0, 1) := by decide +kernel
theorem dX2_packValue_49 : decode cX2_packValue 49 = .ok (.aload_n 1, 1) := by decide +kernel
theorem dX2_packValue_50 : decode cX2_packValue 50 = .ok (.iload_n 2, 1) := by decide +kernel
theorem dX2_packValue_51 : decode cX2_packValue 51 = .ok (.aload_n 0, 1) := by decide +kernel
theorem dX2_packValue_52 : decode cX2_packValue 52 = .ok (.getfield 19, 3) := by decide +kernel
theorem dX2_packValue_55 : decode cX2_packValue 55 = .ok (.iload 6, 2) := by decide +kernel
theorem dX2_packValue_57 : decode cX2_packValue 57 = .ok (.invokevirtual 42, 3) := by decide +kernel
theorem dX2_packValue_60 : decode cX2_packValue 60 = .ok (.iload 4, 2) := by decide +kernel
theorem dX2_packValue_62 : decode cX2_packValue 62 = .ok (.invokevirtual 45, 3) := by decide +kernel
theorem dX2_packValue_65 : decode cX2_packValue 65 = .ok (.goto 92, 3) := by decide +kernel
theorem dX2_packValue_68 : decode cX2_packValue 68 = .ok (.iload 5, 2) := by decide +kernel
theorem dX2_packValue_70 : decode cX2_packValue 70 = .ok (.bipush 6, 2) := by decide +kernel
theorem dX2_packValue_72 : decode cX2_packValue 72 = .ok (.if_icmp .ne 74, 3) := by decide +kernel
theorem dX2_packValue_75 : decode cX2_packValue 75 = .ok (.aload_n 0, 1) := by decide +kernel
theorem dX2_packValue_76 : decode cX2_packValue 76 = .ok (.aload_n 1, 1) := by decide +kernel
theorem dX2_packValue_77 : decode cX2_packValue 77 = .ok (.iload_n 2, 1) := by decide +kernel
theorem dX2_packValue_78 : decode cX2_packValue 78 = .ok (.invokevirtual 48, 3) := by decide +kernel
theorem dX2_packValue_81 : decode cX2_packValue 81 = .ok (.i2l, 1) := by decide +kernel
theorem dX2_packValue_82 : decode cX2_packValue 82 = .ok (.invokevirtual 51, 3) := by decide +kernel
theorem dX2_packValue_85 : decode cX2_packValue 85 = .ok (.aload_n 1, 1) := by decide +kernel
theorem dX2_packValue_86 : decode cX2_packValue 86 = .ok (.iload_n 2, 1) := by decide +kernel
theorem dX2_packValue_87 : decode cX2_packValue 87 = .ok (.invokevirtual 55, 3) := by decide +kernel
theorem dX2_packValue_90 : decode cX2_packValue 90 = .ok (.istore 7, 2) := by decide +kernel
theorem dX2_packValue_92 : decode cX2_packValue 92 = .ok (.iconst 0, 1) := by decide +kernel
theorem dX2_packValue_93 : decode cX2_packValue 93 = .ok (.istore 8, 2) := by decide +kernel
theorem dX2_packValue_95 : decode cX2_packValue 95 = .ok (.iload 8, 2) := by decide +kernel
theorem dX2_packValue_97 : decode cX2_packValue 97 = .ok (.sipush 200, 3) := by decide +kernel
theorem dX2_packValue_100 : decode cX2_packValue 100 = .ok (.if_icmp .ge 43, 3) := by decide +kernel
theorem dX2_packValue_103 : decode cX2_packValue 103 = .ok (.iload 7, 2) := by decide +kernel
theorem dX2_packValue_105 : decode cX2_packValue 105 = .ok (.iconst (-1), 1) := by decide +kernel
theorem dX2_packValue_106 : decode cX2_packValue 106 = .ok (.if_icmp .eq 37, 3) := by decide +kernel
theorem dX2_packValue_109 : decode cX2_packValue 109 = .ok (.aload_n 0, 1) := by decide +kernel
theorem dX2_packValue_110 : decode cX2_packValue 110 = .ok (.aload_n 1, 1) := by decide +kernel
theorem dX2_packValue_111 : decode cX2_packValue 111 = .ok (.iload 7, 2) := by decide +kernel
theorem dX2_packValue_113 : decode cX2_packValue 113 = .ok (.aload_n 0, 1) := by decide +kernel
theorem dX2_packValue_114 : decode cX2_packValue 114 = .ok (.getfield 19, 3) := by decide +kernel
theorem dX2_packValue_117 : decode cX2_packValue 117 = .ok (.iload 6, 2) := by decide +kernel
theorem dX2_packValue_119 : decode cX2_packValue 119 = .ok (.invokevirtual 42, 3) := by decide +kernel
theorem dX2_packValue_122 : decode cX2_packValue 122 = .ok (.iload 4, 2) := by decide +kernel
theorem dX2_packValue_124 : decode cX2_packValue 124 = .ok (.iconst 1, 1) := by decide +kernel
theorem dX2_packValue_125 : decode cX2_packValue 125 = .ok (.iadd, 1) := by decide +kernel
theorem dX2_packValue_126 : decode cX2_packValue 126 = .ok (.invokevirtual 23, 3) := by decide +kernel
theorem dX2_packValue_129 : decode cX2_packValue 129 = .ok (.aload_n 1, 1) := by decide +kernel
theorem dX2_packValue_130 : decode cX2_packValue 130 = .ok (.iload 7, 2) := by decide +kernel
theorem dX2_packValue_132 : decode cX2_packValue 132 = .ok (.invokevirtual 58, 3) := by decide +kernel
theorem dX2_packValue_135 : decode cX2_packValue 135 = .ok (.istore 7, 2) := by decide +kernel
theorem dX2_packValue_137 : decode cX2_packValue 137 = .ok (.iinc 8 1, 3) := by decide +kernel
theorem dX2_packValue_140 : decode cX2_packValue 140 = .ok (.goto (-45), 3) := by decide +kernel
theorem dX2_packValue_143 : decode cX2_packValue 143 = .ok (.goto 14, 3) := by decide +kernel
theorem dX2_packValue_146 : decode cX2_packValue 146 = .ok (.aload_n 0, 1) := by decide +kernel
theorem dX2_packValue_147 : decode cX2_packValue 147 = .ok (.iload 5, 2) := by decide +kernel
theorem dX2_packValue_149 : decode cX2_packValue 149 = .ok (.aload_n 1, 1) := by decide +kernel
theorem dX2_packValue_150 : decode cX2_packValue 150 = .ok (.iload_n 2, 1) := by decide +kernel
theorem dX2_packValue_151 : decode cX2_packValue 151 = .ok (.invokevirtual 61, 3) := by decide +kernel
theorem dX2_packValue_154 : decode cX2_packValue 154 = .ok (.invokevirtual 65, 3) := by decide +kernel
theorem dX2_packValue_157 : decode cX2_packValue 157 = .ok (.return_, 1) := by decide +kernel
theorem dX2_put_0 : decode cX2_put 0 = .ok (.aload_n 0, 1) := by decide +kernel
theorem dX2_put_1 : decode cX2_put 1 = .ok (.getfield 15, 3) := by decide +kernel
theorem dX2_put_4 : decode cX2_put 4 = .ok (.sipush 400, 3) := by decide +kernel
theorem dX2_put_7 : decode cX2_put 7 = .ok (.if_icmp .ge 14, 3) := by decide +kernel
theorem dX2_put_10 : decode cX2_put 10 = .ok (.aload_n 0, 1) := by decide +kernel
theorem dX2_put_11 : decode cX2_put 11 = .ok (.getfield 9, 3) := by decide +kernel
theorem dX2_put_14 : decode cX2_put 14 = .ok (.aload_n 0, 1) := by decide +kernel
theorem dX2_put_15 : decode cX2_put 15 = .ok (.getfield 15, 3) := by decide +kernel
theorem dX2_put_18 : decode cX2_put 18 = .ok (.iload_n 1, 1) := by decide +kernel
theorem dX2_put_19 : decode cX2_put 19 = .ok (.i2b, 1) := by decide +kernel
theorem dX2_put_20 : decode cX2_put 20 = .ok (.bastore, 1) := by decide +kernel
theorem dX2_put_21 : decode cX2_put 21 = .ok (.aload_n 0, 1) := by decide +kernel
theorem dX2_put_22 : decode cX2_put 22 = .ok (.dup, 1) := by decide +kernel
theorem dX2_put_23 : decode cX2_put 23 = .ok (.getfield 15, 3) := by decide +kernel
theorem dX2_put_26 : decode cX2_put 26 = .ok (.iconst 1, 1) := by decide +kernel
theorem dX2_put_27 : decode cX2_put 27 = .ok (.iadd, 1) := by decide +kernel
theorem dX2_put_28 : decode cX2_put 28 = .ok (.putfield 15, 3) := by decide +kernel
theorem dX2_put_31 : decode cX2_put 31 = .ok (.return_, 1) := by decide +kernel
theorem dX2_putNumber_0 : decode cX2_putNumber 0 = .ok (.lload_n 1, 1) := by decide +kernel
theorem dX2_putNumber_1 : decode cX2_putNumber 1 = .ok (.iconst 1, 1) := by decide +kernel
theorem dX2_putNumber_2 : decode cX2_putNumber 2 = .ok (.lshl, 1) := by decide +kernel
theorem dX2_putNumber_3 : decode cX2_putNumber 3 = .ok (.lload_n 1, 1) := by decide +kernel
theorem dX2_putNumber_4 : decode cX2_putNumber 4 = .ok (.bipush 63, 2) := by decide +kernel
theorem dX2_putNumber_6 : decode cX2_putNumber 6 = .ok (.lshr, 1) := by decide +kernel
theorem dX2_putNumber_7 : decode cX2_putNumber 7 = .ok (.lxor, 1) := by decide +kernel
theorem dX2_putNumber_8 : decode cX2_putNumber 8 = .ok (.lstore_n 3, 1) := by decide +kernel
theorem dX2_putNumber_9 : decode cX2_putNumber 9 = .ok (.iconst 0, 1) := by decide +kernel
theorem dX2_putNumber_10 : decode cX2_putNumber 10 = .ok (.istore 5, 2) := by decide +kernel
theorem dX2_putNumber_12 : decode cX2_putNumber 12 = .ok (.iload 5, 2) := by decide +kernel
theorem dX2_putNumber_14 : decode cX2_putNumber 14 = .ok (.bipush 9, 2) := by decide +kernel
theorem dX2_putNumber_16 : decode cX2_putNumber 16 = .ok (.if_icmp .ge 38, 3) := by decide +kernel
theorem dX2_putNumber_19 : decode cX2_putNumber 19 = .ok (.lload_n 3, 1) := by decide +kernel
theorem dX2_putNumber_20 : decode cX2_putNumber 20 = .ok (.ldc2_w 107, 3) := by decide +kernel
theorem dX2_putNumber_23 : decode cX2_putNumber 23 = .ok (.land, 1) := by decide +kernel
theorem dX2_putNumber_24 : decode cX2_putNumber 24 = .ok (.lconst 0, 1) := by decide +kernel
theorem dX2_putNumber_25 : decode cX2_putNumber 25 = .ok (.lcmp, 1) := by decide +kernel
theorem dX2_putNumber_26 : decode cX2_putNumber 26 = .ok (.ifCond .eq 28, 3) := by decide +kernel
theorem dX2_putNumber_29 : decode cX2_putNumber 29 = .ok (.aload_n 0, 1) := by decide +kernel
theorem dX2_putNumber_30 : decode cX2_putNumber 30 = .ok (.lload_n 3, 1) := by decide +kernel
theorem dX2_putNumber_31 : decode cX2_putNumber 31 = .ok (.ldc2_w 109, 3) := by decide +kernel
theorem dX2_putNumber_34 : decode cX2_putNumber 34 = .ok (.land, 1) := by decide +kernel
theorem dX2_putNumber_35 : decode cX2_putNumber 35 = .ok (.l2i, 1) := by decide +kernel
theorem dX2_putNumber_36 : decode cX2_putNumber 36 = .ok (.sipush 128, 3) := by decide +kernel
theorem dX2_putNumber_39 : decode cX2_putNumber 39 = .ok (.ior, 1) := by decide +kernel
theorem dX2_putNumber_40 : decode cX2_putNumber 40 = .ok (.invokevirtual 92, 3) := by decide +kernel
theorem dX2_putNumber_43 : decode cX2_putNumber 43 = .ok (.lload_n 3, 1) := by decide +kernel
theorem dX2_putNumber_44 : decode cX2_putNumber 44 = .ok (.bipush 7, 2) := by decide +kernel
theorem dX2_putNumber_46 : decode cX2_putNumber 46 = .ok (.lushr, 1) := by decide +kernel
theorem dX2_putNumber_47 : decode cX2_putNumber 47 = .ok (.lstore_n 3, 1) := by decide +kernel
theorem dX2_putNumber_48 : decode cX2_putNumber 48 = .ok (.iinc 5 1, 3) := by decide +kernel
theorem dX2_putNumber_51 : decode cX2_putNumber 51 = .ok (.goto (-39), 3) := by decide +kernel
theorem dX2_putNumber_54 : decode cX2_putNumber 54 = .ok (.aload_n 0, 1) := by decide +kernel
theorem dX2_putNumber_55 : decode cX2_putNumber 55 = .ok (.lload_n 3, 1) := by decide +kernel
theorem dX2_putNumber_56 : decode cX2_putNumber 56 = .ok (.l2i, 1) := by decide +kernel
theorem dX2_putNumber_57 : decode cX2_putNumber 57 = .ok (.invokevirtual 92, 3) := by decide +kernel
theorem dX2_putNumber_60 : decode cX2_putNumber 60 = .ok (.return_, 1) := by decide +kernel
theorem dX7_placeOf_0 : decode cX7_placeOf 0 = .ok (.aload_n 0, 1) := by decide +kernel
theorem dX7_placeOf_1 : decode cX7_placeOf 1 = .ok (.iload_n 1, 1) := by decide +kernel
theorem dX7_placeOf_2 : decode cX7_placeOf 2 = .ok (.invokevirtual 54, 3) := by decide +kernel
theorem dX7_placeOf_5 : decode cX7_placeOf 5 = .ok (.ifCond .eq 12, 3) := by decide +kernel
theorem dX7_placeOf_8 : decode cX7_placeOf 8 = .ok (.aload_n 0, 1) := by decide +kernel
theorem dX7_placeOf_9 : decode cX7_placeOf 9 = .ok (.getfield 25, 3) := by decide +kernel
theorem dX7_placeOf_12 : decode cX7_placeOf 12 = .ok (.iload_n 1, 1) := by decide +kernel
theorem dX7_placeOf_13 : decode cX7_placeOf 13 = .ok (.iaload, 1) := by decide +kernel
theorem dX7_placeOf_14 : decode cX7_placeOf 14 = .ok (.goto 4, 3) := by decide +kernel
theorem dX7_placeOf_17 : decode cX7_placeOf 17 = .ok (.iconst 0, 1) := by decide +kernel
theorem dX7_placeOf_18 : decode cX7_placeOf 18 = .ok (.ireturn, 1) := by decide +kernel
def f_X1_hasByte (p0 : Int32) (p1 : Int32) (σ : ST) : Option (Int32 × ST) := (f_X1_isWritten  p0 σ).bind fun q1 => if q1.1 = 0 then (some (0, q1.2)) else (if p1 < 0 then (some (0, q1.2)) else (if 0 ≤ p0.toInt ∧ p0.toInt < 4 then (if (q1.2.1 39 p0.toNatClampNeg) ≤ p1 then (some (0, q1.2)) else (if 400 ≤ p1 then (some (0, q1.2)) else (some (1, q1.2)))) else none))

set_option maxRecDepth 100000 in
set_option maxHeartbeats 4000000 in
theorem b_X1_hasByte_e {p : Program} {l : Launch} {e : Env} {s : State} {m : MethodId} {args : Array Value} {below : List Frame} {meth : Method} {c : Code} {dC : Nat → ClassId} {dI : Nat → Nat → Nat} {a : Nat → Nat} {k : Nat → ClassId} {A : Nat → Prop} {q : Int32 × ST} (hC : CxA p s m args meth c dC dI k A cX1_hasByte RX1 (some .boolean) 3)   {p0 : Int32} {p1 : Int32} {σ : ST} (h : f_X1_hasByte  p0 p1 σ = some q) : GoA p l e ({ frames := 2, cells := 0, slots := 0, locals := 42 } : Room) s m args below meth c (MQ below (qAi dC dI a k A q) args s 0 0 A) dC dI a k A 3 0 σ (lv_args 0 [.ref (a 37), .int p0, .int p1]) [] := by
  have hC0 := hC
  obtain ⟨hx, hb, hr, hml, hown, hts, hlocks, hA, hN, hK⟩ := hC0
  intro H locs ls hP hD hS hl
  have hD0 : ∀ σ1 : ST, va_D A (wA a k σ1) := fun σ1 => wA_D hD
  replace hl : lv_has ls 3 [(0, .ref (a 37)), (1, .int p0), (2, .int p1)] := hl
  unfold f_X1_hasByte at h
  refine lv_aload_n hx hb dX1_hasByte_0 rfl (lv_at hl 0 rfl) ?_
  refine lv_iload_n hx hb dX1_hasByte_1 rfl (lv_at hl 1 rfl) ?_
  obtain ⟨q1, hc, h⟩ := ib h
  have hF := va_frees hD hS hA
  refine va_calli (va_runV (As := [.int p0]) (rest := []) ⟨hx, hb, hml, hown, hts⟩ (s_X1_isWritten hc) (cwV 1 hts (gV mw_4_14 mw_4_15 mw_4_16 mw_0_5 mw_48_0) rfl rfl rfl (by decide +kernel) ⟨(Nat.le_of_ble_eq_true rfl), (Nat.le_of_ble_eq_true rfl)⟩) (vV (ci := 1) (q0 := 37) hK hP hD hN rfl gA_37) rfl rfl hl.1 rfl (lv_room (Nat.le_of_ble_eq_true rfl)) dX1_hasByte_2 ⟨(Nat.le_of_ble_eq_true rfl), (Nat.le_of_ble_eq_true rfl)⟩) hS (fun q _ h => hF q h) hF (fun r2 u t H locs ht hvm hw hB _ _ hS => ?_)
  obtain rfl : r2 = q1.1 := hw
  replace hP : va_P (dC, dI) vwCl (wA a k q1.2) H := by rw [← ht]; exact hB.1
  replace hD := hD0 (q1.2)
  clear hB hF
  refine lv_if_eq (tgt := 33) hx hb dX1_hasByte_5 (by decide) (fun hc => ?_) (fun hc => ?_)
  · replace h := ip hc h
    refine lv_iconst (v := 0) hx hb dX1_hasByte_33 (by decide) ?_
    obtain rfl := Option.some.inj h
    exact W.zret hx hb hr rfl (fun t ht hW => ⟨⟨_, (), rfl, rfl, ⟨by rw [ht]; exact hP, va_K.moved hW.alike hK, hD⟩⟩, hS.F ht⟩) hS.2.2 dX1_hasByte_34
  · replace h := iq hc h
    refine lv_iload_n hx hb dX1_hasByte_8 rfl (lv_at hl 2 rfl) ?_
    refine lv_if_lt (tgt := 33) hx hb dX1_hasByte_9 (by decide) (fun hc => ?_) (fun hc => ?_)
    · replace h := ip hc h
      refine lv_iconst (v := 0) hx hb dX1_hasByte_33 (by decide) ?_
      obtain rfl := Option.some.inj h
      exact W.zret hx hb hr rfl (fun t ht hW => ⟨⟨_, (), rfl, rfl, ⟨by rw [ht]; exact hP, va_K.moved hW.alike hK, hD⟩⟩, hS.F ht⟩) hS.2.2 dX1_hasByte_34
    · replace h := iq hc h
      refine lv_iload_n hx hb dX1_hasByte_12 rfl (lv_at hl 2 rfl) ?_
      refine lv_aload_n hx hb dX1_hasByte_13 rfl (lv_at hl 0 rfl) ?_
      refine va_get (D := (dC, dI)) (ci := 1) (C := RX1) (T := TX1) (N := 3) hx hb hts inlX1 hown hK hP 37 gA_37 rfl 1 (by decide) (hts (.fieldLink RX1 15 "ShapeReader$Messages" "sizes" "[I") mw_4_8) (fun _ h9 => h9) rfl dX1_hasByte_14 ?_
      refine lv_iload_n hx hb dX1_hasByte_17 rfl (lv_at hl 1 rfl) ?_
      obtain ⟨hg3, h⟩ := ig h
      refine va_iald hx hb hK hP 39 33 gA_39 yA_39 (vp_in_iff.mpr hg3) dX1_hasByte_18 ?_
      refine lv_icmp_ge (tgt := 33) hx hb dX1_hasByte_19 (by decide) (fun hc => ?_) (fun hc => ?_)
      · replace h := ip hc h
        refine lv_iconst (v := 0) hx hb dX1_hasByte_33 (by decide) ?_
        obtain rfl := Option.some.inj h
        exact W.zret hx hb hr rfl (fun t ht hW => ⟨⟨_, (), rfl, rfl, ⟨by rw [ht]; exact hP, va_K.moved hW.alike hK, hD⟩⟩, hS.F ht⟩) hS.2.2 dX1_hasByte_34
      · replace h := iq hc h
        refine lv_iload_n hx hb dX1_hasByte_22 rfl (lv_at hl 2 rfl) ?_
        refine lv_sipush (v := 400) hx hb dX1_hasByte_23 (by decide) ?_
        refine lv_icmp_ge (tgt := 33) hx hb dX1_hasByte_26 (by decide) (fun hc => ?_) (fun hc => ?_)
        · replace h := ip hc h
          refine lv_iconst (v := 0) hx hb dX1_hasByte_33 (by decide) ?_
          obtain rfl := Option.some.inj h
          exact W.zret hx hb hr rfl (fun t ht hW => ⟨⟨_, (), rfl, rfl, ⟨by rw [ht]; exact hP, va_K.moved hW.alike hK, hD⟩⟩, hS.F ht⟩) hS.2.2 dX1_hasByte_34
        · replace h := iq hc h
          refine lv_iconst (v := 1) hx hb dX1_hasByte_29 (by decide) ?_
          refine lv_goto (tgt := 34) hx hb dX1_hasByte_30 (by decide) ?_
          obtain rfl := Option.some.inj h
          exact W.zret hx hb hr rfl (fun t ht hW => ⟨⟨_, (), rfl, rfl, ⟨by rw [ht]; exact hP, va_K.moved hW.alike hK, hD⟩⟩, hS.F ht⟩) hS.2.2 dX1_hasByte_34

theorem s_X1_hasByte {l : Launch} {dC : Nat → ClassId} {dI : Nat → Nat → Nat} {a : Nat → Nat} {k : Nat → ClassId} {sz : Nat} {p0 : Int32} {p1 : Int32} {σ : ST} {q : Int32 × ST} (h : f_X1_hasByte  p0 p1 σ = some q) : Met l yX1_hasByte (.code yX1_hasByte cX1_hasByte 3 (some .boolean) :: pw) ({ frames := 2, cells := 0, slots := 0, locals := 42 } : Room) (va_Pc [.ref (a 37), .int p0, .int p1] (vPre dC dI (wA a k σ) (tA k) sz)) (qAi dC dI a k (va_A (wA a k σ) sz) q) 0 0 (va_A (wA a k σ) sz) := metA (fun A => qAi dC dI a k A q) (plainFor_of_name (by decide)) (Nat.le_of_ble_eq_true rfl) (fun _ _ _ _ _ _ _ _ hC => b_X1_hasByte_e hC h)

def f_X1_store (p0 : Int32) (p1 : Int32) (σ : ST) : Option (ST) := (f_X1_isNumber  p0 σ).bind fun q1 => if q1.1 = 0 then (some q1.2) else (if 400 < (q1.2.1 87 2) then (some q1.2) else (if ¬ (0 : Int32) < 0 ∧ ¬ (p0 * 400) < 0 ∧ ¬ (q1.2.1 87 2) < 0 ∧ (0 : Int32).toNatClampNeg + (q1.2.1 87 2).toNatClampNeg ≤ 400 ∧ (p0 * 400).toNatClampNeg + (q1.2.1 87 2).toNatClampNeg ≤ 1600 ∧ ∀ i : Nat, i < (q1.2.1 87 2).toNatClampNeg → fits .byte (.int (q1.2.1 88 ((0 : Int32).toNatClampNeg + i))) = true then ((some (stF q1.2 38 (va_cpy (q1.2.1 88) (q1.2.1 38) (0 : Int32).toNatClampNeg (p0 * 400).toNatClampNeg (q1.2.1 87 2).toNatClampNeg))).bind fun z3 => if 0 ≤ p0.toInt ∧ p0.toInt < 4 then (some (stI (stI z3 39 p0.toNatClampNeg (z3.1 87 2)) 40 p0.toNatClampNeg p1)) else none) else none))

set_option maxRecDepth 100000 in
set_option maxHeartbeats 4000000 in
theorem b_X1_store_e {p : Program} {l : Launch} {e : Env} {s : State} {m : MethodId} {args : Array Value} {below : List Frame} {meth : Method} {c : Code} {dC : Nat → ClassId} {dI : Nat → Nat → Nat} {a : Nat → Nat} {k : Nat → ClassId} {A : Nat → Prop} {q : ST} (hC : CxA p s m args meth c dC dI k A cX1_store RX1 none 4)   {p0 : Int32} {p1 : Int32} {σ : ST} (h : f_X1_store  p0 p1 σ = some q) : GoA p l e ({ frames := 1, cells := 0, slots := 0, locals := 30 } : Room) s m args below meth c (MQ below (qAv dC dI a k A q) args s 0 0 A) dC dI a k A 4 0 σ (lv_args 0 [.ref (a 37), .int p0, .int p1, .ref (a 87)]) [] := by
  have hC0 := hC
  obtain ⟨hx, hb, hr, hml, hown, hts, hlocks, hA, hN, hK⟩ := hC0
  intro H locs ls hP hD hS hl
  have hD0 : ∀ σ1 : ST, va_D A (wA a k σ1) := fun σ1 => wA_D hD
  replace hl : lv_has ls 4 [(0, .ref (a 37)), (1, .int p0), (2, .int p1), (3, .ref (a 87))] := hl
  unfold f_X1_store at h
  refine lv_aload_n hx hb dX1_store_0 rfl (lv_at hl 0 rfl) ?_
  refine lv_iload_n hx hb dX1_store_1 rfl (lv_at hl 1 rfl) ?_
  obtain ⟨q1, hc, h⟩ := ib h
  have hF := va_frees hD hS hA
  refine va_calli (va_runV (As := [.int p0]) (rest := []) ⟨hx, hb, hml, hown, hts⟩ (s_X1_isNumber hc) (cwV 1 hts (gV mw_4_11 mw_4_12 mw_4_13 mw_0_5 mw_47_29) rfl rfl rfl (by decide +kernel) ⟨(Nat.le_of_ble_eq_true rfl), (Nat.le_of_ble_eq_true rfl)⟩) (vV (ci := 1) (q0 := 37) hK hP hD hN rfl gA_37) rfl rfl hl.1 rfl (lv_room (Nat.le_of_ble_eq_true rfl)) dX1_store_2 ⟨(Nat.le_of_ble_eq_true rfl), (Nat.le_of_ble_eq_true rfl)⟩) hS (fun q _ h => hF q h) hF (fun r2 u t H locs ht hvm hw hB _ _ hS => ?_)
  obtain rfl : r2 = q1.1 := hw
  replace hP : va_P (dC, dI) vwCl (wA a k q1.2) H := by rw [← ht]; exact hB.1
  replace hD := hD0 (q1.2)
  clear hB hF
  refine lv_if_eq (tgt := 56) hx hb dX1_store_5 (by decide) (fun hc => ?_) (fun hc => ?_)
  · replace h := ip hc h
    obtain rfl := Option.some.inj h
    exact W.vret hx hb hr (fun t ht hW => ⟨⟨(), rfl, trivial, ⟨by rw [ht]; exact hP, va_K.moved hW.alike hK, hD⟩⟩, hS.F ht⟩) hS.2.2 dX1_store_56
  · replace h := iq hc h
    refine lv_aload_n hx hb dX1_store_8 rfl (lv_at hl 3 rfl) ?_
    refine va_get (D := (dC, dI)) (ci := 2) (C := RX2) (T := TX2) (N := 3) hx hb hts inlX2 hown hK hP 87 gA_87 rfl 2 (by decide) (hts (.fieldLink RX1 47 "ShapeReader$Packer" "size" "I") mw_4_26) (fun _ h9 => h9) rfl dX1_store_9 ?_
    refine lv_sipush (v := 400) hx hb dX1_store_12 (by decide) ?_
    refine lv_icmp_gt (tgt := 56) hx hb dX1_store_15 (by decide) (fun hc => ?_) (fun hc => ?_)
    · replace h := ip hc h
      obtain rfl := Option.some.inj h
      exact W.vret hx hb hr (fun t ht hW => ⟨⟨(), rfl, trivial, ⟨by rw [ht]; exact hP, va_K.moved hW.alike hK, hD⟩⟩, hS.F ht⟩) hS.2.2 dX1_store_56
    · replace h := iq hc h
      refine lv_aload_n hx hb dX1_store_18 rfl (lv_at hl 3 rfl) ?_
      refine va_get (D := (dC, dI)) (ci := 2) (C := RX2) (T := TX2) (N := 3) hx hb hts inlX2 hown hK hP 87 gA_87 rfl 1 (by decide) (hts (.fieldLink RX1 53 "ShapeReader$Packer" "bytes" "[B") mw_4_27) (fun _ h9 => h9) rfl dX1_store_19 ?_
      refine lv_iconst (v := 0) hx hb dX1_store_22 (by decide) ?_
      refine lv_aload_n hx hb dX1_store_23 rfl (lv_at hl 0 rfl) ?_
      refine va_get (D := (dC, dI)) (ci := 1) (C := RX1) (T := TX1) (N := 3) hx hb hts inlX1 hown hK hP 37 gA_37 rfl 0 (by decide) (hts (.fieldLink RX1 9 "ShapeReader$Messages" "bytes" "[B") mw_4_7) (fun _ h9 => h9) rfl dX1_store_24 ?_
      refine lv_iload_n hx hb dX1_store_27 rfl (lv_at hl 1 rfl) ?_
      refine lv_sipush (v := 400) hx hb dX1_store_28 (by decide) ?_
      refine lv_imul hx hb dX1_store_31 ?_
      refine lv_aload_n hx hb dX1_store_32 rfl (lv_at hl 3 rfl) ?_
      refine va_get (D := (dC, dI)) (ci := 2) (C := RX2) (T := TX2) (N := 3) hx hb hts inlX2 hown hK hP 87 gA_87 rfl 2 (by decide) (hts (.fieldLink RX1 47 "ShapeReader$Packer" "size" "I") mw_4_26) (fun _ h9 => h9) rfl dX1_store_33 ?_
      obtain ⟨hg, h⟩ := ig h
      refine va_copyi hx hb (hml.trans hl.1.symm) hown (hts (.methodLink RX1 54 arraycopyName) mw_4_28) (hts (.native arraycopyName) mw_4_0) (hts (.static arraycopyName) mw_4_1) (hts (.initialized "java/lang/System") mw_4_2) hK hP hD hS 88 38 75 32 gA_88 gA_38 yA_88 yA_38 rfl hg.1 hg.2.1 hg.2.2.1 hg.2.2.2.1 hg.2.2.2.2.1 hg.2.2.2.2.2 (Nat.le_of_ble_eq_true rfl) (Nat.le_of_ble_eq_true rfl) dX1_store_36 (fun H locs hP hD hS => ?_)
      replace hP := vA_38 hP
      obtain ⟨z3, hs, h⟩ := ib h
      replace hs := Option.some.inj hs
      replace hP : va_P (dC, dI) vwCl (wA a k z3) H := by rw [← hs]; exact hP
      replace hD := hD0 z3
      clear hs
      refine lv_aload_n hx hb dX1_store_39 rfl (lv_at hl 0 rfl) ?_
      refine va_get (D := (dC, dI)) (ci := 1) (C := RX1) (T := TX1) (N := 3) hx hb hts inlX1 hown hK hP 37 gA_37 rfl 1 (by decide) (hts (.fieldLink RX1 15 "ShapeReader$Messages" "sizes" "[I") mw_4_8) (fun _ h9 => h9) rfl dX1_store_40 ?_
      refine lv_iload_n hx hb dX1_store_43 rfl (lv_at hl 1 rfl) ?_
      refine lv_aload_n hx hb dX1_store_44 rfl (lv_at hl 3 rfl) ?_
      refine va_get (D := (dC, dI)) (ci := 2) (C := RX2) (T := TX2) (N := 3) hx hb hts inlX2 hown hK hP 87 gA_87 rfl 2 (by decide) (hts (.fieldLink RX1 47 "ShapeReader$Packer" "size" "I") mw_4_26) (fun _ h9 => h9) rfl dX1_store_45 ?_
      obtain ⟨hg4, h⟩ := ig h
      refine va_iast hx hb hK hP hD hS 39 33 gA_39 yA_39 (vp_in_iff.mpr hg4) dX1_store_48 (fun H locs hP hD hS => ?_)
      replace hP := uA_39 hP
      replace hD := hD0 ((stI z3 39 p0.toNatClampNeg (z3.1 87 2)))
      refine lv_aload_n hx hb dX1_store_49 rfl (lv_at hl 0 rfl) ?_
      refine va_get (D := (dC, dI)) (ci := 1) (C := RX1) (T := TX1) (N := 3) hx hb hts inlX1 hown hK hP 37 gA_37 rfl 2 (by decide) (hts (.fieldLink RX1 19 "ShapeReader$Messages" "plansUsed" "[I") mw_4_9) (fun _ h9 => h9) rfl dX1_store_50 ?_
      refine lv_iload_n hx hb dX1_store_53 rfl (lv_at hl 1 rfl) ?_
      refine lv_iload_n hx hb dX1_store_54 rfl (lv_at hl 2 rfl) ?_
      refine va_iast hx hb hK hP hD hS 40 34 gA_40 yA_40 (vp_in_iff.mpr hg4) dX1_store_55 (fun H locs hP hD hS => ?_)
      replace hP := uA_40 hP
      replace hD := hD0 ((stI (stI z3 39 p0.toNatClampNeg (z3.1 87 2)) 40 p0.toNatClampNeg p1))
      obtain rfl := Option.some.inj h
      exact W.vret hx hb hr (fun t ht hW => ⟨⟨(), rfl, trivial, ⟨by rw [ht]; exact hP, va_K.moved hW.alike hK, hD⟩⟩, hS.F ht⟩) hS.2.2 dX1_store_56

theorem s_X1_store {l : Launch} {dC : Nat → ClassId} {dI : Nat → Nat → Nat} {a : Nat → Nat} {k : Nat → ClassId} {sz : Nat} {p0 : Int32} {p1 : Int32} {σ : ST} {q : ST} (h : f_X1_store  p0 p1 σ = some q) : Met l yX1_store (.code yX1_store cX1_store 4 none :: pw) ({ frames := 1, cells := 0, slots := 0, locals := 30 } : Room) (va_Pc [.ref (a 37), .int p0, .int p1, .ref (a 87)] (vPre dC dI (wA a k σ) (tA k) sz)) (qAv dC dI a k (va_A (wA a k σ) sz) q) 0 0 (va_A (wA a k σ) sz) := metA (fun A => qAv dC dI a k A q) (plainFor_of_name (by decide)) (Nat.le_of_ble_eq_true rfl) (fun _ _ _ _ _ _ _ _ hC => b_X1_store_e hC h)

def f_X2_put_21 (σ : ST) : Option (ST) := some (stI σ 87 2 ((σ.1 87 2) + 1))
def f_X2_put (p0 : Int32) (σ : ST) : Option (ST) := if 400 ≤ (σ.1 87 2) then (f_X2_put_21   σ) else (if 0 ≤ (σ.1 87 2).toInt ∧ (σ.1 87 2).toInt < 400 then (f_X2_put_21   (stI σ 88 (σ.1 87 2).toNatClampNeg (vp_nar .byte (p0.toInt8.toInt32)))) else none)

set_option maxRecDepth 100000 in
set_option maxHeartbeats 4000000 in
theorem b_X2_put_21 {p : Program} {l : Launch} {e : Env} {s : State} {m : MethodId} {args : Array Value} {below : List Frame} {meth : Method} {c : Code} {dC : Nat → ClassId} {dI : Nat → Nat → Nat} {a : Nat → Nat} {k : Nat → ClassId} {A : Nat → Prop} {q : ST} (hC : CxA p s m args meth c dC dI k A cX2_put RX2 none 2)    {σ : ST} (h : f_X2_put_21   σ = some q) : GoA p l e ({ frames := 0, cells := 0, slots := 0, locals := 0 } : Room) s m args below meth c (MQ below (qAv dC dI a k A q) args s 0 0 A) dC dI a k A 2 21 σ [(0, .ref (a 87))] [] := by
  have hC0 := hC
  obtain ⟨hx, hb, hr, hml, hown, hts, hlocks, hA, hN, hK⟩ := hC0
  intro H locs ls hP hD hS hl
  have hD0 : ∀ σ1 : ST, va_D A (wA a k σ1) := fun σ1 => wA_D hD
  unfold f_X2_put_21 at h
  refine lv_aload_n hx hb dX2_put_21 rfl (lv_at hl 0 rfl) ?_
  refine lv_dup hx hb dX2_put_22 rfl ?_
  refine va_get (D := (dC, dI)) (ci := 2) (C := RX2) (T := TX2) (N := 3) hx hb hts inlX2 hown hK hP 87 gA_87 rfl 2 (by decide) (hts (.fieldLink RX2 15 "ShapeReader$Packer" "size" "I") mw_5_1) (fun _ h9 => h9) rfl dX2_put_23 ?_
  refine lv_iconst (v := 1) hx hb dX2_put_26 (by decide) ?_
  refine lv_iadd hx hb dX2_put_27 ?_
  refine va_put (D := (dC, dI)) (ci := 2) (ty := .int) (C := RX2) (T := TX2) (N := 3) hx hb hts inlX2 tyX2 tyX2_ok nmX2 hown hK hP hD hS 87 gA_87 rfl 2 (by decide) (hts (.fieldLink RX2 15 "ShapeReader$Packer" "size" "I") mw_5_1) (fun _ h9 => h9) rfl (by decide +kernel) rfl rfl (Nat.le_of_ble_eq_true rfl) dX2_put_28 (fun H locs hP hD hS => ?_)
  replace hP := uA_87_2 hP
  replace hD := hD0 ((stI σ 87 2 ((σ.1 87 2) + 1)))
  obtain rfl := Option.some.inj h
  exact W.vret hx hb hr (fun t ht hW => ⟨⟨(), rfl, trivial, ⟨by rw [ht]; exact hP, va_K.moved hW.alike hK, hD⟩⟩, hS.F ht⟩) hS.2.2 dX2_put_31

set_option maxRecDepth 100000 in
set_option maxHeartbeats 4000000 in
theorem b_X2_put_e {p : Program} {l : Launch} {e : Env} {s : State} {m : MethodId} {args : Array Value} {below : List Frame} {meth : Method} {c : Code} {dC : Nat → ClassId} {dI : Nat → Nat → Nat} {a : Nat → Nat} {k : Nat → ClassId} {A : Nat → Prop} {q : ST} (hC : CxA p s m args meth c dC dI k A cX2_put RX2 none 2)   {p0 : Int32} {σ : ST} (h : f_X2_put  p0 σ = some q) : GoA p l e ({ frames := 0, cells := 0, slots := 0, locals := 0 } : Room) s m args below meth c (MQ below (qAv dC dI a k A q) args s 0 0 A) dC dI a k A 2 0 σ (lv_args 0 [.ref (a 87), .int p0]) [] := by
  have hC0 := hC
  obtain ⟨hx, hb, hr, hml, hown, hts, hlocks, hA, hN, hK⟩ := hC0
  intro H locs ls hP hD hS hl
  have hD0 : ∀ σ1 : ST, va_D A (wA a k σ1) := fun σ1 => wA_D hD
  replace hl : lv_has ls 2 [(0, .ref (a 87)), (1, .int p0)] := hl
  unfold f_X2_put at h
  refine lv_aload_n hx hb dX2_put_0 rfl (lv_at hl 0 rfl) ?_
  refine va_get (D := (dC, dI)) (ci := 2) (C := RX2) (T := TX2) (N := 3) hx hb hts inlX2 hown hK hP 87 gA_87 rfl 2 (by decide) (hts (.fieldLink RX2 15 "ShapeReader$Packer" "size" "I") mw_5_1) (fun _ h9 => h9) rfl dX2_put_1 ?_
  refine lv_sipush (v := 400) hx hb dX2_put_4 (by decide) ?_
  refine lv_icmp_ge (tgt := 21) hx hb dX2_put_7 (by decide) (fun hc => ?_) (fun hc => ?_)
  · replace h := ip hc h
    exact b_X2_put_21 hC h _ _ _ hP hD hS (lv_sub hl [0] rfl)
  · replace h := iq hc h
    refine lv_aload_n hx hb dX2_put_10 rfl (lv_at hl 0 rfl) ?_
    refine va_get (D := (dC, dI)) (ci := 2) (C := RX2) (T := TX2) (N := 3) hx hb hts inlX2 hown hK hP 87 gA_87 rfl 1 (by decide) (hts (.fieldLink RX2 9 "ShapeReader$Packer" "bytes" "[B") mw_5_0) (fun _ h9 => h9) rfl dX2_put_11 ?_
    refine lv_aload_n hx hb dX2_put_14 rfl (lv_at hl 0 rfl) ?_
    refine va_get (D := (dC, dI)) (ci := 2) (C := RX2) (T := TX2) (N := 3) hx hb hts inlX2 hown hK hP 87 gA_87 rfl 2 (by decide) (hts (.fieldLink RX2 15 "ShapeReader$Packer" "size" "I") mw_5_1) (fun _ h9 => h9) rfl dX2_put_15 ?_
    refine lv_iload_n hx hb dX2_put_18 rfl (lv_at hl 1 rfl) ?_
    refine lv_i2b (v := p0.toInt8.toInt32) hx hb dX2_put_19 rfl ?_
    obtain ⟨hg1, h⟩ := ig h
    refine va_bast hx hb hK hP hD hS 88 75 gA_88 yA_88 (vp_in_iff.mpr hg1) dX2_put_20 (fun H locs hP hD hS => ?_)
    replace hP := uA_88 hP
    replace hD := hD0 ((stI σ 88 (σ.1 87 2).toNatClampNeg (vp_nar .byte (p0.toInt8.toInt32))))
    exact b_X2_put_21 hC h _ _ _ hP hD hS (lv_sub hl [0] rfl)

theorem s_X2_put {l : Launch} {dC : Nat → ClassId} {dI : Nat → Nat → Nat} {a : Nat → Nat} {k : Nat → ClassId} {sz : Nat} {p0 : Int32} {σ : ST} {q : ST} (h : f_X2_put  p0 σ = some q) : Met l yX2_put (.code yX2_put cX2_put 2 none :: pw) ({ frames := 0, cells := 0, slots := 0, locals := 0 } : Room) (va_Pc [.ref (a 87), .int p0] (vPre dC dI (wA a k σ) (tA k) sz)) (qAv dC dI a k (va_A (wA a k σ) sz) q) 0 0 (va_A (wA a k σ) sz) := metA (fun A => qAv dC dI a k A q) (plainFor_of_name (by decide)) (Nat.le_of_ble_eq_true rfl) (fun _ _ _ _ _ _ _ _ hC => b_X2_put_e hC h)

def f_X2_putNumber_54 (x3 : Int64) (σ : ST) : Option (ST) := (f_X2_put  (x3.toInt32) σ).bind fun q1 => some q1
def f_X2_putNumber_12  : Nat → Int64 → Int32 → ST → Option (ST)
  | 0, _, _, _ => none
  | n + 1, x3, x5, σ => if 9 ≤ x5 then (f_X2_putNumber_54  x3 σ) else (if (lg_cmp (x3 &&& (-128)) 0) = 0 then (f_X2_putNumber_54  x3 σ) else ((f_X2_put  (((x3 &&& 127).toInt32) ||| 128) σ).bind fun q1 => (some ((x3.toUInt64 >>> ((7 : Int32).toInt64.toUInt64 &&& Int64.toUInt64 63)).toInt64)).bind fun x3 => f_X2_putNumber_12  n x3 (x5 + 1) q1))
def f_X2_putNumber (p0 : Int64) (σ : ST) : Option (ST) := (some ((p0 <<< ((1 : Int32).toInt64 &&& 63)) ^^^ (p0 >>> ((63 : Int32).toInt64 &&& 63)))).bind fun x1 => f_X2_putNumber_12  FU x1 0 σ

set_option maxRecDepth 100000 in
set_option maxHeartbeats 4000000 in
theorem b_X2_putNumber_54 {p : Program} {l : Launch} {e : Env} {s : State} {m : MethodId} {args : Array Value} {below : List Frame} {meth : Method} {c : Code} {dC : Nat → ClassId} {dI : Nat → Nat → Nat} {a : Nat → Nat} {k : Nat → ClassId} {A : Nat → Prop} {q : ST} (hC : CxA p s m args meth c dC dI k A cX2_putNumber RX2 none 6)   {x3 : Int64} {σ : ST} (h : f_X2_putNumber_54  x3 σ = some q) : GoA p l e ({ frames := 1, cells := 0, slots := 0, locals := 21 } : Room) s m args below meth c (MQ below (qAv dC dI a k A q) args s 0 0 A) dC dI a k A 6 54 σ [(0, .ref (a 87)), (3, .long x3)] [] := by
  have hC0 := hC
  obtain ⟨hx, hb, hr, hml, hown, hts, hlocks, hA, hN, hK⟩ := hC0
  intro H locs ls hP hD hS hl
  have hD0 : ∀ σ1 : ST, va_D A (wA a k σ1) := fun σ1 => wA_D hD
  unfold f_X2_putNumber_54 at h
  refine lv_aload_n hx hb dX2_putNumber_54 rfl (lv_at hl 0 rfl) ?_
  refine lv_lload_n hx hb dX2_putNumber_55 rfl (lv_at hl 1 rfl) ?_
  refine lv_l2i (v := x3.toInt32) hx hb dX2_putNumber_56 rfl ?_
  obtain ⟨q1, hc, h⟩ := ib h
  have hF := va_frees hD hS hA
  refine va_callv (va_runV (As := [.int (x3.toInt32)]) (rest := []) ⟨hx, hb, hml, hown, hts⟩ (s_X2_put hc) (cwV 1 hts (gV mw_6_20 mw_6_21 mw_6_22 mw_0_6 mw_48_18) rfl rfl rfl (by decide +kernel) ⟨(Nat.le_of_ble_eq_true rfl), (Nat.le_of_ble_eq_true rfl)⟩) (vV (ci := 2) (q0 := 87) hK hP hD hN rfl gA_87) rfl rfl hl.1 rfl (lv_room (Nat.le_of_ble_eq_true rfl)) dX2_putNumber_57 ⟨(Nat.le_of_ble_eq_true rfl), (Nat.le_of_ble_eq_true rfl)⟩) hS (fun q _ h => hF q h) hF (fun u t H locs ht hvm hw hB _ _ hS => ?_)
  replace hP : va_P (dC, dI) vwCl (wA a k q1) H := by rw [← ht]; exact hB.1
  replace hD := hD0 (q1)
  clear hB hF
  obtain rfl := Option.some.inj h
  exact W.vret hx hb hr (fun t ht hW => ⟨⟨(), rfl, trivial, ⟨by rw [ht]; exact hP, va_K.moved hW.alike hK, hD⟩⟩, hS.F ht⟩) hS.2.2 dX2_putNumber_60

set_option maxRecDepth 100000 in
set_option maxHeartbeats 4000000 in
theorem b_X2_putNumber_12 {p : Program} {l : Launch} {e : Env} {s : State} {m : MethodId} {args : Array Value} {below : List Frame} {meth : Method} {c : Code} {dC : Nat → ClassId} {dI : Nat → Nat → Nat} {a : Nat → Nat} {k : Nat → ClassId} {A : Nat → Prop} {q : ST} (hC : CxA p s m args meth c dC dI k A cX2_putNumber RX2 none 6)   : ∀ (n : Nat) (x3 : Int64) (x5 : Int32) (σ : ST), f_X2_putNumber_12  n x3 x5 σ = some q → GoA p l e ({ frames := 1, cells := 0, slots := 0, locals := 21 } : Room) s m args below meth c (MQ below (qAv dC dI a k A q) args s 0 0 A) dC dI a k A 6 12 σ [(0, .ref (a 87)), (3, .long x3), (5, .int x5)] [] := by
  intro n
  induction n with
  | zero =>
    intro x3 x5 σ h
    rw [f_X2_putNumber_12] at h
    cases h
  | succ n ih =>
    intro x3 x5 σ h
    have hC0 := hC
    obtain ⟨hx, hb, hr, hml, hown, hts, hlocks, hA, hN, hK⟩ := hC0
    intro H locs ls hP hD hS hl
    have hD0 : ∀ σ1 : ST, va_D A (wA a k σ1) := fun σ1 => wA_D hD
    rw [f_X2_putNumber_12] at h
    refine lv_iload hx hb dX2_putNumber_12 (lv_at hl 2 rfl) ?_
    refine lv_bipush (v := 9) hx hb dX2_putNumber_14 (by decide) ?_
    refine lv_icmp_ge (tgt := 54) hx hb dX2_putNumber_16 (by decide) (fun hc => ?_) (fun hc => ?_)
    · replace h := ip hc h
      exact b_X2_putNumber_54 hC h _ _ _ hP hD hS (lv_sub hl [0, 1] rfl)
    · replace h := iq hc h
      refine lv_lload_n hx hb dX2_putNumber_19 rfl (lv_at hl 1 rfl) ?_
      refine lv_ldc2 (v := (-128)) hx hb hown (hts (.constantLong RX2 107 (-128)) mw_6_28) dX2_putNumber_20 ?_
      refine lv_land hx hb dX2_putNumber_23 ?_
      refine lv_lconst (v := 0) hx hb dX2_putNumber_24 (by decide) ?_
      refine W.lcmp hx hb dX2_putNumber_25 ?_
      refine lv_if_eq (tgt := 54) hx hb dX2_putNumber_26 (by decide) (fun hc => ?_) (fun hc => ?_)
      · replace h := ip hc h
        exact b_X2_putNumber_54 hC h _ _ _ hP hD hS (lv_sub hl [0, 1] rfl)
      · replace h := iq hc h
        refine lv_aload_n hx hb dX2_putNumber_29 rfl (lv_at hl 0 rfl) ?_
        refine lv_lload_n hx hb dX2_putNumber_30 rfl (lv_at hl 1 rfl) ?_
        refine lv_ldc2 (v := 127) hx hb hown (hts (.constantLong RX2 109 (127)) mw_6_29) dX2_putNumber_31 ?_
        refine lv_land hx hb dX2_putNumber_34 ?_
        refine lv_l2i (v := (x3 &&& 127).toInt32) hx hb dX2_putNumber_35 rfl ?_
        refine lv_sipush (v := 128) hx hb dX2_putNumber_36 (by decide) ?_
        refine lv_ior hx hb dX2_putNumber_39 ?_
        obtain ⟨q1, hc, h⟩ := ib h
        have hF := va_frees hD hS hA
        refine va_callv (va_runV (As := [.int (((x3 &&& 127).toInt32) ||| 128)]) (rest := []) ⟨hx, hb, hml, hown, hts⟩ (s_X2_put hc) (cwV 1 hts (gV mw_6_20 mw_6_21 mw_6_22 mw_0_6 mw_48_18) rfl rfl rfl (by decide +kernel) ⟨(Nat.le_of_ble_eq_true rfl), (Nat.le_of_ble_eq_true rfl)⟩) (vV (ci := 2) (q0 := 87) hK hP hD hN rfl gA_87) rfl rfl hl.1 rfl (lv_room (Nat.le_of_ble_eq_true rfl)) dX2_putNumber_40 ⟨(Nat.le_of_ble_eq_true rfl), (Nat.le_of_ble_eq_true rfl)⟩) hS (fun q _ h => hF q h) hF (fun u t H locs ht hvm hw hB _ _ hS => ?_)
        replace hP : va_P (dC, dI) vwCl (wA a k q1) H := by rw [← ht]; exact hB.1
        replace hD := hD0 (q1)
        clear hB hF
        refine lv_lload_n hx hb dX2_putNumber_43 rfl (lv_at hl 1 rfl) ?_
        refine lv_bipush (v := 7) hx hb dX2_putNumber_44 (by decide) ?_
        refine lv_lushr (v := ((x3.toUInt64 >>> ((7 : Int32).toInt64.toUInt64 &&& Int64.toUInt64 63)).toInt64)) hx hb dX2_putNumber_46 rfl ?_
        obtain ⟨x3, hs, h⟩ := ib h
        replace hs := Option.some.inj hs
        refine lv_topl (fun y9 e9 => ?_)
        obtain rfl : x3 = y9 := (e9.trans hs).symm
        clear hs e9
        refine lv_lstore_n (lv' := [(3, .long x3), (0, .ref (a 87)), (5, .int x5)]) hx hb dX2_putNumber_47 rfl hl (by decide) rfl (fun ls hl => ?_)
        refine lv_iinc (v := (x5 + 1)) (lv' := [(5, .int (x5 + 1)), (3, .long x3), (0, .ref (a 87))]) hx hb dX2_putNumber_48 hl (k := 2) rfl rfl (by decide) rfl (fun ls hl => ?_)
        refine lv_goto (tgt := 12) hx hb dX2_putNumber_51 (by decide) ?_
        exact ih _ _ _ h _ _ _ hP hD hS (lv_sub hl [2, 1, 0] rfl)

set_option maxRecDepth 100000 in
set_option maxHeartbeats 4000000 in
theorem b_X2_putNumber_e {p : Program} {l : Launch} {e : Env} {s : State} {m : MethodId} {args : Array Value} {below : List Frame} {meth : Method} {c : Code} {dC : Nat → ClassId} {dI : Nat → Nat → Nat} {a : Nat → Nat} {k : Nat → ClassId} {A : Nat → Prop} {q : ST} (hC : CxA p s m args meth c dC dI k A cX2_putNumber RX2 none 6)   {p0 : Int64} {σ : ST} (h : f_X2_putNumber  p0 σ = some q) : GoA p l e ({ frames := 1, cells := 0, slots := 0, locals := 21 } : Room) s m args below meth c (MQ below (qAv dC dI a k A q) args s 0 0 A) dC dI a k A 6 0 σ (lv_args 0 [.ref (a 87), .long p0]) [] := by
  have hC0 := hC
  obtain ⟨hx, hb, hr, hml, hown, hts, hlocks, hA, hN, hK⟩ := hC0
  intro H locs ls hP hD hS hl
  have hD0 : ∀ σ1 : ST, va_D A (wA a k σ1) := fun σ1 => wA_D hD
  replace hl : lv_has ls 6 [(0, .ref (a 87)), (1, .long p0)] := hl
  unfold f_X2_putNumber at h
  refine lv_lload_n hx hb dX2_putNumber_0 rfl (lv_at hl 1 rfl) ?_
  refine lv_iconst (v := 1) hx hb dX2_putNumber_1 (by decide) ?_
  refine lv_lshl (v := (p0 <<< ((1 : Int32).toInt64 &&& 63))) hx hb dX2_putNumber_2 rfl ?_
  refine lv_lload_n hx hb dX2_putNumber_3 rfl (lv_at hl 1 rfl) ?_
  refine lv_bipush (v := 63) hx hb dX2_putNumber_4 (by decide) ?_
  refine lv_lshr (v := (p0 >>> ((63 : Int32).toInt64 &&& 63))) hx hb dX2_putNumber_6 rfl ?_
  refine lv_lxor hx hb dX2_putNumber_7 ?_
  obtain ⟨x1, hs, h⟩ := ib h
  replace hs := Option.some.inj hs
  refine lv_topl (fun y9 e9 => ?_)
  obtain rfl : x1 = y9 := (e9.trans hs).symm
  clear hs e9
  refine lv_lstore_n (lv' := [(3, .long x1), (0, .ref (a 87)), (1, .long p0)]) hx hb dX2_putNumber_8 rfl hl (by decide) rfl (fun ls hl => ?_)
  refine lv_iconst (v := 0) hx hb dX2_putNumber_9 (by decide) ?_
  refine lv_istore (lv' := [(5, .int 0), (3, .long x1), (0, .ref (a 87)), (1, .long p0)]) hx hb dX2_putNumber_10 hl (by decide) rfl (fun ls hl => ?_)
  exact b_X2_putNumber_12 hC FU _ _ _ h _ _ _ hP hD hS (lv_sub hl [2, 1, 0] rfl)

theorem s_X2_putNumber {l : Launch} {dC : Nat → ClassId} {dI : Nat → Nat → Nat} {a : Nat → Nat} {k : Nat → ClassId} {sz : Nat} {p0 : Int64} {σ : ST} {q : ST} (h : f_X2_putNumber  p0 σ = some q) : Met l yX2_putNumber (.code yX2_putNumber cX2_putNumber 6 none :: pw) ({ frames := 1, cells := 0, slots := 0, locals := 21 } : Room) (va_Pc [.ref (a 87), .long p0] (vPre dC dI (wA a k σ) (tA k) sz)) (qAv dC dI a k (va_A (wA a k σ) sz) q) 0 0 (va_A (wA a k σ) sz) := metA (fun A => qAv dC dI a k A q) (plainFor_of_name (by decide)) (Nat.le_of_ble_eq_true rfl) (fun _ _ _ _ _ _ _ _ hC => b_X2_putNumber_e hC h)

def f_X2_packBranch_56 (x3 : Int32) (x4 : Int32) (σ : ST) : Option (Int32 × ST) := (f_X2_putNumber  (x4.toInt64) σ).bind fun q1 => some (x3, q1)
def f_X2_packBranch_15  : Nat → Int32 → Int32 → Int32 → Int32 → ST → Option (Int32 × ST)
  | 0, _, _, _, _, _ => none
  | n + 1, x2, x3, x4, x5, σ => if 4 ≤ x5 then (f_X2_packBranch_56  x3 x4 σ) else (if x3 = (-1) then (f_X2_packBranch_56  x3 x4 σ) else ((f_X5_sortOf 4 x3 σ).bind fun q1 => if q1.1 = x2 then (f_X2_packBranch_56  x3 x4 q1.2) else ((f_X5_branchAfter 4 x3 q1.2).bind fun q3 => f_X2_packBranch_15  n x2 q3.1 (x4 + 1) (x5 + 1) q3.2)))
def f_X2_packBranch (p0 : Int32) (p1 : Int32) (σ : ST) : Option (Int32 × ST) := (f_X5_innerOf 4 p0 σ).bind fun q1 => f_X2_packBranch_15  FU p1 q1.1 0 0 q1.2

set_option maxRecDepth 100000 in
set_option maxHeartbeats 4000000 in
theorem b_X2_packBranch_56 {p : Program} {l : Launch} {e : Env} {s : State} {m : MethodId} {args : Array Value} {below : List Frame} {meth : Method} {c : Code} {dC : Nat → ClassId} {dI : Nat → Nat → Nat} {a : Nat → Nat} {k : Nat → ClassId} {A : Nat → Prop} {q : Int32 × ST} (hC : CxA p s m args meth c dC dI k A cX2_packBranch RX2 (some .int) 6)   {x3 : Int32} {x4 : Int32} {σ : ST} (h : f_X2_packBranch_56  x3 x4 σ = some q) : GoA p l e ({ frames := 2, cells := 0, slots := 0, locals := 46 } : Room) s m args below meth c (MQ below (qAi dC dI a k A q) args s 0 0 A) dC dI a k A 6 56 σ [(0, .ref (a 87)), (3, .int x3), (4, .int x4)] [] := by
  have hC0 := hC
  obtain ⟨hx, hb, hr, hml, hown, hts, hlocks, hA, hN, hK⟩ := hC0
  intro H locs ls hP hD hS hl
  have hD0 : ∀ σ1 : ST, va_D A (wA a k σ1) := fun σ1 => wA_D hD
  unfold f_X2_packBranch_56 at h
  refine lv_aload_n hx hb dX2_packBranch_56 rfl (lv_at hl 0 rfl) ?_
  refine lv_iload hx hb dX2_packBranch_57 (lv_at hl 2 rfl) ?_
  refine lv_i2l (v := x4.toInt64) hx hb dX2_packBranch_59 rfl ?_
  obtain ⟨q1, hc, h⟩ := ib h
  have hF := va_frees hD hS hA
  refine va_callv (va_runV (As := [.long (x4.toInt64)]) (rest := []) ⟨hx, hb, hml, hown, hts⟩ (s_X2_putNumber hc) (cwV 1 hts (gV mw_5_20 mw_5_21 mw_5_22 mw_0_6 mw_48_17) rfl rfl rfl (by decide +kernel) ⟨(Nat.le_of_ble_eq_true rfl), (Nat.le_of_ble_eq_true rfl)⟩) (vV (ci := 2) (q0 := 87) hK hP hD hN rfl gA_87) rfl rfl hl.1 rfl (lv_room (Nat.le_of_ble_eq_true rfl)) dX2_packBranch_60 ⟨(Nat.le_of_ble_eq_true rfl), (Nat.le_of_ble_eq_true rfl)⟩) hS (fun q _ h => hF q h) hF (fun u t H locs ht hvm hw hB _ _ hS => ?_)
  replace hP : va_P (dC, dI) vwCl (wA a k q1) H := by rw [← ht]; exact hB.1
  replace hD := hD0 (q1)
  clear hB hF
  refine lv_iload_n hx hb dX2_packBranch_63 rfl (lv_at hl 1 rfl) ?_
  obtain rfl := Option.some.inj h
  exact W.iret hx hb hr (fun t ht hW => ⟨⟨_, (), rfl, rfl, ⟨by rw [ht]; exact hP, va_K.moved hW.alike hK, hD⟩⟩, hS.F ht⟩) hS.2.2 dX2_packBranch_64

set_option maxRecDepth 100000 in
set_option maxHeartbeats 4000000 in
theorem b_X2_packBranch_15 {p : Program} {l : Launch} {e : Env} {s : State} {m : MethodId} {args : Array Value} {below : List Frame} {meth : Method} {c : Code} {dC : Nat → ClassId} {dI : Nat → Nat → Nat} {a : Nat → Nat} {k : Nat → ClassId} {A : Nat → Prop} {q : Int32 × ST} (hC : CxA p s m args meth c dC dI k A cX2_packBranch RX2 (some .int) 6)   : ∀ (n : Nat) (x2 : Int32) (x3 : Int32) (x4 : Int32) (x5 : Int32) (σ : ST), f_X2_packBranch_15  n x2 x3 x4 x5 σ = some q → GoA p l e ({ frames := 2, cells := 0, slots := 0, locals := 46 } : Room) s m args below meth c (MQ below (qAi dC dI a k A q) args s 0 0 A) dC dI a k A 6 15 σ [(0, .ref (a 87)), (2, .int x2), (3, .int x3), (4, .int x4), (5, .int x5)] [] := by
  intro n
  induction n with
  | zero =>
    intro x2 x3 x4 x5 σ h
    rw [f_X2_packBranch_15] at h
    cases h
  | succ n ih =>
    intro x2 x3 x4 x5 σ h
    have hC0 := hC
    obtain ⟨hx, hb, hr, hml, hown, hts, hlocks, hA, hN, hK⟩ := hC0
    intro H locs ls hP hD hS hl
    have hD0 : ∀ σ1 : ST, va_D A (wA a k σ1) := fun σ1 => wA_D hD
    rw [f_X2_packBranch_15] at h
    refine lv_iload hx hb dX2_packBranch_15 (lv_at hl 4 rfl) ?_
    refine lv_iconst (v := 4) hx hb dX2_packBranch_17 (by decide) ?_
    refine lv_icmp_ge (tgt := 56) hx hb dX2_packBranch_18 (by decide) (fun hc => ?_) (fun hc => ?_)
    · replace h := ip hc h
      exact b_X2_packBranch_56 hC h _ _ _ hP hD hS (lv_sub hl [0, 2, 3] rfl)
    · replace h := iq hc h
      refine lv_iload_n hx hb dX2_packBranch_21 rfl (lv_at hl 2 rfl) ?_
      refine lv_iconst (v := (-1)) hx hb dX2_packBranch_22 (by decide) ?_
      refine lv_icmp_eq (tgt := 56) hx hb dX2_packBranch_23 (by decide) (fun hc => ?_) (fun hc => ?_)
      · replace h := ip hc h
        exact b_X2_packBranch_56 hC h _ _ _ hP hD hS (lv_sub hl [0, 2, 3] rfl)
      · replace h := iq hc h
        refine lv_aload_n hx hb dX2_packBranch_26 rfl (lv_at hl 0 rfl) ?_
        refine va_get (D := (dC, dI)) (ci := 2) (C := RX2) (T := TX2) (N := 3) hx hb hts inlX2 hown hK hP 87 gA_87 rfl 0 (by decide) (hts (.fieldLink RX2 19 "ShapeReader$Packer" "shapes" "LShapeReader$Shapes;") mw_5_2) (fun _ h9 => h9) rfl dX2_packBranch_27 ?_
        refine lv_iload_n hx hb dX2_packBranch_30 rfl (lv_at hl 2 rfl) ?_
        obtain ⟨q1, hc, h⟩ := ib h
        have hF := va_frees hD hS hA
        refine va_calli (va_runV (As := [.int x3]) (rest := []) ⟨hx, hb, hml, hown, hts⟩ (s_X5_sortOf_4 hc) (cwV 1 hts (gV mw_5_9 mw_2_13 mw_2_14 mw_0_9 mw_50_6) rfl rfl rfl (by decide +kernel) ⟨(Nat.le_of_ble_eq_true rfl), (Nat.le_of_ble_eq_true rfl)⟩) (vV (ci := 5) (q0 := 4) hK hP hD hN rfl gA_4) rfl rfl hl.1 rfl (lv_room (Nat.le_of_ble_eq_true rfl)) dX2_packBranch_31 ⟨(Nat.le_of_ble_eq_true rfl), (Nat.le_of_ble_eq_true rfl)⟩) hS (fun q _ h => hF q h) hF (fun r2 u t H locs ht hvm hw hB _ _ hS => ?_)
        obtain rfl : r2 = q1.1 := hw
        replace hP : va_P (dC, dI) vwCl (wA a k q1.2) H := by rw [← ht]; exact hB.1
        replace hD := hD0 (q1.2)
        clear hB hF
        refine lv_iload_n hx hb dX2_packBranch_34 rfl (lv_at hl 1 rfl) ?_
        refine lv_icmp_eq (tgt := 56) hx hb dX2_packBranch_35 (by decide) (fun hc => ?_) (fun hc => ?_)
        · replace h := ip hc h
          exact b_X2_packBranch_56 hC h _ _ _ hP hD hS (lv_sub hl [0, 2, 3] rfl)
        · replace h := iq hc h
          refine lv_aload_n hx hb dX2_packBranch_38 rfl (lv_at hl 0 rfl) ?_
          refine va_get (D := (dC, dI)) (ci := 2) (C := RX2) (T := TX2) (N := 3) hx hb hts inlX2 hown hK hP 87 gA_87 rfl 0 (by decide) (hts (.fieldLink RX2 19 "ShapeReader$Packer" "shapes" "LShapeReader$Shapes;") mw_5_2) (fun _ h9 => h9) rfl dX2_packBranch_39 ?_
          refine lv_iload_n hx hb dX2_packBranch_42 rfl (lv_at hl 2 rfl) ?_
          obtain ⟨q3, hc, h⟩ := ib h
          have hF := va_frees hD hS hA
          refine va_calli (va_runV (As := [.int x3]) (rest := []) ⟨hx, hb, hml, hown, hts⟩ (s_X5_branchAfter_4 hc) (cwV 1 hts (gV mw_6_5 mw_2_19 mw_2_20 mw_0_9 mw_50_8) rfl rfl rfl (by decide +kernel) ⟨(Nat.le_of_ble_eq_true rfl), (Nat.le_of_ble_eq_true rfl)⟩) (vV (ci := 5) (q0 := 4) hK hP hD hN rfl gA_4) rfl rfl hl.1 rfl (lv_room (Nat.le_of_ble_eq_true rfl)) dX2_packBranch_43 ⟨(Nat.le_of_ble_eq_true rfl), (Nat.le_of_ble_eq_true rfl)⟩) hS (fun q _ h => hF q h) hF (fun r4 u t H locs ht hvm hw hB _ _ hS => ?_)
          obtain rfl : r4 = q3.1 := hw
          replace hP : va_P (dC, dI) vwCl (wA a k q3.2) H := by rw [← ht]; exact hB.1
          replace hD := hD0 (q3.2)
          clear hB hF
          refine lv_istore_n (lv' := [(3, .int q3.1), (0, .ref (a 87)), (2, .int x2), (4, .int x4), (5, .int x5)]) hx hb dX2_packBranch_46 rfl hl (by decide) rfl (fun ls hl => ?_)
          refine lv_iinc (v := (x4 + 1)) (lv' := [(4, .int (x4 + 1)), (3, .int q3.1), (0, .ref (a 87)), (2, .int x2), (5, .int x5)]) hx hb dX2_packBranch_47 hl (k := 3) rfl rfl (by decide) rfl (fun ls hl => ?_)
          refine lv_iinc (v := (x5 + 1)) (lv' := [(5, .int (x5 + 1)), (4, .int (x4 + 1)), (3, .int q3.1), (0, .ref (a 87)), (2, .int x2)]) hx hb dX2_packBranch_50 hl (k := 4) rfl rfl (by decide) rfl (fun ls hl => ?_)
          refine lv_goto (tgt := 15) hx hb dX2_packBranch_53 (by decide) ?_
          exact ih _ _ _ _ _ h _ _ _ hP hD hS (lv_sub hl [3, 4, 2, 1, 0] rfl)

set_option maxRecDepth 100000 in
set_option maxHeartbeats 4000000 in
theorem b_X2_packBranch_e {p : Program} {l : Launch} {e : Env} {s : State} {m : MethodId} {args : Array Value} {below : List Frame} {meth : Method} {c : Code} {dC : Nat → ClassId} {dI : Nat → Nat → Nat} {a : Nat → Nat} {k : Nat → ClassId} {A : Nat → Prop} {q : Int32 × ST} (hC : CxA p s m args meth c dC dI k A cX2_packBranch RX2 (some .int) 6)   {p0 : Int32} {p1 : Int32} {σ : ST} (h : f_X2_packBranch  p0 p1 σ = some q) : GoA p l e ({ frames := 2, cells := 0, slots := 0, locals := 46 } : Room) s m args below meth c (MQ below (qAi dC dI a k A q) args s 0 0 A) dC dI a k A 6 0 σ (lv_args 0 [.ref (a 87), .int p0, .int p1]) [] := by
  have hC0 := hC
  obtain ⟨hx, hb, hr, hml, hown, hts, hlocks, hA, hN, hK⟩ := hC0
  intro H locs ls hP hD hS hl
  have hD0 : ∀ σ1 : ST, va_D A (wA a k σ1) := fun σ1 => wA_D hD
  replace hl : lv_has ls 6 [(0, .ref (a 87)), (1, .int p0), (2, .int p1)] := hl
  unfold f_X2_packBranch at h
  refine lv_aload_n hx hb dX2_packBranch_0 rfl (lv_at hl 0 rfl) ?_
  refine va_get (D := (dC, dI)) (ci := 2) (C := RX2) (T := TX2) (N := 3) hx hb hts inlX2 hown hK hP 87 gA_87 rfl 0 (by decide) (hts (.fieldLink RX2 19 "ShapeReader$Packer" "shapes" "LShapeReader$Shapes;") mw_5_2) (fun _ h9 => h9) rfl dX2_packBranch_1 ?_
  refine lv_iload_n hx hb dX2_packBranch_4 rfl (lv_at hl 1 rfl) ?_
  obtain ⟨q1, hc, h⟩ := ib h
  have hF := va_frees hD hS hA
  refine va_calli (va_runV (As := [.int p0]) (rest := []) ⟨hx, hb, hml, hown, hts⟩ (s_X5_innerOf_4 hc) (cwV 1 hts (gV mw_5_13 mw_2_16 mw_2_17 mw_0_9 mw_50_7) rfl rfl rfl (by decide +kernel) ⟨(Nat.le_of_ble_eq_true rfl), (Nat.le_of_ble_eq_true rfl)⟩) (vV (ci := 5) (q0 := 4) hK hP hD hN rfl gA_4) rfl rfl hl.1 rfl (lv_room (Nat.le_of_ble_eq_true rfl)) dX2_packBranch_5 ⟨(Nat.le_of_ble_eq_true rfl), (Nat.le_of_ble_eq_true rfl)⟩) hS (fun q _ h => hF q h) hF (fun r2 u t H locs ht hvm hw hB _ _ hS => ?_)
  obtain rfl : r2 = q1.1 := hw
  replace hP : va_P (dC, dI) vwCl (wA a k q1.2) H := by rw [← ht]; exact hB.1
  replace hD := hD0 (q1.2)
  clear hB hF
  refine lv_istore_n (lv' := [(3, .int q1.1), (0, .ref (a 87)), (1, .int p0), (2, .int p1)]) hx hb dX2_packBranch_8 rfl hl (by decide) rfl (fun ls hl => ?_)
  refine lv_iconst (v := 0) hx hb dX2_packBranch_9 (by decide) ?_
  refine lv_istore (lv' := [(4, .int 0), (3, .int q1.1), (0, .ref (a 87)), (1, .int p0), (2, .int p1)]) hx hb dX2_packBranch_10 hl (by decide) rfl (fun ls hl => ?_)
  refine lv_iconst (v := 0) hx hb dX2_packBranch_12 (by decide) ?_
  refine lv_istore (lv' := [(5, .int 0), (4, .int 0), (3, .int q1.1), (0, .ref (a 87)), (1, .int p0), (2, .int p1)]) hx hb dX2_packBranch_13 hl (by decide) rfl (fun ls hl => ?_)
  exact b_X2_packBranch_15 hC FU _ _ _ _ _ h _ _ _ hP hD hS (lv_sub hl [3, 5, 2, 1, 0] rfl)

theorem s_X2_packBranch {l : Launch} {dC : Nat → ClassId} {dI : Nat → Nat → Nat} {a : Nat → Nat} {k : Nat → ClassId} {sz : Nat} {p0 : Int32} {p1 : Int32} {σ : ST} {q : Int32 × ST} (h : f_X2_packBranch  p0 p1 σ = some q) : Met l yX2_packBranch (.code yX2_packBranch cX2_packBranch 6 (some .int) :: pw) ({ frames := 2, cells := 0, slots := 0, locals := 46 } : Room) (va_Pc [.ref (a 87), .int p0, .int p1] (vPre dC dI (wA a k σ) (tA k) sz)) (qAi dC dI a k (va_A (wA a k σ) sz) q) 0 0 (va_A (wA a k σ) sz) := metA (fun A => qAi dC dI a k A q) (plainFor_of_name (by decide)) (Nat.le_of_ble_eq_true rfl) (fun _ _ _ _ _ _ _ _ hC => b_X2_packBranch_e hC h)

def f_X2_packLetters_14  : Nat → Int64 → Int32 → Int32 → ST → Option (ST)
  | 0, _, _, _, _ => none
  | n + 1, x1, x3, x4, σ => if x3 ≤ x4 then (some σ) else ((f_X10_letterOf  x1 x4 σ).bind fun q1 => (f_X2_put  (96 + q1.1) q1.2).bind fun q3 => f_X2_packLetters_14  n x1 x3 (x4 + 1) q3)
def f_X2_packLetters (p0 : Int64) (σ : ST) : Option (ST) := (f_X10_lettersIn  p0 σ).bind fun q1 => (f_X2_putNumber  (q1.1.toInt64) q1.2).bind fun q3 => f_X2_packLetters_14  FU p0 q1.1 0 q3

set_option maxRecDepth 100000 in
set_option maxHeartbeats 4000000 in
theorem b_X2_packLetters_14 {p : Program} {l : Launch} {e : Env} {s : State} {m : MethodId} {args : Array Value} {below : List Frame} {meth : Method} {c : Code} {dC : Nat → ClassId} {dI : Nat → Nat → Nat} {a : Nat → Nat} {k : Nat → ClassId} {A : Nat → Prop} {q : ST} (hC : CxA p s m args meth c dC dI k A cX2_packLetters RX2 none 5)   : ∀ (n : Nat) (x1 : Int64) (x3 : Int32) (x4 : Int32) (σ : ST), f_X2_packLetters_14  n x1 x3 x4 σ = some q → GoA p l e ({ frames := 2, cells := 0, slots := 0, locals := 46 } : Room) s m args below meth c (MQ below (qAv dC dI a k A q) args s 0 0 A) dC dI a k A 5 14 σ [(0, .ref (a 87)), (1, .long x1), (3, .int x3), (4, .int x4)] [] := by
  intro n
  induction n with
  | zero =>
    intro x1 x3 x4 σ h
    rw [f_X2_packLetters_14] at h
    cases h
  | succ n ih =>
    intro x1 x3 x4 σ h
    have hC0 := hC
    obtain ⟨hx, hb, hr, hml, hown, hts, hlocks, hA, hN, hK⟩ := hC0
    intro H locs ls hP hD hS hl
    have hD0 : ∀ σ1 : ST, va_D A (wA a k σ1) := fun σ1 => wA_D hD
    rw [f_X2_packLetters_14] at h
    refine lv_iload hx hb dX2_packLetters_14 (lv_at hl 3 rfl) ?_
    refine lv_iload_n hx hb dX2_packLetters_16 rfl (lv_at hl 2 rfl) ?_
    refine lv_icmp_ge (tgt := 39) hx hb dX2_packLetters_17 (by decide) (fun hc => ?_) (fun hc => ?_)
    · replace h := ip hc h
      obtain rfl := Option.some.inj h
      exact W.vret hx hb hr (fun t ht hW => ⟨⟨(), rfl, trivial, ⟨by rw [ht]; exact hP, va_K.moved hW.alike hK, hD⟩⟩, hS.F ht⟩) hS.2.2 dX2_packLetters_39
    · replace h := iq hc h
      refine lv_aload_n hx hb dX2_packLetters_20 rfl (lv_at hl 0 rfl) ?_
      refine lv_bipush (v := 96) hx hb dX2_packLetters_21 (by decide) ?_
      refine lv_lload_n hx hb dX2_packLetters_23 rfl (lv_at hl 1 rfl) ?_
      refine lv_iload hx hb dX2_packLetters_24 (lv_at hl 3 rfl) ?_
      obtain ⟨q1, hc, h⟩ := ib h
      have hF := va_frees hD hS hA
      refine va_calli (va_runSN (As := [.long x1, .int x4]) (rest := [.int 96, .ref (a 87)]) ⟨hx, hb, hml, hown, hts⟩ (s_X10_letterOf hc) ⟨va_cnB 2 hts (gI mw_53_20) rfl rfl rfl (hN _ (List.mem_of_getElem? (i := 6) rfl)) (hts (.initialized RX10) mw_0_14) (by decide +kernel) ⟨(Nat.le_of_ble_eq_true rfl), (Nat.le_of_ble_eq_true rfl)⟩, (hts (.static yX10_letterOf) mw_6_27), trivial⟩ (vS hK hP hD hN) rfl rfl hl.1 rfl (lv_room (Nat.le_of_ble_eq_true rfl)) dX2_packLetters_26 ⟨(Nat.le_of_ble_eq_true rfl), (Nat.le_of_ble_eq_true rfl)⟩) hS (fun q _ h => hF q h) hF (fun r2 u t H locs ht hvm hw hB _ _ hS => ?_)
      obtain rfl : r2 = q1.1 := hw
      replace hP : va_P (dC, dI) vwCl (wA a k q1.2) H := by rw [← ht]; exact hB.1
      replace hD := hD0 (q1.2)
      clear hB hF
      refine lv_iadd hx hb dX2_packLetters_29 ?_
      obtain ⟨q3, hc, h⟩ := ib h
      have hF := va_frees hD hS hA
      refine va_callv (va_runV (As := [.int (96 + q1.1)]) (rest := []) ⟨hx, hb, hml, hown, hts⟩ (s_X2_put hc) (cwV 1 hts (gV mw_6_20 mw_6_21 mw_6_22 mw_0_6 mw_48_18) rfl rfl rfl (by decide +kernel) ⟨(Nat.le_of_ble_eq_true rfl), (Nat.le_of_ble_eq_true rfl)⟩) (vV (ci := 2) (q0 := 87) hK hP hD hN rfl gA_87) rfl rfl hl.1 rfl (lv_room (Nat.le_of_ble_eq_true rfl)) dX2_packLetters_30 ⟨(Nat.le_of_ble_eq_true rfl), (Nat.le_of_ble_eq_true rfl)⟩) hS (fun q _ h => hF q h) hF (fun u t H locs ht hvm hw hB _ _ hS => ?_)
      replace hP : va_P (dC, dI) vwCl (wA a k q3) H := by rw [← ht]; exact hB.1
      replace hD := hD0 (q3)
      clear hB hF
      refine lv_iinc (v := (x4 + 1)) (lv' := [(4, .int (x4 + 1)), (0, .ref (a 87)), (1, .long x1), (3, .int x3)]) hx hb dX2_packLetters_33 hl (k := 3) rfl rfl (by decide) rfl (fun ls hl => ?_)
      refine lv_goto (tgt := 14) hx hb dX2_packLetters_36 (by decide) ?_
      exact ih _ _ _ _ h _ _ _ hP hD hS (lv_sub hl [1, 2, 3, 0] rfl)

set_option maxRecDepth 100000 in
set_option maxHeartbeats 4000000 in
theorem b_X2_packLetters_e {p : Program} {l : Launch} {e : Env} {s : State} {m : MethodId} {args : Array Value} {below : List Frame} {meth : Method} {c : Code} {dC : Nat → ClassId} {dI : Nat → Nat → Nat} {a : Nat → Nat} {k : Nat → ClassId} {A : Nat → Prop} {q : ST} (hC : CxA p s m args meth c dC dI k A cX2_packLetters RX2 none 5)   {p0 : Int64} {σ : ST} (h : f_X2_packLetters  p0 σ = some q) : GoA p l e ({ frames := 2, cells := 0, slots := 0, locals := 46 } : Room) s m args below meth c (MQ below (qAv dC dI a k A q) args s 0 0 A) dC dI a k A 5 0 σ (lv_args 0 [.ref (a 87), .long p0]) [] := by
  have hC0 := hC
  obtain ⟨hx, hb, hr, hml, hown, hts, hlocks, hA, hN, hK⟩ := hC0
  intro H locs ls hP hD hS hl
  have hD0 : ∀ σ1 : ST, va_D A (wA a k σ1) := fun σ1 => wA_D hD
  replace hl : lv_has ls 5 [(0, .ref (a 87)), (1, .long p0)] := hl
  unfold f_X2_packLetters at h
  refine lv_lload_n hx hb dX2_packLetters_0 rfl (lv_at hl 1 rfl) ?_
  obtain ⟨q1, hc, h⟩ := ib h
  have hF := va_frees hD hS hA
  refine va_calli (va_runSN (As := [.long p0]) (rest := []) ⟨hx, hb, hml, hown, hts⟩ (s_X10_lettersIn hc) ⟨va_cnB 1 hts (gI mw_53_21) rfl rfl rfl (hN _ (List.mem_of_getElem? (i := 5) rfl)) (hts (.initialized RX10) mw_0_14) (by decide +kernel) ⟨(Nat.le_of_ble_eq_true rfl), (Nat.le_of_ble_eq_true rfl)⟩, (hts (.static yX10_lettersIn) mw_6_26), trivial⟩ (vS hK hP hD hN) rfl rfl hl.1 rfl (lv_room (Nat.le_of_ble_eq_true rfl)) dX2_packLetters_1 ⟨(Nat.le_of_ble_eq_true rfl), (Nat.le_of_ble_eq_true rfl)⟩) hS (fun q _ h => hF q h) hF (fun r2 u t H locs ht hvm hw hB _ _ hS => ?_)
  obtain rfl : r2 = q1.1 := hw
  replace hP : va_P (dC, dI) vwCl (wA a k q1.2) H := by rw [← ht]; exact hB.1
  replace hD := hD0 (q1.2)
  clear hB hF
  refine lv_istore_n (lv' := [(3, .int q1.1), (0, .ref (a 87)), (1, .long p0)]) hx hb dX2_packLetters_4 rfl hl (by decide) rfl (fun ls hl => ?_)
  refine lv_aload_n hx hb dX2_packLetters_5 rfl (lv_at hl 1 rfl) ?_
  refine lv_iload_n hx hb dX2_packLetters_6 rfl (lv_at hl 0 rfl) ?_
  refine lv_i2l (v := q1.1.toInt64) hx hb dX2_packLetters_7 rfl ?_
  obtain ⟨q3, hc, h⟩ := ib h
  have hF := va_frees hD hS hA
  refine va_callv (va_runV (As := [.long (q1.1.toInt64)]) (rest := []) ⟨hx, hb, hml, hown, hts⟩ (s_X2_putNumber hc) (cwV 1 hts (gV mw_5_20 mw_5_21 mw_5_22 mw_0_6 mw_48_17) rfl rfl rfl (by decide +kernel) ⟨(Nat.le_of_ble_eq_true rfl), (Nat.le_of_ble_eq_true rfl)⟩) (vV (ci := 2) (q0 := 87) hK hP hD hN rfl gA_87) rfl rfl hl.1 rfl (lv_room (Nat.le_of_ble_eq_true rfl)) dX2_packLetters_8 ⟨(Nat.le_of_ble_eq_true rfl), (Nat.le_of_ble_eq_true rfl)⟩) hS (fun q _ h => hF q h) hF (fun u t H locs ht hvm hw hB _ _ hS => ?_)
  replace hP : va_P (dC, dI) vwCl (wA a k q3) H := by rw [← ht]; exact hB.1
  replace hD := hD0 (q3)
  clear hB hF
  refine lv_iconst (v := 0) hx hb dX2_packLetters_11 (by decide) ?_
  refine lv_istore (lv' := [(4, .int 0), (3, .int q1.1), (0, .ref (a 87)), (1, .long p0)]) hx hb dX2_packLetters_12 hl (by decide) rfl (fun ls hl => ?_)
  exact b_X2_packLetters_14 hC FU _ _ _ _ h _ _ _ hP hD hS (lv_sub hl [2, 3, 1, 0] rfl)

theorem s_X2_packLetters {l : Launch} {dC : Nat → ClassId} {dI : Nat → Nat → Nat} {a : Nat → Nat} {k : Nat → ClassId} {sz : Nat} {p0 : Int64} {σ : ST} {q : ST} (h : f_X2_packLetters  p0 σ = some q) : Met l yX2_packLetters (.code yX2_packLetters cX2_packLetters 5 none :: pw) ({ frames := 2, cells := 0, slots := 0, locals := 46 } : Room) (va_Pc [.ref (a 87), .long p0] (vPre dC dI (wA a k σ) (tA k) sz)) (qAv dC dI a k (va_A (wA a k σ) sz) q) 0 0 (va_A (wA a k σ) sz) := metA (fun A => qAv dC dI a k A q) (plainFor_of_name (by decide)) (Nat.le_of_ble_eq_true rfl) (fun _ _ _ _ _ _ _ _ hC => b_X2_packLetters_e hC h)

def f_X2_packPlain_61  : Nat → Int64 → Int32 → ST → Option (ST)
  | 0, _, _, _ => none
  | n + 1, x2, x4, σ => if x4 < 0 then (some σ) else ((f_X2_put  ((x2 >>> (x4.toInt64 &&& 63)).toInt32) σ).bind fun q1 => f_X2_packPlain_61  n x2 (x4 + (-8)) q1)
def f_X2_packPlain (p0 : Int32) (p1 : Int64) (σ : ST) : Option (ST) := if p0 = 1 then ((f_X2_put  (p1.toInt32) σ).bind fun q7 => some q7) else (if p0 = 2 then ((f_X2_putNumber  p1 σ).bind fun q9 => some q9) else (if p0 = 3 then ((f_X2_putNumber  p1 σ).bind fun q11 => some q11) else (if p0 = 4 then (f_X2_packPlain_61  FU p1 56 σ) else (if p0 = 5 then ((f_X2_packLetters  p1 σ).bind fun q13 => some q13) else (if p0 = 6 then ((f_X2_putNumber  0 σ).bind fun q15 => some q15) else (some σ))))))

set_option maxRecDepth 100000 in
set_option maxHeartbeats 4000000 in
theorem b_X2_packPlain_61 {p : Program} {l : Launch} {e : Env} {s : State} {m : MethodId} {args : Array Value} {below : List Frame} {meth : Method} {c : Code} {dC : Nat → ClassId} {dI : Nat → Nat → Nat} {a : Nat → Nat} {k : Nat → ClassId} {A : Nat → Prop} {q : ST} (hC : CxA p s m args meth c dC dI k A cX2_packPlain RX2 none 5)   : ∀ (n : Nat) (x2 : Int64) (x4 : Int32) (σ : ST), f_X2_packPlain_61  n x2 x4 σ = some q → GoA p l e ({ frames := 3, cells := 0, slots := 0, locals := 70 } : Room) s m args below meth c (MQ below (qAv dC dI a k A q) args s 0 0 A) dC dI a k A 5 61 σ [(0, .ref (a 87)), (2, .long x2), (4, .int x4)] [] := by
  intro n
  induction n with
  | zero =>
    intro x2 x4 σ h
    rw [f_X2_packPlain_61] at h
    cases h
  | succ n ih =>
    intro x2 x4 σ h
    have hC0 := hC
    obtain ⟨hx, hb, hr, hml, hown, hts, hlocks, hA, hN, hK⟩ := hC0
    intro H locs ls hP hD hS hl
    have hD0 : ∀ σ1 : ST, va_D A (wA a k σ1) := fun σ1 => wA_D hD
    rw [f_X2_packPlain_61] at h
    refine lv_iload hx hb dX2_packPlain_61 (lv_at hl 2 rfl) ?_
    refine lv_if_lt (tgt := 81) hx hb dX2_packPlain_63 (by decide) (fun hc => ?_) (fun hc => ?_)
    · replace h := ip hc h
      refine lv_goto (tgt := 100) hx hb dX2_packPlain_81 (by decide) ?_
      obtain rfl := Option.some.inj h
      exact W.vret hx hb hr (fun t ht hW => ⟨⟨(), rfl, trivial, ⟨by rw [ht]; exact hP, va_K.moved hW.alike hK, hD⟩⟩, hS.F ht⟩) hS.2.2 dX2_packPlain_100
    · replace h := iq hc h
      refine lv_aload_n hx hb dX2_packPlain_66 rfl (lv_at hl 0 rfl) ?_
      refine lv_lload_n hx hb dX2_packPlain_67 rfl (lv_at hl 1 rfl) ?_
      refine lv_iload hx hb dX2_packPlain_68 (lv_at hl 2 rfl) ?_
      refine lv_lshr (v := (x2 >>> (x4.toInt64 &&& 63))) hx hb dX2_packPlain_70 rfl ?_
      refine lv_l2i (v := (x2 >>> (x4.toInt64 &&& 63)).toInt32) hx hb dX2_packPlain_71 rfl ?_
      obtain ⟨q1, hc, h⟩ := ib h
      have hF := va_frees hD hS hA
      refine va_callv (va_runV (As := [.int ((x2 >>> (x4.toInt64 &&& 63)).toInt32)]) (rest := []) ⟨hx, hb, hml, hown, hts⟩ (s_X2_put hc) (cwV 1 hts (gV mw_6_20 mw_6_21 mw_6_22 mw_0_6 mw_48_18) rfl rfl rfl (by decide +kernel) ⟨(Nat.le_of_ble_eq_true rfl), (Nat.le_of_ble_eq_true rfl)⟩) (vV (ci := 2) (q0 := 87) hK hP hD hN rfl gA_87) rfl rfl hl.1 rfl (lv_room (Nat.le_of_ble_eq_true rfl)) dX2_packPlain_72 ⟨(Nat.le_of_ble_eq_true rfl), (Nat.le_of_ble_eq_true rfl)⟩) hS (fun q _ h => hF q h) hF (fun u t H locs ht hvm hw hB _ _ hS => ?_)
      replace hP : va_P (dC, dI) vwCl (wA a k q1) H := by rw [← ht]; exact hB.1
      replace hD := hD0 (q1)
      clear hB hF
      refine lv_iinc (v := (x4 + (-8))) (lv' := [(4, .int (x4 + (-8))), (0, .ref (a 87)), (2, .long x2)]) hx hb dX2_packPlain_75 hl (k := 2) rfl rfl (by decide) rfl (fun ls hl => ?_)
      refine lv_goto (tgt := 61) hx hb dX2_packPlain_78 (by decide) ?_
      exact ih _ _ _ h _ _ _ hP hD hS (lv_sub hl [1, 2, 0] rfl)

set_option maxRecDepth 100000 in
set_option maxHeartbeats 4000000 in
theorem b_X2_packPlain_e {p : Program} {l : Launch} {e : Env} {s : State} {m : MethodId} {args : Array Value} {below : List Frame} {meth : Method} {c : Code} {dC : Nat → ClassId} {dI : Nat → Nat → Nat} {a : Nat → Nat} {k : Nat → ClassId} {A : Nat → Prop} {q : ST} (hC : CxA p s m args meth c dC dI k A cX2_packPlain RX2 none 5)   {p0 : Int32} {p1 : Int64} {σ : ST} (h : f_X2_packPlain  p0 p1 σ = some q) : GoA p l e ({ frames := 3, cells := 0, slots := 0, locals := 70 } : Room) s m args below meth c (MQ below (qAv dC dI a k A q) args s 0 0 A) dC dI a k A 5 0 σ (lv_args 0 [.ref (a 87), .int p0, .long p1]) [] := by
  have hC0 := hC
  obtain ⟨hx, hb, hr, hml, hown, hts, hlocks, hA, hN, hK⟩ := hC0
  intro H locs ls hP hD hS hl
  have hD0 : ∀ σ1 : ST, va_D A (wA a k σ1) := fun σ1 => wA_D hD
  replace hl : lv_has ls 5 [(0, .ref (a 87)), (1, .int p0), (2, .long p1)] := hl
  unfold f_X2_packPlain at h
  refine lv_iload_n hx hb dX2_packPlain_0 rfl (lv_at hl 1 rfl) ?_
  rcases (il_sw6 p0 (1) (2) (3) (4) (5) (6)) with s1 | s2 | s3 | s4 | s5 | s6 | ⟨s1, s2, s3, s4, s5, s6⟩
  · replace h := ip s1 h
    refine lv_tableIn (off := 39) (tgt := 40) hx hb dX2_packPlain_1 (by rw [s1]; decide) (by rw [s1]; decide) (by rw [s1]; rfl) (by decide) ?_
    refine lv_aload_n hx hb dX2_packPlain_40 rfl (lv_at hl 0 rfl) ?_
    refine lv_lload_n hx hb dX2_packPlain_41 rfl (lv_at hl 2 rfl) ?_
    refine lv_l2i (v := p1.toInt32) hx hb dX2_packPlain_42 rfl ?_
    obtain ⟨q7, hc, h⟩ := ib h
    have hF := va_frees hD hS hA
    refine va_callv (va_runV (As := [.int (p1.toInt32)]) (rest := []) ⟨hx, hb, hml, hown, hts⟩ (s_X2_put hc) (cwV 1 hts (gV mw_6_20 mw_6_21 mw_6_22 mw_0_6 mw_48_18) rfl rfl rfl (by decide +kernel) ⟨(Nat.le_of_ble_eq_true rfl), (Nat.le_of_ble_eq_true rfl)⟩) (vV (ci := 2) (q0 := 87) hK hP hD hN rfl gA_87) rfl rfl hl.1 rfl (lv_room (Nat.le_of_ble_eq_true rfl)) dX2_packPlain_43 ⟨(Nat.le_of_ble_eq_true rfl), (Nat.le_of_ble_eq_true rfl)⟩) hS (fun q _ h => hF q h) hF (fun u t H locs ht hvm hw hB _ _ hS => ?_)
    replace hP : va_P (dC, dI) vwCl (wA a k q7) H := by rw [← ht]; exact hB.1
    replace hD := hD0 (q7)
    clear hB hF
    refine lv_goto (tgt := 100) hx hb dX2_packPlain_46 (by decide) ?_
    obtain rfl := Option.some.inj h
    exact W.vret hx hb hr (fun t ht hW => ⟨⟨(), rfl, trivial, ⟨by rw [ht]; exact hP, va_K.moved hW.alike hK, hD⟩⟩, hS.F ht⟩) hS.2.2 dX2_packPlain_100
  · replace h := ip s2 (iq (by rw [s2]; decide) h)
    refine lv_tableIn (off := 48) (tgt := 49) hx hb dX2_packPlain_1 (by rw [s2]; decide) (by rw [s2]; decide) (by rw [s2]; rfl) (by decide) ?_
    refine lv_aload_n hx hb dX2_packPlain_49 rfl (lv_at hl 0 rfl) ?_
    refine lv_lload_n hx hb dX2_packPlain_50 rfl (lv_at hl 2 rfl) ?_
    obtain ⟨q9, hc, h⟩ := ib h
    have hF := va_frees hD hS hA
    refine va_callv (va_runV (As := [.long p1]) (rest := []) ⟨hx, hb, hml, hown, hts⟩ (s_X2_putNumber hc) (cwV 1 hts (gV mw_5_20 mw_5_21 mw_5_22 mw_0_6 mw_48_17) rfl rfl rfl (by decide +kernel) ⟨(Nat.le_of_ble_eq_true rfl), (Nat.le_of_ble_eq_true rfl)⟩) (vV (ci := 2) (q0 := 87) hK hP hD hN rfl gA_87) rfl rfl hl.1 rfl (lv_room (Nat.le_of_ble_eq_true rfl)) dX2_packPlain_51 ⟨(Nat.le_of_ble_eq_true rfl), (Nat.le_of_ble_eq_true rfl)⟩) hS (fun q _ h => hF q h) hF (fun u t H locs ht hvm hw hB _ _ hS => ?_)
    replace hP : va_P (dC, dI) vwCl (wA a k q9) H := by rw [← ht]; exact hB.1
    replace hD := hD0 (q9)
    clear hB hF
    refine lv_goto (tgt := 100) hx hb dX2_packPlain_54 (by decide) ?_
    obtain rfl := Option.some.inj h
    exact W.vret hx hb hr (fun t ht hW => ⟨⟨(), rfl, trivial, ⟨by rw [ht]; exact hP, va_K.moved hW.alike hK, hD⟩⟩, hS.F ht⟩) hS.2.2 dX2_packPlain_100
  · replace h := ip s3 (iq (by rw [s3]; decide) (iq (by rw [s3]; decide) h))
    refine lv_tableIn (off := 48) (tgt := 49) hx hb dX2_packPlain_1 (by rw [s3]; decide) (by rw [s3]; decide) (by rw [s3]; rfl) (by decide) ?_
    refine lv_aload_n hx hb dX2_packPlain_49 rfl (lv_at hl 0 rfl) ?_
    refine lv_lload_n hx hb dX2_packPlain_50 rfl (lv_at hl 2 rfl) ?_
    obtain ⟨q11, hc, h⟩ := ib h
    have hF := va_frees hD hS hA
    refine va_callv (va_runV (As := [.long p1]) (rest := []) ⟨hx, hb, hml, hown, hts⟩ (s_X2_putNumber hc) (cwV 1 hts (gV mw_5_20 mw_5_21 mw_5_22 mw_0_6 mw_48_17) rfl rfl rfl (by decide +kernel) ⟨(Nat.le_of_ble_eq_true rfl), (Nat.le_of_ble_eq_true rfl)⟩) (vV (ci := 2) (q0 := 87) hK hP hD hN rfl gA_87) rfl rfl hl.1 rfl (lv_room (Nat.le_of_ble_eq_true rfl)) dX2_packPlain_51 ⟨(Nat.le_of_ble_eq_true rfl), (Nat.le_of_ble_eq_true rfl)⟩) hS (fun q _ h => hF q h) hF (fun u t H locs ht hvm hw hB _ _ hS => ?_)
    replace hP : va_P (dC, dI) vwCl (wA a k q11) H := by rw [← ht]; exact hB.1
    replace hD := hD0 (q11)
    clear hB hF
    refine lv_goto (tgt := 100) hx hb dX2_packPlain_54 (by decide) ?_
    obtain rfl := Option.some.inj h
    exact W.vret hx hb hr (fun t ht hW => ⟨⟨(), rfl, trivial, ⟨by rw [ht]; exact hP, va_K.moved hW.alike hK, hD⟩⟩, hS.F ht⟩) hS.2.2 dX2_packPlain_100
  · replace h := ip s4 (iq (by rw [s4]; decide) (iq (by rw [s4]; decide) (iq (by rw [s4]; decide) h)))
    refine lv_tableIn (off := 56) (tgt := 57) hx hb dX2_packPlain_1 (by rw [s4]; decide) (by rw [s4]; decide) (by rw [s4]; rfl) (by decide) ?_
    refine lv_bipush (v := 56) hx hb dX2_packPlain_57 (by decide) ?_
    refine lv_istore (lv' := [(4, .int 56), (0, .ref (a 87)), (1, .int p0), (2, .long p1)]) hx hb dX2_packPlain_59 hl (by decide) rfl (fun ls hl => ?_)
    exact b_X2_packPlain_61 hC FU _ _ _ h _ _ _ hP hD hS (lv_sub hl [1, 3, 0] rfl)
  · replace h := ip s5 (iq (by rw [s5]; decide) (iq (by rw [s5]; decide) (iq (by rw [s5]; decide) (iq (by rw [s5]; decide) h))))
    refine lv_tableIn (off := 83) (tgt := 84) hx hb dX2_packPlain_1 (by rw [s5]; decide) (by rw [s5]; decide) (by rw [s5]; rfl) (by decide) ?_
    refine lv_aload_n hx hb dX2_packPlain_84 rfl (lv_at hl 0 rfl) ?_
    refine lv_lload_n hx hb dX2_packPlain_85 rfl (lv_at hl 2 rfl) ?_
    obtain ⟨q13, hc, h⟩ := ib h
    have hF := va_frees hD hS hA
    refine va_callv (va_runV (As := [.long p1]) (rest := []) ⟨hx, hb, hml, hown, hts⟩ (s_X2_packLetters hc) (cwV 1 hts (gV mw_6_23 mw_6_24 mw_6_25 mw_0_6 mw_48_16) rfl rfl rfl (by decide +kernel) ⟨(Nat.le_of_ble_eq_true rfl), (Nat.le_of_ble_eq_true rfl)⟩) (vV (ci := 2) (q0 := 87) hK hP hD hN rfl gA_87) rfl rfl hl.1 rfl (lv_room (Nat.le_of_ble_eq_true rfl)) dX2_packPlain_86 ⟨(Nat.le_of_ble_eq_true rfl), (Nat.le_of_ble_eq_true rfl)⟩) hS (fun q _ h => hF q h) hF (fun u t H locs ht hvm hw hB _ _ hS => ?_)
    replace hP : va_P (dC, dI) vwCl (wA a k q13) H := by rw [← ht]; exact hB.1
    replace hD := hD0 (q13)
    clear hB hF
    refine lv_goto (tgt := 100) hx hb dX2_packPlain_89 (by decide) ?_
    obtain rfl := Option.some.inj h
    exact W.vret hx hb hr (fun t ht hW => ⟨⟨(), rfl, trivial, ⟨by rw [ht]; exact hP, va_K.moved hW.alike hK, hD⟩⟩, hS.F ht⟩) hS.2.2 dX2_packPlain_100
  · replace h := ip s6 (iq (by rw [s6]; decide) (iq (by rw [s6]; decide) (iq (by rw [s6]; decide) (iq (by rw [s6]; decide) (iq (by rw [s6]; decide) h)))))
    refine lv_tableIn (off := 91) (tgt := 92) hx hb dX2_packPlain_1 (by rw [s6]; decide) (by rw [s6]; decide) (by rw [s6]; rfl) (by decide) ?_
    refine lv_aload_n hx hb dX2_packPlain_92 rfl (lv_at hl 0 rfl) ?_
    refine lv_lconst (v := 0) hx hb dX2_packPlain_93 (by decide) ?_
    obtain ⟨q15, hc, h⟩ := ib h
    have hF := va_frees hD hS hA
    refine va_callv (va_runV (As := [.long 0]) (rest := []) ⟨hx, hb, hml, hown, hts⟩ (s_X2_putNumber hc) (cwV 1 hts (gV mw_5_20 mw_5_21 mw_5_22 mw_0_6 mw_48_17) rfl rfl rfl (by decide +kernel) ⟨(Nat.le_of_ble_eq_true rfl), (Nat.le_of_ble_eq_true rfl)⟩) (vV (ci := 2) (q0 := 87) hK hP hD hN rfl gA_87) rfl rfl hl.1 rfl (lv_room (Nat.le_of_ble_eq_true rfl)) dX2_packPlain_94 ⟨(Nat.le_of_ble_eq_true rfl), (Nat.le_of_ble_eq_true rfl)⟩) hS (fun q _ h => hF q h) hF (fun u t H locs ht hvm hw hB _ _ hS => ?_)
    replace hP : va_P (dC, dI) vwCl (wA a k q15) H := by rw [← ht]; exact hB.1
    replace hD := hD0 (q15)
    clear hB hF
    refine lv_goto (tgt := 100) hx hb dX2_packPlain_97 (by decide) ?_
    obtain rfl := Option.some.inj h
    exact W.vret hx hb hr (fun t ht hW => ⟨⟨(), rfl, trivial, ⟨by rw [ht]; exact hP, va_K.moved hW.alike hK, hD⟩⟩, hS.F ht⟩) hS.2.2 dX2_packPlain_100
  · replace h := (iq s6 (iq s5 (iq s4 (iq s3 (iq s2 (iq s1 h))))))
    refine lv_tableOut (tgt := 100) hx hb dX2_packPlain_1 (by have a0 := il_ne s1; have e0 : (1 : Int32).toInt = 1 := (by decide); have a1 := il_ne s2; have e1 : (2 : Int32).toInt = 2 := (by decide); have a2 := il_ne s3; have e2 : (3 : Int32).toInt = 3 := (by decide); have a3 := il_ne s4; have e3 : (4 : Int32).toInt = 4 := (by decide); have a4 := il_ne s5; have e4 : (5 : Int32).toInt = 5 := (by decide); have a5 := il_ne s6; have e5 : (6 : Int32).toInt = 6 := (by decide); omega) (by decide) ?_
    obtain rfl := Option.some.inj h
    exact W.vret hx hb hr (fun t ht hW => ⟨⟨(), rfl, trivial, ⟨by rw [ht]; exact hP, va_K.moved hW.alike hK, hD⟩⟩, hS.F ht⟩) hS.2.2 dX2_packPlain_100

theorem s_X2_packPlain {l : Launch} {dC : Nat → ClassId} {dI : Nat → Nat → Nat} {a : Nat → Nat} {k : Nat → ClassId} {sz : Nat} {p0 : Int32} {p1 : Int64} {σ : ST} {q : ST} (h : f_X2_packPlain  p0 p1 σ = some q) : Met l yX2_packPlain (.code yX2_packPlain cX2_packPlain 5 none :: pw) ({ frames := 3, cells := 0, slots := 0, locals := 70 } : Room) (va_Pc [.ref (a 87), .int p0, .long p1] (vPre dC dI (wA a k σ) (tA k) sz)) (qAv dC dI a k (va_A (wA a k σ) sz) q) 0 0 (va_A (wA a k σ) sz) := metA (fun A => qAv dC dI a k A q) (plainFor_of_name (by decide)) (Nat.le_of_ble_eq_true rfl) (fun _ _ _ _ _ _ _ _ hC => b_X2_packPlain_e hC h)

def f_X2_packElse_21 (x1 : Int32) (x2 : Int32) (x4 : Int32) (σ : ST) : Option (ST) := (f_X5_sortOf 4 x4 σ).bind fun q1 => (f_X5_elseWorth 4 x1 x2 q1.2).bind fun q3 => (f_X2_packPlain  q1.1 q3.1 q3.2).bind fun q5 => some q5
def f_X2_packElse (p0 : Int32) (p1 : Int32) (p2 : Int32) (σ : ST) : Option (ST) := (f_X5_firstChoice 4 p2 σ).bind fun q1 => if q1.1 = p2 then (f_X2_packElse_21  p0 p1 q1.1 q1.2) else ((f_X2_putNumber  0 q1.2).bind fun q3 => f_X2_packElse_21  p0 p1 q1.1 q3)

set_option maxRecDepth 100000 in
set_option maxHeartbeats 4000000 in
theorem b_X2_packElse_21 {p : Program} {l : Launch} {e : Env} {s : State} {m : MethodId} {args : Array Value} {below : List Frame} {meth : Method} {c : Code} {dC : Nat → ClassId} {dI : Nat → Nat → Nat} {a : Nat → Nat} {k : Nat → ClassId} {A : Nat → Prop} {q : ST} (hC : CxA p s m args meth c dC dI k A cX2_packElse RX2 none 5)   {x1 : Int32} {x2 : Int32} {x4 : Int32} {σ : ST} (h : f_X2_packElse_21  x1 x2 x4 σ = some q) : GoA p l e ({ frames := 4, cells := 0, slots := 0, locals := 94 } : Room) s m args below meth c (MQ below (qAv dC dI a k A q) args s 0 0 A) dC dI a k A 5 21 σ [(0, .ref (a 87)), (1, .int x1), (2, .int x2), (4, .int x4)] [] := by
  have hC0 := hC
  obtain ⟨hx, hb, hr, hml, hown, hts, hlocks, hA, hN, hK⟩ := hC0
  intro H locs ls hP hD hS hl
  have hD0 : ∀ σ1 : ST, va_D A (wA a k σ1) := fun σ1 => wA_D hD
  unfold f_X2_packElse_21 at h
  refine lv_aload_n hx hb dX2_packElse_21 rfl (lv_at hl 0 rfl) ?_
  refine lv_aload_n hx hb dX2_packElse_22 rfl (lv_at hl 0 rfl) ?_
  refine va_get (D := (dC, dI)) (ci := 2) (C := RX2) (T := TX2) (N := 3) hx hb hts inlX2 hown hK hP 87 gA_87 rfl 0 (by decide) (hts (.fieldLink RX2 19 "ShapeReader$Packer" "shapes" "LShapeReader$Shapes;") mw_5_2) (fun _ h9 => h9) rfl dX2_packElse_23 ?_
  refine lv_iload hx hb dX2_packElse_26 (lv_at hl 3 rfl) ?_
  obtain ⟨q1, hc, h⟩ := ib h
  have hF := va_frees hD hS hA
  refine va_calli (va_runV (As := [.int x4]) (rest := [.ref (a 87)]) ⟨hx, hb, hml, hown, hts⟩ (s_X5_sortOf_4 hc) (cwV 1 hts (gV mw_5_9 mw_2_13 mw_2_14 mw_0_9 mw_50_6) rfl rfl rfl (by decide +kernel) ⟨(Nat.le_of_ble_eq_true rfl), (Nat.le_of_ble_eq_true rfl)⟩) (vV (ci := 5) (q0 := 4) hK hP hD hN rfl gA_4) rfl rfl hl.1 rfl (lv_room (Nat.le_of_ble_eq_true rfl)) dX2_packElse_28 ⟨(Nat.le_of_ble_eq_true rfl), (Nat.le_of_ble_eq_true rfl)⟩) hS (fun q _ h => hF q h) hF (fun r2 u t H locs ht hvm hw hB _ _ hS => ?_)
  obtain rfl : r2 = q1.1 := hw
  replace hP : va_P (dC, dI) vwCl (wA a k q1.2) H := by rw [← ht]; exact hB.1
  replace hD := hD0 (q1.2)
  clear hB hF
  refine lv_aload_n hx hb dX2_packElse_31 rfl (lv_at hl 0 rfl) ?_
  refine va_get (D := (dC, dI)) (ci := 2) (C := RX2) (T := TX2) (N := 3) hx hb hts inlX2 hown hK hP 87 gA_87 rfl 0 (by decide) (hts (.fieldLink RX2 19 "ShapeReader$Packer" "shapes" "LShapeReader$Shapes;") mw_5_2) (fun _ h9 => h9) rfl dX2_packElse_32 ?_
  refine lv_iload_n hx hb dX2_packElse_35 rfl (lv_at hl 1 rfl) ?_
  refine lv_iload_n hx hb dX2_packElse_36 rfl (lv_at hl 2 rfl) ?_
  obtain ⟨q3, hc, h⟩ := ib h
  have hF := va_frees hD hS hA
  refine va_calll (va_runV (As := [.int x1, .int x2]) (rest := [.int q1.1, .ref (a 87)]) ⟨hx, hb, hml, hown, hts⟩ (s_X5_elseWorth_4 hc) (cwV 2 hts (gV mw_6_17 mw_6_18 mw_6_19 mw_0_9 mw_50_5) rfl rfl rfl (by decide +kernel) ⟨(Nat.le_of_ble_eq_true rfl), (Nat.le_of_ble_eq_true rfl)⟩) (vV (ci := 5) (q0 := 4) hK hP hD hN rfl gA_4) rfl rfl hl.1 rfl (lv_room (Nat.le_of_ble_eq_true rfl)) dX2_packElse_37 ⟨(Nat.le_of_ble_eq_true rfl), (Nat.le_of_ble_eq_true rfl)⟩) hS (fun q _ h => hF q h) hF (fun r4 u t H locs ht hvm hw hB _ _ hS => ?_)
  obtain rfl : r4 = q3.1 := hw
  replace hP : va_P (dC, dI) vwCl (wA a k q3.2) H := by rw [← ht]; exact hB.1
  replace hD := hD0 (q3.2)
  clear hB hF
  obtain ⟨q5, hc, h⟩ := ib h
  have hF := va_frees hD hS hA
  refine va_callv (va_runV (As := [.int q1.1, .long q3.1]) (rest := []) ⟨hx, hb, hml, hown, hts⟩ (s_X2_packPlain hc) (cwV 2 hts (gV mw_6_2 mw_6_3 mw_6_4 mw_0_6 mw_48_15) rfl rfl rfl (by decide +kernel) ⟨(Nat.le_of_ble_eq_true rfl), (Nat.le_of_ble_eq_true rfl)⟩) (vV (ci := 2) (q0 := 87) hK hP hD hN rfl gA_87) rfl rfl hl.1 rfl (lv_room (Nat.le_of_ble_eq_true rfl)) dX2_packElse_40 ⟨(Nat.le_of_ble_eq_true rfl), (Nat.le_of_ble_eq_true rfl)⟩) hS (fun q _ h => hF q h) hF (fun u t H locs ht hvm hw hB _ _ hS => ?_)
  replace hP : va_P (dC, dI) vwCl (wA a k q5) H := by rw [← ht]; exact hB.1
  replace hD := hD0 (q5)
  clear hB hF
  obtain rfl := Option.some.inj h
  exact W.vret hx hb hr (fun t ht hW => ⟨⟨(), rfl, trivial, ⟨by rw [ht]; exact hP, va_K.moved hW.alike hK, hD⟩⟩, hS.F ht⟩) hS.2.2 dX2_packElse_43

set_option maxRecDepth 100000 in
set_option maxHeartbeats 4000000 in
theorem b_X2_packElse_e {p : Program} {l : Launch} {e : Env} {s : State} {m : MethodId} {args : Array Value} {below : List Frame} {meth : Method} {c : Code} {dC : Nat → ClassId} {dI : Nat → Nat → Nat} {a : Nat → Nat} {k : Nat → ClassId} {A : Nat → Prop} {q : ST} (hC : CxA p s m args meth c dC dI k A cX2_packElse RX2 none 5)   {p0 : Int32} {p1 : Int32} {p2 : Int32} {σ : ST} (h : f_X2_packElse  p0 p1 p2 σ = some q) : GoA p l e ({ frames := 4, cells := 0, slots := 0, locals := 94 } : Room) s m args below meth c (MQ below (qAv dC dI a k A q) args s 0 0 A) dC dI a k A 5 0 σ (lv_args 0 [.ref (a 87), .int p0, .int p1, .int p2]) [] := by
  have hC0 := hC
  obtain ⟨hx, hb, hr, hml, hown, hts, hlocks, hA, hN, hK⟩ := hC0
  intro H locs ls hP hD hS hl
  have hD0 : ∀ σ1 : ST, va_D A (wA a k σ1) := fun σ1 => wA_D hD
  replace hl : lv_has ls 5 [(0, .ref (a 87)), (1, .int p0), (2, .int p1), (3, .int p2)] := hl
  unfold f_X2_packElse at h
  refine lv_aload_n hx hb dX2_packElse_0 rfl (lv_at hl 0 rfl) ?_
  refine va_get (D := (dC, dI)) (ci := 2) (C := RX2) (T := TX2) (N := 3) hx hb hts inlX2 hown hK hP 87 gA_87 rfl 0 (by decide) (hts (.fieldLink RX2 19 "ShapeReader$Packer" "shapes" "LShapeReader$Shapes;") mw_5_2) (fun _ h9 => h9) rfl dX2_packElse_1 ?_
  refine lv_iload_n hx hb dX2_packElse_4 rfl (lv_at hl 3 rfl) ?_
  obtain ⟨q1, hc, h⟩ := ib h
  have hF := va_frees hD hS hA
  refine va_calli (va_runV (As := [.int p2]) (rest := []) ⟨hx, hb, hml, hown, hts⟩ (s_X5_firstChoice_4 hc) (cwV 1 hts (gV mw_6_14 mw_6_15 mw_6_16 mw_0_9 mw_50_11) rfl rfl rfl (by decide +kernel) ⟨(Nat.le_of_ble_eq_true rfl), (Nat.le_of_ble_eq_true rfl)⟩) (vV (ci := 5) (q0 := 4) hK hP hD hN rfl gA_4) rfl rfl hl.1 rfl (lv_room (Nat.le_of_ble_eq_true rfl)) dX2_packElse_5 ⟨(Nat.le_of_ble_eq_true rfl), (Nat.le_of_ble_eq_true rfl)⟩) hS (fun q _ h => hF q h) hF (fun r2 u t H locs ht hvm hw hB _ _ hS => ?_)
  obtain rfl : r2 = q1.1 := hw
  replace hP : va_P (dC, dI) vwCl (wA a k q1.2) H := by rw [← ht]; exact hB.1
  replace hD := hD0 (q1.2)
  clear hB hF
  refine lv_istore (lv' := [(4, .int q1.1), (0, .ref (a 87)), (1, .int p0), (2, .int p1), (3, .int p2)]) hx hb dX2_packElse_8 hl (by decide) rfl (fun ls hl => ?_)
  refine lv_iload hx hb dX2_packElse_10 (lv_at hl 0 rfl) ?_
  refine lv_iload_n hx hb dX2_packElse_12 rfl (lv_at hl 4 rfl) ?_
  refine lv_icmp_eq (tgt := 21) hx hb dX2_packElse_13 (by decide) (fun hc => ?_) (fun hc => ?_)
  · replace h := ip hc h
    exact b_X2_packElse_21 hC h _ _ _ hP hD hS (lv_sub hl [1, 2, 3, 0] rfl)
  · replace h := iq hc h
    refine lv_aload_n hx hb dX2_packElse_16 rfl (lv_at hl 1 rfl) ?_
    refine lv_lconst (v := 0) hx hb dX2_packElse_17 (by decide) ?_
    obtain ⟨q3, hc, h⟩ := ib h
    have hF := va_frees hD hS hA
    refine va_callv (va_runV (As := [.long 0]) (rest := []) ⟨hx, hb, hml, hown, hts⟩ (s_X2_putNumber hc) (cwV 1 hts (gV mw_5_20 mw_5_21 mw_5_22 mw_0_6 mw_48_17) rfl rfl rfl (by decide +kernel) ⟨(Nat.le_of_ble_eq_true rfl), (Nat.le_of_ble_eq_true rfl)⟩) (vV (ci := 2) (q0 := 87) hK hP hD hN rfl gA_87) rfl rfl hl.1 rfl (lv_room (Nat.le_of_ble_eq_true rfl)) dX2_packElse_18 ⟨(Nat.le_of_ble_eq_true rfl), (Nat.le_of_ble_eq_true rfl)⟩) hS (fun q _ h => hF q h) hF (fun u t H locs ht hvm hw hB _ _ hS => ?_)
    replace hP : va_P (dC, dI) vwCl (wA a k q3) H := by rw [← ht]; exact hB.1
    replace hD := hD0 (q3)
    clear hB hF
    exact b_X2_packElse_21 hC h _ _ _ hP hD hS (lv_sub hl [1, 2, 3, 0] rfl)

theorem s_X2_packElse {l : Launch} {dC : Nat → ClassId} {dI : Nat → Nat → Nat} {a : Nat → Nat} {k : Nat → ClassId} {sz : Nat} {p0 : Int32} {p1 : Int32} {p2 : Int32} {σ : ST} {q : ST} (h : f_X2_packElse  p0 p1 p2 σ = some q) : Met l yX2_packElse (.code yX2_packElse cX2_packElse 5 none :: pw) ({ frames := 4, cells := 0, slots := 0, locals := 94 } : Room) (va_Pc [.ref (a 87), .int p0, .int p1, .int p2] (vPre dC dI (wA a k σ) (tA k) sz)) (qAv dC dI a k (va_A (wA a k σ) sz) q) 0 0 (va_A (wA a k σ) sz) := metA (fun A => qAv dC dI a k A q) (plainFor_of_name (by decide)) (Nat.le_of_ble_eq_true rfl) (fun _ _ _ _ _ _ _ _ hC => b_X2_packElse_e hC h)

def f_X7_placeOf (b : Nat) (p0 : Int32) (σ : ST) : Option (Int32 × ST) := (f_X7_isRow b p0 σ).bind fun q1 => if q1.1 = 0 then (some (0, q1.2)) else (if 0 ≤ p0.toInt ∧ p0.toInt < (ln7 b : Nat) then (some ((q1.2.1 (b + 3) p0.toNatClampNeg), q1.2)) else none)

set_option maxRecDepth 100000 in
set_option maxHeartbeats 4000000 in
theorem b_X7_placeOf_e_50 {p : Program} {l : Launch} {e : Env} {s : State} {m : MethodId} {args : Array Value} {below : List Frame} {meth : Method} {c : Code} {dC : Nat → ClassId} {dI : Nat → Nat → Nat} {a : Nat → Nat} {k : Nat → ClassId} {A : Nat → Prop} {q : Int32 × ST} (hC : CxA p s m args meth c dC dI k A cX7_placeOf RX7 (some .int) 2)   {p0 : Int32} {σ : ST} (h : f_X7_placeOf 50 p0 σ = some q) : GoA p l e ({ frames := 1, cells := 0, slots := 0, locals := 21 } : Room) s m args below meth c (MQ below (qAi dC dI a k A q) args s 0 0 A) dC dI a k A 2 0 σ (lv_args 0 [.ref (a 50), .int p0]) [] := by
  have hC0 := hC
  obtain ⟨hx, hb, hr, hml, hown, hts, hlocks, hA, hN, hK⟩ := hC0
  intro H locs ls hP hD hS hl
  have hD0 : ∀ σ1 : ST, va_D A (wA a k σ1) := fun σ1 => wA_D hD
  replace hl : lv_has ls 2 [(0, .ref (a 50)), (1, .int p0)] := hl
  unfold f_X7_placeOf at h
  refine lv_aload_n hx hb dX7_placeOf_0 rfl (lv_at hl 0 rfl) ?_
  refine lv_iload_n hx hb dX7_placeOf_1 rfl (lv_at hl 1 rfl) ?_
  obtain ⟨q1, hc, h⟩ := ib h
  have hF := va_frees hD hS hA
  refine va_calli (va_runV (As := [.int p0]) (rest := []) ⟨hx, hb, hml, hown, hts⟩ (s_X7_isRow_50 hc) (cwV 1 hts (gV mw_18_14 mw_18_15 mw_18_16 mw_0_11 mw_51_24) rfl rfl rfl (by decide +kernel) ⟨(Nat.le_of_ble_eq_true rfl), (Nat.le_of_ble_eq_true rfl)⟩) (vV (ci := 7) (q0 := 50) hK hP hD hN rfl gA_50) rfl rfl hl.1 rfl (lv_room (Nat.le_of_ble_eq_true rfl)) dX7_placeOf_2 ⟨(Nat.le_of_ble_eq_true rfl), (Nat.le_of_ble_eq_true rfl)⟩) hS (fun q _ h => hF q h) hF (fun r2 u t H locs ht hvm hw hB _ _ hS => ?_)
  obtain rfl : r2 = q1.1 := hw
  replace hP : va_P (dC, dI) vwCl (wA a k q1.2) H := by rw [← ht]; exact hB.1
  replace hD := hD0 (q1.2)
  clear hB hF
  refine lv_if_eq (tgt := 17) hx hb dX7_placeOf_5 (by decide) (fun hc => ?_) (fun hc => ?_)
  · replace h := ip hc h
    refine lv_iconst (v := 0) hx hb dX7_placeOf_17 (by decide) ?_
    obtain rfl := Option.some.inj h
    exact W.iret hx hb hr (fun t ht hW => ⟨⟨_, (), rfl, rfl, ⟨by rw [ht]; exact hP, va_K.moved hW.alike hK, hD⟩⟩, hS.F ht⟩) hS.2.2 dX7_placeOf_18
  · replace h := iq hc h
    refine lv_aload_n hx hb dX7_placeOf_8 rfl (lv_at hl 0 rfl) ?_
    refine va_get (D := (dC, dI)) (ci := 7) (C := RX7) (T := TX7) (N := 13) hx hb hts inlX7 hown hK hP 50 gA_50 rfl 4 (by decide) (hts (.fieldLink RX7 25 "ShapeReader$Tree" "places" "[I") mw_18_5) (fun _ h9 => h9) rfl dX7_placeOf_9 ?_
    refine lv_iload_n hx hb dX7_placeOf_12 rfl (lv_at hl 1 rfl) ?_
    obtain ⟨hg3, h⟩ := ig h
    refine va_iald hx hb hK hP 53 44 gA_53 yA_53 (vp_in_iff.mpr hg3) dX7_placeOf_13 ?_
    refine lv_goto (tgt := 18) hx hb dX7_placeOf_14 (by decide) ?_
    obtain rfl := Option.some.inj h
    exact W.iret hx hb hr (fun t ht hW => ⟨⟨_, (), rfl, rfl, ⟨by rw [ht]; exact hP, va_K.moved hW.alike hK, hD⟩⟩, hS.F ht⟩) hS.2.2 dX7_placeOf_18

theorem s_X7_placeOf_50 {l : Launch} {dC : Nat → ClassId} {dI : Nat → Nat → Nat} {a : Nat → Nat} {k : Nat → ClassId} {sz : Nat} {p0 : Int32} {σ : ST} {q : Int32 × ST} (h : f_X7_placeOf 50 p0 σ = some q) : Met l yX7_placeOf (.code yX7_placeOf cX7_placeOf 2 (some .int) :: pw) ({ frames := 1, cells := 0, slots := 0, locals := 21 } : Room) (va_Pc [.ref (a 50), .int p0] (vPre dC dI (wA a k σ) (tA k) sz)) (qAi dC dI a k (va_A (wA a k σ) sz) q) 0 0 (va_A (wA a k σ) sz) := metA (fun A => qAi dC dI a k A q) (plainFor_of_name (by decide)) (Nat.le_of_ble_eq_true rfl) (fun _ _ _ _ _ _ _ _ hC => b_X7_placeOf_e_50 hC h)

set_option maxRecDepth 100000 in
set_option maxHeartbeats 4000000 in
theorem b_X7_placeOf_e_62 {p : Program} {l : Launch} {e : Env} {s : State} {m : MethodId} {args : Array Value} {below : List Frame} {meth : Method} {c : Code} {dC : Nat → ClassId} {dI : Nat → Nat → Nat} {a : Nat → Nat} {k : Nat → ClassId} {A : Nat → Prop} {q : Int32 × ST} (hC : CxA p s m args meth c dC dI k A cX7_placeOf RX7 (some .int) 2)   {p0 : Int32} {σ : ST} (h : f_X7_placeOf 62 p0 σ = some q) : GoA p l e ({ frames := 1, cells := 0, slots := 0, locals := 21 } : Room) s m args below meth c (MQ below (qAi dC dI a k A q) args s 0 0 A) dC dI a k A 2 0 σ (lv_args 0 [.ref (a 62), .int p0]) [] := by
  have hC0 := hC
  obtain ⟨hx, hb, hr, hml, hown, hts, hlocks, hA, hN, hK⟩ := hC0
  intro H locs ls hP hD hS hl
  have hD0 : ∀ σ1 : ST, va_D A (wA a k σ1) := fun σ1 => wA_D hD
  replace hl : lv_has ls 2 [(0, .ref (a 62)), (1, .int p0)] := hl
  unfold f_X7_placeOf at h
  refine lv_aload_n hx hb dX7_placeOf_0 rfl (lv_at hl 0 rfl) ?_
  refine lv_iload_n hx hb dX7_placeOf_1 rfl (lv_at hl 1 rfl) ?_
  obtain ⟨q1, hc, h⟩ := ib h
  have hF := va_frees hD hS hA
  refine va_calli (va_runV (As := [.int p0]) (rest := []) ⟨hx, hb, hml, hown, hts⟩ (s_X7_isRow_62 hc) (cwV 1 hts (gV mw_18_14 mw_18_15 mw_18_16 mw_0_11 mw_51_24) rfl rfl rfl (by decide +kernel) ⟨(Nat.le_of_ble_eq_true rfl), (Nat.le_of_ble_eq_true rfl)⟩) (vV (ci := 7) (q0 := 62) hK hP hD hN rfl gA_62) rfl rfl hl.1 rfl (lv_room (Nat.le_of_ble_eq_true rfl)) dX7_placeOf_2 ⟨(Nat.le_of_ble_eq_true rfl), (Nat.le_of_ble_eq_true rfl)⟩) hS (fun q _ h => hF q h) hF (fun r2 u t H locs ht hvm hw hB _ _ hS => ?_)
  obtain rfl : r2 = q1.1 := hw
  replace hP : va_P (dC, dI) vwCl (wA a k q1.2) H := by rw [← ht]; exact hB.1
  replace hD := hD0 (q1.2)
  clear hB hF
  refine lv_if_eq (tgt := 17) hx hb dX7_placeOf_5 (by decide) (fun hc => ?_) (fun hc => ?_)
  · replace h := ip hc h
    refine lv_iconst (v := 0) hx hb dX7_placeOf_17 (by decide) ?_
    obtain rfl := Option.some.inj h
    exact W.iret hx hb hr (fun t ht hW => ⟨⟨_, (), rfl, rfl, ⟨by rw [ht]; exact hP, va_K.moved hW.alike hK, hD⟩⟩, hS.F ht⟩) hS.2.2 dX7_placeOf_18
  · replace h := iq hc h
    refine lv_aload_n hx hb dX7_placeOf_8 rfl (lv_at hl 0 rfl) ?_
    refine va_get (D := (dC, dI)) (ci := 7) (C := RX7) (T := TX7) (N := 13) hx hb hts inlX7 hown hK hP 62 gA_62 rfl 4 (by decide) (hts (.fieldLink RX7 25 "ShapeReader$Tree" "places" "[I") mw_18_5) (fun _ h9 => h9) rfl dX7_placeOf_9 ?_
    refine lv_iload_n hx hb dX7_placeOf_12 rfl (lv_at hl 1 rfl) ?_
    obtain ⟨hg3, h⟩ := ig h
    refine va_iald hx hb hK hP 65 55 gA_65 yA_65 (vp_in_iff.mpr hg3) dX7_placeOf_13 ?_
    refine lv_goto (tgt := 18) hx hb dX7_placeOf_14 (by decide) ?_
    obtain rfl := Option.some.inj h
    exact W.iret hx hb hr (fun t ht hW => ⟨⟨_, (), rfl, rfl, ⟨by rw [ht]; exact hP, va_K.moved hW.alike hK, hD⟩⟩, hS.F ht⟩) hS.2.2 dX7_placeOf_18

theorem s_X7_placeOf_62 {l : Launch} {dC : Nat → ClassId} {dI : Nat → Nat → Nat} {a : Nat → Nat} {k : Nat → ClassId} {sz : Nat} {p0 : Int32} {σ : ST} {q : Int32 × ST} (h : f_X7_placeOf 62 p0 σ = some q) : Met l yX7_placeOf (.code yX7_placeOf cX7_placeOf 2 (some .int) :: pw) ({ frames := 1, cells := 0, slots := 0, locals := 21 } : Room) (va_Pc [.ref (a 62), .int p0] (vPre dC dI (wA a k σ) (tA k) sz)) (qAi dC dI a k (va_A (wA a k σ) sz) q) 0 0 (va_A (wA a k σ) sz) := metA (fun A => qAi dC dI a k A q) (plainFor_of_name (by decide)) (Nat.le_of_ble_eq_true rfl) (fun _ _ _ _ _ _ _ _ hC => b_X7_placeOf_e_62 hC h)
