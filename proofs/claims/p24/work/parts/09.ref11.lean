theorem dX11_readers_0 : decode cX11_readers 0 = .ok (.aload_n 0, 1) := by decide +kernel
theorem dX11_readers_1 : decode cX11_readers 1 = .ok (.iconst 0, 1) := by decide +kernel
theorem dX11_readers_2 : decode cX11_readers 2 = .ok (.putfield 178, 3) := by decide +kernel
theorem dX11_readers_5 : decode cX11_readers 5 = .ok (.aload_n 0, 1) := by decide +kernel
theorem dX11_readers_6 : decode cX11_readers 6 = .ok (.iload_n 1, 1) := by decide +kernel
theorem dX11_readers_7 : decode cX11_readers 7 = .ok (.invokevirtual 407, 3) := by decide +kernel
theorem dX11_readers_10 : decode cX11_readers 10 = .ok (.ifCond .eq 13, 3) := by decide +kernel
theorem dX11_readers_13 : decode cX11_readers 13 = .ok (.iload_n 2, 1) := by decide +kernel
theorem dX11_readers_14 : decode cX11_readers 14 = .ok (.i2l, 1) := by decide +kernel
theorem dX11_readers_15 : decode cX11_readers 15 = .ok (.lconst 0, 1) := by decide +kernel
theorem dX11_readers_16 : decode cX11_readers 16 = .ok (.lconst 1, 1) := by decide +kernel
theorem dX11_readers_17 : decode cX11_readers 17 = .ok (.invokestatic 196, 3) := by decide +kernel
theorem dX11_readers_20 : decode cX11_readers 20 = .ok (.ifCond .ne 5, 3) := by decide +kernel
theorem dX11_readers_23 : decode cX11_readers 23 = .ok (.iconst (-1), 1) := by decide +kernel
theorem dX11_readers_24 : decode cX11_readers 24 = .ok (.ireturn, 1) := by decide +kernel
theorem dX11_readers_25 : decode cX11_readers 25 = .ok (.iconst 0, 1) := by decide +kernel
theorem dX11_readers_26 : decode cX11_readers 26 = .ok (.istore_n 3, 1) := by decide +kernel
theorem dX11_readers_27 : decode cX11_readers 27 = .ok (.iconst 0, 1) := by decide +kernel
theorem dX11_readers_28 : decode cX11_readers 28 = .ok (.istore 4, 2) := by decide +kernel
theorem dX11_readers_30 : decode cX11_readers 30 = .ok (.iload 4, 2) := by decide +kernel
theorem dX11_readers_32 : decode cX11_readers 32 = .ok (.aload_n 0, 1) := by decide +kernel
theorem dX11_readers_33 : decode cX11_readers 33 = .ok (.getfield 377, 3) := by decide +kernel
theorem dX11_readers_36 : decode cX11_readers 36 = .ok (.if_icmp .ge 31, 3) := by decide +kernel
theorem dX11_readers_39 : decode cX11_readers 39 = .ok (.iload_n 3, 1) := by decide +kernel
theorem dX11_readers_40 : decode cX11_readers 40 = .ok (.aload_n 0, 1) := by decide +kernel
theorem dX11_readers_41 : decode cX11_readers 41 = .ok (.iload_n 1, 1) := by decide +kernel
theorem dX11_readers_42 : decode cX11_readers 42 = .ok (.iload 4, 2) := by decide +kernel
theorem dX11_readers_44 : decode cX11_readers 44 = .ok (.invokevirtual 536, 3) := by decide +kernel
theorem dX11_readers_47 : decode cX11_readers 47 = .ok (.iload_n 2, 1) := by decide +kernel
theorem dX11_readers_48 : decode cX11_readers 48 = .ok (.if_icmp .gt 10, 3) := by decide +kernel
theorem dX11_readers_51 : decode cX11_readers 51 = .ok (.iconst 1, 1) := by decide +kernel
theorem dX11_readers_52 : decode cX11_readers 52 = .ok (.iload 4, 2) := by decide +kernel
theorem dX11_readers_54 : decode cX11_readers 54 = .ok (.ishl, 1) := by decide +kernel
theorem dX11_readers_55 : decode cX11_readers 55 = .ok (.goto 4, 3) := by decide +kernel
theorem dX11_readers_58 : decode cX11_readers 58 = .ok (.iconst 0, 1) := by decide +kernel
theorem dX11_readers_59 : decode cX11_readers 59 = .ok (.ior, 1) := by decide +kernel
theorem dX11_readers_60 : decode cX11_readers 60 = .ok (.istore_n 3, 1) := by decide +kernel
theorem dX11_readers_61 : decode cX11_readers 61 = .ok (.iinc 4 1, 3) := by decide +kernel
theorem dX11_readers_64 : decode cX11_readers 64 = .ok (.goto (-34), 3) := by decide +kernel
theorem dX11_readers_67 : decode cX11_readers 67 = .ok (.iload_n 3, 1) := by decide +kernel
theorem dX11_readers_68 : decode cX11_readers 68 = .ok (.ireturn, 1) := by decide +kernel
theorem dX11_record__0 : decode cX11_record_ 0 = .ok (.aload_n 0, 1) := by decide +kernel
theorem dX11_record__1 : decode cX11_record_ 1 = .ok (.iconst 0, 1) := by decide +kernel
theorem dX11_record__2 : decode cX11_record_ 2 = .ok (.putfield 178, 3) := by decide +kernel
theorem dX11_record__5 : decode cX11_record_ 5 = .ok (.aload_n 0, 1) := by decide +kernel
theorem dX11_record__6 : decode cX11_record_ 6 = .ok (.iload_n 1, 1) := by decide +kernel
theorem dX11_record__7 : decode cX11_record_ 7 = .ok (.invokevirtual 407, 3) := by decide +kernel
theorem dX11_record__10 : decode cX11_record_ 10 = .ok (.ifCond .ne 5, 3) := by decide +kernel
theorem dX11_record__13 : decode cX11_record_ 13 = .ok (.iconst (-1), 1) := by decide +kernel
theorem dX11_record__14 : decode cX11_record_ 14 = .ok (.ireturn, 1) := by decide +kernel
theorem dX11_record__15 : decode cX11_record_ 15 = .ok (.iload_n 2, 1) := by decide +kernel
theorem dX11_record__16 : decode cX11_record_ 16 = .ok (.iconst (-1), 1) := by decide +kernel
theorem dX11_record__17 : decode cX11_record_ 17 = .ok (.if_icmp .ne 10, 3) := by decide +kernel
theorem dX11_record__20 : decode cX11_record_ 20 = .ok (.aload_n 0, 1) := by decide +kernel
theorem dX11_record__21 : decode cX11_record_ 21 = .ok (.getfield 33, 3) := by decide +kernel
theorem dX11_record__24 : decode cX11_record_ 24 = .ok (.iload_n 1, 1) := by decide +kernel
theorem dX11_record__25 : decode cX11_record_ 25 = .ok (.iaload, 1) := by decide +kernel
theorem dX11_record__26 : decode cX11_record_ 26 = .ok (.ireturn, 1) := by decide +kernel
theorem dX11_record__27 : decode cX11_record_ 27 = .ok (.iload_n 3, 1) := by decide +kernel
theorem dX11_record__28 : decode cX11_record_ 28 = .ok (.i2l, 1) := by decide +kernel
theorem dX11_record__29 : decode cX11_record_ 29 = .ok (.lconst 0, 1) := by decide +kernel
theorem dX11_record__30 : decode cX11_record_ 30 = .ok (.lconst 1, 1) := by decide +kernel
theorem dX11_record__31 : decode cX11_record_ 31 = .ok (.invokestatic 196, 3) := by decide +kernel
theorem dX11_record__34 : decode cX11_record_ 34 = .ok (.ifCond .ne 5, 3) := by decide +kernel
theorem dX11_record__37 : decode cX11_record_ 37 = .ok (.iconst (-1), 1) := by decide +kernel
theorem dX11_record__38 : decode cX11_record_ 38 = .ok (.ireturn, 1) := by decide +kernel
theorem dX11_record__39 : decode cX11_record_ 39 = .ok (.bipush 6, 2) := by decide +kernel
theorem dX11_record__41 : decode cX11_record_ 41 = .ok (.iload_n 1, 1) := by decide +kernel
theorem dX11_record__42 : decode cX11_record_ 42 = .ok (.imul, 1) := by decide +kernel
theorem dX11_record__43 : decode cX11_record_ 43 = .ok (.iload_n 2, 1) := by decide +kernel
theorem dX11_record__44 : decode cX11_record_ 44 = .ok (.iadd, 1) := by decide +kernel
theorem dX11_record__45 : decode cX11_record_ 45 = .ok (.istore 4, 2) := by decide +kernel
theorem dX11_record__47 : decode cX11_record_ 47 = .ok (.iload_n 2, 1) := by decide +kernel
theorem dX11_record__48 : decode cX11_record_ 48 = .ok (.i2l, 1) := by decide +kernel
theorem dX11_record__49 : decode cX11_record_ 49 = .ok (.lconst 0, 1) := by decide +kernel
theorem dX11_record__50 : decode cX11_record_ 50 = .ok (.aload_n 0, 1) := by decide +kernel
theorem dX11_record__51 : decode cX11_record_ 51 = .ok (.getfield 33, 3) := by decide +kernel
theorem dX11_record__54 : decode cX11_record_ 54 = .ok (.iload_n 1, 1) := by decide +kernel
theorem dX11_record__55 : decode cX11_record_ 55 = .ok (.iaload, 1) := by decide +kernel
theorem dX11_record__56 : decode cX11_record_ 56 = .ok (.iconst 1, 1) := by decide +kernel
theorem dX11_record__57 : decode cX11_record_ 57 = .ok (.isub, 1) := by decide +kernel
theorem dX11_record__58 : decode cX11_record_ 58 = .ok (.i2l, 1) := by decide +kernel
theorem dX11_record__59 : decode cX11_record_ 59 = .ok (.invokestatic 196, 3) := by decide +kernel
theorem dX11_record__62 : decode cX11_record_ 62 = .ok (.ifCond .ne 7, 3) := by decide +kernel
theorem dX11_record__65 : decode cX11_record_ 65 = .ok (.iconst (-1), 1) := by decide +kernel
theorem dX11_record__66 : decode cX11_record_ 66 = .ok (.goto 24, 3) := by decide +kernel
theorem dX11_record__69 : decode cX11_record_ 69 = .ok (.iload_n 3, 1) := by decide +kernel
theorem dX11_record__70 : decode cX11_record_ 70 = .ok (.ifCond .ne 13, 3) := by decide +kernel
theorem dX11_record__73 : decode cX11_record_ 73 = .ok (.aload_n 0, 1) := by decide +kernel
theorem dX11_record__74 : decode cX11_record_ 74 = .ok (.getfield 42, 3) := by decide +kernel
theorem dX11_record__77 : decode cX11_record_ 77 = .ok (.iload 4, 2) := by decide +kernel
theorem dX11_record__79 : decode cX11_record_ 79 = .ok (.iaload, 1) := by decide +kernel
theorem dX11_record__80 : decode cX11_record_ 80 = .ok (.goto 10, 3) := by decide +kernel
theorem dX11_record__83 : decode cX11_record_ 83 = .ok (.aload_n 0, 1) := by decide +kernel
theorem dX11_record__84 : decode cX11_record_ 84 = .ok (.getfield 39, 3) := by decide +kernel
theorem dX11_record__87 : decode cX11_record_ 87 = .ok (.iload 4, 2) := by decide +kernel
theorem dX11_record__89 : decode cX11_record_ 89 = .ok (.iaload, 1) := by decide +kernel
theorem dX11_record__90 : decode cX11_record_ 90 = .ok (.ireturn, 1) := by decide +kernel
theorem dX11_spoil_0 : decode cX11_spoil 0 = .ok (.aload_n 0, 1) := by decide +kernel
theorem dX11_spoil_1 : decode cX11_spoil 1 = .ok (.iconst 0, 1) := by decide +kernel
theorem dX11_spoil_2 : decode cX11_spoil 2 = .ok (.putfield 178, 3) := by decide +kernel
theorem dX11_spoil_5 : decode cX11_spoil 5 = .ok (.aload_n 0, 1) := by decide +kernel
theorem dX11_spoil_6 : decode cX11_spoil 6 = .ok (.iload_n 1, 1) := by decide +kernel
theorem dX11_spoil_7 : decode cX11_spoil 7 = .ok (.iload_n 2, 1) := by decide +kernel
theorem dX11_spoil_8 : decode cX11_spoil 8 = .ok (.invokevirtual 489, 3) := by decide +kernel
theorem dX11_spoil_11 : decode cX11_spoil 11 = .ok (.ifCond .ne 5, 3) := by decide +kernel
theorem dX11_spoil_14 : decode cX11_spoil 14 = .ok (.iconst (-1), 1) := by decide +kernel
theorem dX11_spoil_15 : decode cX11_spoil 15 = .ok (.ireturn, 1) := by decide +kernel
theorem dX11_spoil_16 : decode cX11_spoil 16 = .ok (.aload_n 0, 1) := by decide +kernel
theorem dX11_spoil_17 : decode cX11_spoil 17 = .ok (.getfield 112, 3) := by decide +kernel
theorem dX11_spoil_20 : decode cX11_spoil 20 = .ok (.sipush 400, 3) := by decide +kernel
theorem dX11_spoil_23 : decode cX11_spoil 23 = .ok (.iload_n 1, 1) := by decide +kernel
theorem dX11_spoil_24 : decode cX11_spoil 24 = .ok (.imul, 1) := by decide +kernel
theorem dX11_spoil_25 : decode cX11_spoil 25 = .ok (.iload_n 2, 1) := by decide +kernel
theorem dX11_spoil_26 : decode cX11_spoil 26 = .ok (.iadd, 1) := by decide +kernel
theorem dX11_spoil_27 : decode cX11_spoil 27 = .ok (.baload, 1) := by decide +kernel
theorem dX11_spoil_28 : decode cX11_spoil 28 = .ok (.sipush 255, 3) := by decide +kernel
theorem dX11_spoil_31 : decode cX11_spoil 31 = .ok (.iand, 1) := by decide +kernel
theorem dX11_spoil_32 : decode cX11_spoil 32 = .ok (.istore 4, 2) := by decide +kernel
theorem dX11_spoil_34 : decode cX11_spoil 34 = .ok (.aload_n 0, 1) := by decide +kernel
theorem dX11_spoil_35 : decode cX11_spoil 35 = .ok (.getfield 112, 3) := by decide +kernel
theorem dX11_spoil_38 : decode cX11_spoil 38 = .ok (.sipush 400, 3) := by decide +kernel
theorem dX11_spoil_41 : decode cX11_spoil 41 = .ok (.iload_n 1, 1) := by decide +kernel
theorem dX11_spoil_42 : decode cX11_spoil 42 = .ok (.imul, 1) := by decide +kernel
theorem dX11_spoil_43 : decode cX11_spoil 43 = .ok (.iload_n 2, 1) := by decide +kernel
theorem dX11_spoil_44 : decode cX11_spoil 44 = .ok (.iadd, 1) := by decide +kernel
theorem dX11_spoil_45 : decode cX11_spoil 45 = .ok (.iload 4, 2) := by decide +kernel
theorem dX11_spoil_47 : decode cX11_spoil 47 = .ok (.iload_n 3, 1) := by decide +kernel
theorem dX11_spoil_48 : decode cX11_spoil 48 = .ok (.ixor, 1) := by decide +kernel
theorem dX11_spoil_49 : decode cX11_spoil 49 = .ok (.i2b, 1) := by decide +kernel
theorem dX11_spoil_50 : decode cX11_spoil 50 = .ok (.bastore, 1) := by decide +kernel
theorem dX11_spoil_51 : decode cX11_spoil 51 = .ok (.iload 4, 2) := by decide +kernel
theorem dX11_spoil_53 : decode cX11_spoil 53 = .ok (.ireturn, 1) := by decide +kernel
theorem dX11_value__0 : decode cX11_value_ 0 = .ok (.aload_n 0, 1) := by decide +kernel
theorem dX11_value__1 : decode cX11_value_ 1 = .ok (.iload_n 1, 1) := by decide +kernel
theorem dX11_value__2 : decode cX11_value_ 2 = .ok (.i2l, 1) := by decide +kernel
theorem dX11_value__3 : decode cX11_value_ 3 = .ok (.lconst 0, 1) := by decide +kernel
theorem dX11_value__4 : decode cX11_value_ 4 = .ok (.aload_n 0, 1) := by decide +kernel
theorem dX11_value__5 : decode cX11_value_ 5 = .ok (.getfield 392, 3) := by decide +kernel
theorem dX11_value__8 : decode cX11_value_ 8 = .ok (.iconst 1, 1) := by decide +kernel
theorem dX11_value__9 : decode cX11_value_ 9 = .ok (.isub, 1) := by decide +kernel
theorem dX11_value__10 : decode cX11_value_ 10 = .ok (.i2l, 1) := by decide +kernel
theorem dX11_value__11 : decode cX11_value_ 11 = .ok (.invokestatic 196, 3) := by decide +kernel
theorem dX11_value__14 : decode cX11_value_ 14 = .ok (.ifCond .eq 7, 3) := by decide +kernel
theorem dX11_value__17 : decode cX11_value_ 17 = .ok (.iconst 0, 1) := by decide +kernel
theorem dX11_value__18 : decode cX11_value_ 18 = .ok (.goto 4, 3) := by decide +kernel
theorem dX11_value__21 : decode cX11_value_ 21 = .ok (.iconst 1, 1) := by decide +kernel
theorem dX11_value__22 : decode cX11_value_ 22 = .ok (.putfield 178, 3) := by decide +kernel
theorem dX11_value__25 : decode cX11_value_ 25 = .ok (.aload_n 0, 1) := by decide +kernel
theorem dX11_value__26 : decode cX11_value_ 26 = .ok (.getfield 178, 3) := by decide +kernel
theorem dX11_value__29 : decode cX11_value_ 29 = .ok (.ifCond .le 7, 3) := by decide +kernel
theorem dX11_value__32 : decode cX11_value_ 32 = .ok (.lconst 0, 1) := by decide +kernel
theorem dX11_value__33 : decode cX11_value_ 33 = .ok (.goto 9, 3) := by decide +kernel
theorem dX11_value__36 : decode cX11_value_ 36 = .ok (.aload_n 0, 1) := by decide +kernel
theorem dX11_value__37 : decode cX11_value_ 37 = .ok (.getfield 151, 3) := by decide +kernel
theorem dX11_value__40 : decode cX11_value_ 40 = .ok (.iload_n 1, 1) := by decide +kernel
theorem dX11_value__41 : decode cX11_value_ 41 = .ok (.laload, 1) := by decide +kernel
theorem dX11_value__42 : decode cX11_value_ 42 = .ok (.lreturn, 1) := by decide +kernel
theorem dX11_write_0 : decode cX11_write 0 = .ok (.aload_n 0, 1) := by decide +kernel
theorem dX11_write_1 : decode cX11_write 1 = .ok (.iconst 0, 1) := by decide +kernel
theorem dX11_write_2 : decode cX11_write 2 = .ok (.putfield 178, 3) := by decide +kernel
theorem dX11_write_5 : decode cX11_write 5 = .ok (.iload_n 1, 1) := by decide +kernel
theorem dX11_write_6 : decode cX11_write 6 = .ok (.i2l, 1) := by decide +kernel
theorem dX11_write_7 : decode cX11_write 7 = .ok (.lconst 0, 1) := by decide +kernel
theorem dX11_write_8 : decode cX11_write 8 = .ok (.ldc2_w 475, 3) := by decide +kernel
theorem dX11_write_11 : decode cX11_write 11 = .ok (.invokestatic 196, 3) := by decide +kernel
theorem dX11_write_14 : decode cX11_write 14 = .ok (.ifCond .eq 25, 3) := by decide +kernel
theorem dX11_write_17 : decode cX11_write 17 = .ok (.aload_n 0, 1) := by decide +kernel
theorem dX11_write_18 : decode cX11_write 18 = .ok (.iload_n 2, 1) := by decide +kernel
theorem dX11_write_19 : decode cX11_write 19 = .ok (.invokevirtual 407, 3) := by decide +kernel
theorem dX11_write_22 : decode cX11_write 22 = .ok (.ifCond .eq 17, 3) := by decide +kernel
theorem dX11_write_25 : decode cX11_write 25 = .ok (.iload_n 3, 1) := by decide +kernel
theorem dX11_write_26 : decode cX11_write 26 = .ok (.i2l, 1) := by decide +kernel
theorem dX11_write_27 : decode cX11_write 27 = .ok (.lconst 0, 1) := by decide +kernel
theorem dX11_write_28 : decode cX11_write 28 = .ok (.aload_n 0, 1) := by decide +kernel
theorem dX11_write_29 : decode cX11_write 29 = .ok (.getfield 182, 3) := by decide +kernel
theorem dX11_write_32 : decode cX11_write 32 = .ok (.i2l, 1) := by decide +kernel
theorem dX11_write_33 : decode cX11_write 33 = .ok (.invokestatic 196, 3) := by decide +kernel
theorem dX11_write_36 : decode cX11_write 36 = .ok (.ifCond .ne 5, 3) := by decide +kernel
theorem dX11_write_39 : decode cX11_write 39 = .ok (.iconst (-1), 1) := by decide +kernel
theorem dX11_write_40 : decode cX11_write 40 = .ok (.ireturn, 1) := by decide +kernel
theorem dX11_write_41 : decode cX11_write 41 = .ok (.aload_n 0, 1) := by decide +kernel
theorem dX11_write_42 : decode cX11_write 42 = .ok (.iload_n 3, 1) := by decide +kernel
theorem dX11_write_43 : decode cX11_write 43 = .ok (.invokevirtual 383, 3) := by decide +kernel
theorem dX11_write_46 : decode cX11_write 46 = .ok (.aload_n 0, 1) := by decide +kernel
theorem dX11_write_47 : decode cX11_write 47 = .ok (.iconst 0, 1) := by decide +kernel
theorem dX11_write_48 : decode cX11_write 48 = .ok (.putfield 413, 3) := by decide +kernel
theorem dX11_write_51 : decode cX11_write 51 = .ok (.aload_n 0, 1) := by decide +kernel
theorem dX11_write_52 : decode cX11_write 52 = .ok (.iload_n 2, 1) := by decide +kernel
theorem dX11_write_53 : decode cX11_write 53 = .ok (.aload_n 0, 1) := by decide +kernel
theorem dX11_write_54 : decode cX11_write 54 = .ok (.invokevirtual 477, 3) := by decide +kernel
theorem dX11_write_57 : decode cX11_write 57 = .ok (.iconst 0, 1) := by decide +kernel
theorem dX11_write_58 : decode cX11_write 58 = .ok (.iconst (-1), 1) := by decide +kernel
theorem dX11_write_59 : decode cX11_write 59 = .ok (.iconst 0, 1) := by decide +kernel
theorem dX11_write_60 : decode cX11_write 60 = .ok (.invokevirtual 437, 3) := by decide +kernel
theorem dX11_write_63 : decode cX11_write 63 = .ok (.istore 4, 2) := by decide +kernel
theorem dX11_write_65 : decode cX11_write 65 = .ok (.iload 4, 2) := by decide +kernel
theorem dX11_write_67 : decode cX11_write 67 = .ok (.ifCond .eq 17, 3) := by decide +kernel
theorem dX11_write_70 : decode cX11_write 70 = .ok (.aload_n 0, 1) := by decide +kernel
theorem dX11_write_71 : decode cX11_write 71 = .ok (.getfield 244, 3) := by decide +kernel
theorem dX11_write_74 : decode cX11_write 74 = .ok (.ifCond .eq 10, 3) := by decide +kernel
theorem dX11_write_77 : decode cX11_write 77 = .ok (.aload_n 0, 1) := by decide +kernel
theorem dX11_write_78 : decode cX11_write 78 = .ok (.iconst 1, 1) := by decide +kernel
theorem dX11_write_79 : decode cX11_write 79 = .ok (.invokevirtual 272, 3) := by decide +kernel
theorem dX11_write_82 : decode cX11_write 82 = .ok (.istore 4, 2) := by decide +kernel
theorem dX11_write_84 : decode cX11_write 84 = .ok (.iload 4, 2) := by decide +kernel
theorem dX11_write_86 : decode cX11_write 86 = .ok (.ifCond .eq 32, 3) := by decide +kernel
theorem dX11_write_89 : decode cX11_write 89 = .ok (.aload_n 0, 1) := by decide +kernel
theorem dX11_write_90 : decode cX11_write 90 = .ok (.iconst 0, 1) := by decide +kernel
theorem dX11_write_91 : decode cX11_write 91 = .ok (.invokevirtual 480, 3) := by decide +kernel
theorem dX11_write_94 : decode cX11_write 94 = .ok (.aload_n 0, 1) := by decide +kernel
theorem dX11_write_95 : decode cX11_write 95 = .ok (.getfield 451, 3) := by decide +kernel
theorem dX11_write_98 : decode cX11_write 98 = .ok (.ifCond .eq 13, 3) := by decide +kernel
theorem dX11_write_101 : decode cX11_write 101 = .ok (.aload_n 0, 1) := by decide +kernel
theorem dX11_write_102 : decode cX11_write 102 = .ok (.bipush 7, 2) := by decide +kernel
theorem dX11_write_104 : decode cX11_write 104 = .ok (.iload_n 3, 1) := by decide +kernel
theorem dX11_write_105 : decode cX11_write 105 = .ok (.invokevirtual 268, 3) := by decide +kernel
theorem dX11_write_108 : decode cX11_write 108 = .ok (.ifCond .eq 7, 3) := by decide +kernel
theorem dX11_write_111 : decode cX11_write 111 = .ok (.iconst 1, 1) := by decide +kernel
theorem dX11_write_112 : decode cX11_write 112 = .ok (.goto 4, 3) := by decide +kernel
theorem dX11_write_115 : decode cX11_write 115 = .ok (.iconst 0, 1) := by decide +kernel
theorem dX11_write_116 : decode cX11_write 116 = .ok (.istore 4, 2) := by decide +kernel
theorem dX11_write_118 : decode cX11_write 118 = .ok (.iload 4, 2) := by decide +kernel
theorem dX11_write_120 : decode cX11_write 120 = .ok (.ifCond .eq 9, 3) := by decide +kernel
theorem dX11_write_123 : decode cX11_write 123 = .ok (.aload_n 0, 1) := by decide +kernel
theorem dX11_write_124 : decode cX11_write 124 = .ok (.iload_n 1, 1) := by decide +kernel
theorem dX11_write_125 : decode cX11_write 125 = .ok (.iload_n 2, 1) := by decide +kernel
theorem dX11_write_126 : decode cX11_write 126 = .ok (.invokevirtual 483, 3) := by decide +kernel
theorem dX11_write_129 : decode cX11_write 129 = .ok (.iload 4, 2) := by decide +kernel
theorem dX11_write_131 : decode cX11_write 131 = .ok (.ifCond .eq 10, 3) := by decide +kernel
theorem dX11_write_134 : decode cX11_write 134 = .ok (.aload_n 0, 1) := by decide +kernel
theorem dX11_write_135 : decode cX11_write 135 = .ok (.getfield 448, 3) := by decide +kernel
theorem dX11_write_138 : decode cX11_write 138 = .ok (.goto 10, 3) := by decide +kernel
theorem dX11_write_141 : decode cX11_write 141 = .ok (.bipush (-2), 2) := by decide +kernel
theorem dX11_write_143 : decode cX11_write 143 = .ok (.aload_n 0, 1) := by decide +kernel
theorem dX11_write_144 : decode cX11_write 144 = .ok (.getfield 265, 3) := by decide +kernel
theorem dX11_write_147 : decode cX11_write 147 = .ok (.isub, 1) := by decide +kernel
theorem dX11_write_148 : decode cX11_write 148 = .ok (.ireturn, 1) := by decide +kernel
def f_X11_plans_80  : Nat → Int32 → ST → Option ((Int32 × ST) × Nat)
  | 0, _, _ => none
  | n + 1, x3, σ => if 4 ≤ x3 then (some ((((stI (stI (stI (stI (stI σ 0 73 0) 0 81 0) 0 92 0) 0 93 0) 0 94 0).1 0 32), (stI (stI (stI (stI (stI σ 0 73 0) 0 81 0) 0 92 0) 0 93 0) 0 94 0)), 0)) else (if 0 ≤ x3.toInt ∧ x3.toInt < 4 then (f_X11_plans_80  n (x3 + 1) (stI σ 32 x3.toNatClampNeg (-1))) else none)
def f_X11_plans_62 (x2 : Int32) (σ : ST) : Option ((Int32 × ST) × Nat) := if x2 = 0 then (some ((((-2) - (σ.1 0 12)), σ), 0)) else ((f_X11_takes   σ).bind fun q1 => f_X11_plans_80  FU 0 q1)
def f_X11_plans_43  : Nat → Int32 → ST → Option ((Int32 × ST) × Nat)
  | 0, _, _ => none
  | n + 1, x2, σ => if x2 = 0 then (f_X11_plans_62  x2 σ) else (if (σ.1 0 6) = 0 then (f_X11_plans_62  x2 σ) else ((f_X11_plan   σ).bind fun q1 => ac q1.2 (f_X11_plans_43  n q1.1.1 q1.1.2)))
def f_X11_plans (p0 : Int32) (σ : ST) : Option ((Int32 × ST) × Nat) := (f_X11_within  (p0.toInt64) 0 (((stI σ 0 0 0).1 0 2).toInt64) (stI σ 0 0 0)).bind fun q1 => if q1.1 = 0 then (some (((-1), q1.2), 0)) else ((f_X11_begins  p0 q1.2).bind fun q3 => (f_X11_plan   (stI (stI q3 0 33 0) 0 34 400)).bind fun q5 => ac q5.2 (f_X11_plans_43  FU q5.1.1 q5.1.2))

set_option maxRecDepth 100000 in
set_option maxHeartbeats 4000000 in
theorem b_X11_plans_80 {p : Program} {l : Launch} {e : Env} {s : State} {m : MethodId} {args : Array Value} {below : List Frame} {meth : Method} {c : Code} {dC : Nat → ClassId} {dI : Nat → Nat → Nat} {a : Nat → Nat} {k : Nat → ClassId} {A : Nat → Prop} {q : Int32 × ST} {T : Nat} (hC : CxB p s m args meth c dC dI k A cX11_plans RX11 (some .int) 4)   : ∀ (n : Nat) (x3 : Int32) (σ : ST) (κ r : Nat), f_X11_plans_80  n x3 σ = some (q, r) → κ + r = T → GkB p l e ({ frames := 349, cells := T, slots := 6 * T, locals := 8703 } : Room) s m args below meth c (MQ below (qBi dC dI a k A q) args s T (6 * T) A) dC dI a k A 4 80 κ σ [(0, .ref (a 0)), (3, .int x3)] [] := by
  intro n
  induction n with
  | zero =>
    intro x3 σ κ r h
    rw [f_X11_plans_80] at h
    cases h
  | succ n ih =>
    intro x3 σ κ r h hκ
    have hC0 := hC
    obtain ⟨hx, hb, hr, hml, hown, hts, hlocks, hA, hN, hK⟩ := hC0
    intro H locs ls hP hD hS hl
    have hD0 : ∀ σ1 : ST, va_D A (wB a k σ1) := fun σ1 => wB_D hD
    rw [f_X11_plans_80] at h
    refine lv_iload_n hx hb dX11_plans_80 rfl (lv_at hl 1 rfl) ?_
    refine lv_iconst (v := 4) hx hb dX11_plans_81 (by decide) ?_
    refine lv_icmp_ge (tgt := 98) hx hb dX11_plans_82 (by decide) (fun hc => ?_) (fun hc => ?_)
    · replace h := ip hc h
      refine lv_aload_n hx hb dX11_plans_98 rfl (lv_at hl 0 rfl) ?_
      refine lv_iconst (v := 0) hx hb dX11_plans_99 (by decide) ?_
      refine va_put (D := (dC, dI)) (ci := 11) (ty := .int) (C := RX11) (T := TX11) (N := 95) hx hb hts inlX11 tyX11 tyX11_ok nmX11 hown hK hP hD hS 0 gB_0 rfl 73 (by decide) (hts (.fieldLink RX11 392 "ShapeReaderModel" "nodeMany" "I") mw_33_17) (fun _ h9 => h9) rfl (by decide +kernel) rfl rfl (Nat.le_of_ble_eq_true rfl) dX11_plans_100 (fun H locs hP hD hS => ?_)
      replace hP := uB_0_73 hP
      replace hD := hD0 ((stI σ 0 73 0))
      refine lv_aload_n hx hb dX11_plans_103 rfl (lv_at hl 0 rfl) ?_
      refine lv_iconst (v := 0) hx hb dX11_plans_104 (by decide) ?_
      refine va_put (D := (dC, dI)) (ci := 11) (ty := .int) (C := RX11) (T := TX11) (N := 95) hx hb hts inlX11 tyX11 tyX11_ok nmX11 hown hK hP hD hS 0 gB_0 rfl 81 (by decide) (hts (.fieldLink RX11 395 "ShapeReaderModel" "failureKind" "I") mw_33_18) (fun _ h9 => h9) rfl (by decide +kernel) rfl rfl (Nat.le_of_ble_eq_true rfl) dX11_plans_105 (fun H locs hP hD hS => ?_)
      replace hP := uB_0_81 hP
      replace hD := hD0 ((stI (stI σ 0 73 0) 0 81 0))
      refine lv_aload_n hx hb dX11_plans_108 rfl (lv_at hl 0 rfl) ?_
      refine lv_iconst (v := 0) hx hb dX11_plans_109 (by decide) ?_
      refine va_put (D := (dC, dI)) (ci := 11) (ty := .int) (C := RX11) (T := TX11) (N := 95) hx hb hts inlX11 tyX11 tyX11_ok nmX11 hown hK hP hD hS 0 gB_0 rfl 92 (by decide) (hts (.fieldLink RX11 398 "ShapeReaderModel" "keptMany" "I") mw_33_19) (fun _ h9 => h9) rfl (by decide +kernel) rfl rfl (Nat.le_of_ble_eq_true rfl) dX11_plans_110 (fun H locs hP hD hS => ?_)
      replace hP := uB_0_92 hP
      replace hD := hD0 ((stI (stI (stI σ 0 73 0) 0 81 0) 0 92 0))
      refine lv_aload_n hx hb dX11_plans_113 rfl (lv_at hl 0 rfl) ?_
      refine lv_iconst (v := 0) hx hb dX11_plans_114 (by decide) ?_
      refine va_put (D := (dC, dI)) (ci := 11) (ty := .int) (C := RX11) (T := TX11) (N := 95) hx hb hts inlX11 tyX11 tyX11_ok nmX11 hown hK hP hD hS 0 gB_0 rfl 93 (by decide) (hts (.fieldLink RX11 401 "ShapeReaderModel" "found" "I") mw_33_20) (fun _ h9 => h9) rfl (by decide +kernel) rfl rfl (Nat.le_of_ble_eq_true rfl) dX11_plans_115 (fun H locs hP hD hS => ?_)
      replace hP := uB_0_93 hP
      replace hD := hD0 ((stI (stI (stI (stI σ 0 73 0) 0 81 0) 0 92 0) 0 93 0))
      refine lv_aload_n hx hb dX11_plans_118 rfl (lv_at hl 0 rfl) ?_
      refine lv_iconst (v := 0) hx hb dX11_plans_119 (by decide) ?_
      refine va_put (D := (dC, dI)) (ci := 11) (ty := .int) (C := RX11) (T := TX11) (N := 95) hx hb hts inlX11 tyX11 tyX11_ok nmX11 hown hK hP hD hS 0 gB_0 rfl 94 (by decide) (hts (.fieldLink RX11 404 "ShapeReaderModel" "notFound" "I") mw_33_21) (fun _ h9 => h9) rfl (by decide +kernel) rfl rfl (Nat.le_of_ble_eq_true rfl) dX11_plans_120 (fun H locs hP hD hS => ?_)
      replace hP := uB_0_94 hP
      replace hD := hD0 ((stI (stI (stI (stI (stI σ 0 73 0) 0 81 0) 0 92 0) 0 93 0) 0 94 0))
      refine lv_aload_n hx hb dX11_plans_123 rfl (lv_at hl 0 rfl) ?_
      refine va_get (D := (dC, dI)) (ci := 11) (C := RX11) (T := TX11) (N := 95) hx hb hts inlX11 hown hK hP 0 gB_0 rfl 32 (by decide) (hts (.fieldLink RX11 377 "ShapeReaderModel" "planMany" "I") mw_33_5) (fun _ h9 => h9) rfl dX11_plans_124 ?_
      obtain ⟨rfl, rfl⟩ := Prod.mk.inj (Option.some.inj h)
      subst hκ
      exact W.iret hx hb hr (fun t ht hW => ⟨⟨_, (), rfl, rfl, ⟨by rw [ht]; exact hP, va_K.moved hW.alike hK, hD⟩⟩, hS.F ht⟩) hS.2.2 dX11_plans_127
    · replace h := iq hc h
      refine lv_aload_n hx hb dX11_plans_85 rfl (lv_at hl 0 rfl) ?_
      refine va_get (D := (dC, dI)) (ci := 11) (C := RX11) (T := TX11) (N := 95) hx hb hts inlX11 hown hK hP 0 gB_0 rfl 50 (by decide) (hts (.fieldLink RX11 106 "ShapeReaderModel" "messagePlan" "[I") mw_27_28) (fun _ h9 => h9) rfl dX11_plans_86 ?_
      refine lv_iload_n hx hb dX11_plans_89 rfl (lv_at hl 1 rfl) ?_
      refine lv_iconst (v := (-1)) hx hb dX11_plans_90 (by decide) ?_
      obtain ⟨hg1, h⟩ := ig h
      refine va_iast hx hb hK hP hD hS 32 31 gB_32 yB_32 (vp_in_iff.mpr hg1) dX11_plans_91 (fun H locs hP hD hS => ?_)
      replace hP := uB_32 hP
      replace hD := hD0 ((stI σ 32 x3.toNatClampNeg (-1)))
      refine lv_iinc (v := (x3 + 1)) (lv' := [(3, .int (x3 + 1)), (0, .ref (a 0))]) hx hb dX11_plans_92 hl (k := 1) rfl rfl (by decide) rfl (fun ls hl => ?_)
      refine lv_goto (tgt := 80) hx hb dX11_plans_95 (by decide) ?_
      exact ih _ _ _ _ h hκ _ _ _ hP hD hS (lv_sub hl [1, 0] rfl)

set_option maxRecDepth 100000 in
set_option maxHeartbeats 4000000 in
theorem b_X11_plans_62 {p : Program} {l : Launch} {e : Env} {s : State} {m : MethodId} {args : Array Value} {below : List Frame} {meth : Method} {c : Code} {dC : Nat → ClassId} {dI : Nat → Nat → Nat} {a : Nat → Nat} {k : Nat → ClassId} {A : Nat → Prop} {q : Int32 × ST} {T r κ : Nat} (hC : CxB p s m args meth c dC dI k A cX11_plans RX11 (some .int) 4)   {x2 : Int32} {σ : ST} (h : f_X11_plans_62  x2 σ = some (q, r)) (hκ : κ + r = T) : GkB p l e ({ frames := 349, cells := T, slots := 6 * T, locals := 8703 } : Room) s m args below meth c (MQ below (qBi dC dI a k A q) args s T (6 * T) A) dC dI a k A 4 62 κ σ [(0, .ref (a 0)), (2, .int x2)] [] := by
  have hC0 := hC
  obtain ⟨hx, hb, hr, hml, hown, hts, hlocks, hA, hN, hK⟩ := hC0
  intro H locs ls hP hD hS hl
  have hD0 : ∀ σ1 : ST, va_D A (wB a k σ1) := fun σ1 => wB_D hD
  unfold f_X11_plans_62 at h
  refine lv_iload_n hx hb dX11_plans_62 rfl (lv_at hl 1 rfl) ?_
  refine lv_if_ne (tgt := 74) hx hb dX11_plans_63 (by decide) (fun hc => ?_) (fun hc => ?_)
  · replace h := iq hc h
    refine lv_aload_n hx hb dX11_plans_74 rfl (lv_at hl 0 rfl) ?_
    obtain ⟨q1, hc, h⟩ := ib h
    have hF := va_frees hD hS hA
    refine va_callv (va_runV (As := []) (rest := []) ⟨hx, hb, hml, hown, hts⟩ (s_X11_takes hc) (cwV 0 hts (gV mw_33_14 mw_33_15 mw_33_16 mw_0_15 mw_55_6) rfl rfl rfl (by decide +kernel) ⟨(Nat.le_of_ble_eq_true rfl), (Nat.le_of_ble_eq_true rfl)⟩) (vV (ci := 11) (q0 := 0) hK hP hD hN rfl gB_0) rfl rfl hl.1 rfl (lv_room (Nat.le_of_ble_eq_true rfl)) dX11_plans_75 ⟨by show κ + 0 ≤ T; omega, by show 6 * κ + 0 ≤ 6 * T; omega⟩) hS (fun q _ h => hF q h) hF (fun u t H locs ht hvm hw hB _ _ hS => ?_)
    replace hP : va_P (dC, dI) vwCl (wB a k q1) H := by rw [← ht]; exact hB.1
    replace hD := hD0 (q1)
    clear hB hF
    refine lv_iconst (v := 0) hx hb dX11_plans_78 (by decide) ?_
    refine lv_istore_n (lv' := [(3, .int 0), (0, .ref (a 0)), (2, .int x2)]) hx hb dX11_plans_79 rfl hl (by decide) rfl (fun ls hl => ?_)
    exact b_X11_plans_80 hC FU _ _ _ _ h hκ _ _ _ hP hD hS (lv_sub hl [1, 0] rfl)
  · replace h := ip hc h
    refine lv_bipush (v := (-2)) hx hb dX11_plans_66 (by decide) ?_
    refine lv_aload_n hx hb dX11_plans_68 rfl (lv_at hl 0 rfl) ?_
    refine va_get (D := (dC, dI)) (ci := 11) (C := RX11) (T := TX11) (N := 95) hx hb hts inlX11 hown hK hP 0 gB_0 rfl 12 (by decide) (hts (.fieldLink RX11 265 "ShapeReaderModel" "fault" "I") mw_30_5) (fun _ h9 => h9) rfl dX11_plans_69 ?_
    refine lv_isub hx hb dX11_plans_72 ?_
    obtain ⟨rfl, rfl⟩ := Prod.mk.inj (Option.some.inj h)
    subst hκ
    exact W.iret hx hb hr (fun t ht hW => ⟨⟨_, (), rfl, rfl, ⟨by rw [ht]; exact hP, va_K.moved hW.alike hK, hD⟩⟩, hS.F ht⟩) hS.2.2 dX11_plans_73

set_option maxRecDepth 100000 in
set_option maxHeartbeats 4000000 in
theorem b_X11_plans_43 {p : Program} {l : Launch} {e : Env} {s : State} {m : MethodId} {args : Array Value} {below : List Frame} {meth : Method} {c : Code} {dC : Nat → ClassId} {dI : Nat → Nat → Nat} {a : Nat → Nat} {k : Nat → ClassId} {A : Nat → Prop} {q : Int32 × ST} {T : Nat} (hC : CxB p s m args meth c dC dI k A cX11_plans RX11 (some .int) 4)   : ∀ (n : Nat) (x2 : Int32) (σ : ST) (κ r : Nat), f_X11_plans_43  n x2 σ = some (q, r) → κ + r = T → GkB p l e ({ frames := 349, cells := T, slots := 6 * T, locals := 8703 } : Room) s m args below meth c (MQ below (qBi dC dI a k A q) args s T (6 * T) A) dC dI a k A 4 43 κ σ [(0, .ref (a 0)), (2, .int x2)] [] := by
  intro n
  induction n with
  | zero =>
    intro x2 σ κ r h
    rw [f_X11_plans_43] at h
    cases h
  | succ n ih =>
    intro x2 σ κ r h hκ
    have hC0 := hC
    obtain ⟨hx, hb, hr, hml, hown, hts, hlocks, hA, hN, hK⟩ := hC0
    intro H locs ls hP hD hS hl
    have hD0 : ∀ σ1 : ST, va_D A (wB a k σ1) := fun σ1 => wB_D hD
    rw [f_X11_plans_43] at h
    refine lv_iload_n hx hb dX11_plans_43 rfl (lv_at hl 1 rfl) ?_
    refine lv_if_eq (tgt := 62) hx hb dX11_plans_44 (by decide) (fun hc => ?_) (fun hc => ?_)
    · replace h := ip hc h
      exact b_X11_plans_62 hC h hκ _ _ _ hP hD hS (lv_sub hl [0, 1] rfl)
    · replace h := iq hc h
      refine lv_aload_n hx hb dX11_plans_47 rfl (lv_at hl 0 rfl) ?_
      refine va_get (D := (dC, dI)) (ci := 11) (C := RX11) (T := TX11) (N := 95) hx hb hts inlX11 hown hK hP 0 gB_0 rfl 6 (by decide) (hts (.fieldLink RX11 244 "ShapeReaderModel" "token" "I") mw_29_21) (fun _ h9 => h9) rfl dX11_plans_48 ?_
      refine lv_if_eq (tgt := 62) hx hb dX11_plans_51 (by decide) (fun hc => ?_) (fun hc => ?_)
      · replace h := ip hc h
        exact b_X11_plans_62 hC h hκ _ _ _ hP hD hS (lv_sub hl [0, 1] rfl)
      · replace h := iq hc h
        refine lv_aload_n hx hb dX11_plans_54 rfl (lv_at hl 0 rfl) ?_
        obtain ⟨q1, hc, h⟩ := ib h
        obtain ⟨r2, h, hz⟩ := acE h
        have hF := va_frees hD hS hA
        refine va_calli (va_runV (As := []) (rest := []) ⟨hx, hb, hml, hown, hts⟩ (s_X11_plan (q := q1.1) (r := q1.2) hc) (cwV 0 hts (gV mw_33_11 mw_33_12 mw_33_13 mw_0_15 mw_55_4) rfl rfl rfl (by decide +kernel) ⟨(Nat.le_of_ble_eq_true rfl), (Nat.le_of_ble_eq_true rfl)⟩) (vV (ci := 11) (q0 := 0) hK hP hD hN rfl gB_0) rfl rfl hl.1 rfl (lv_room (Nat.le_of_ble_eq_true rfl)) dX11_plans_55 ⟨by show κ + q1.2 ≤ T; omega, by show 6 * κ + 6 * q1.2 ≤ 6 * T; omega⟩) hS (fun q _ h => hF q h) hF (fun r2 u t H locs ht hvm hw hB _ _ hS => ?_)
        obtain rfl : r2 = q1.1.1 := hw
        replace hκ : (κ + q1.2) + r2 = T := by omega
        clear hz
        refine W.widen (k := (κ + q1.2)) (n := 6 * (κ + q1.2)) (Nat.le_refl _) (by omega) ?_
        replace hP : va_P (dC, dI) vwCl (wB a k q1.1.2) H := by rw [← ht]; exact hB.1
        replace hD := hD0 (q1.1.2)
        clear hB hF
        refine lv_istore_n (lv' := [(2, .int q1.1.1), (0, .ref (a 0))]) hx hb dX11_plans_58 rfl hl (by decide) rfl (fun ls hl => ?_)
        refine lv_goto (tgt := 43) hx hb dX11_plans_59 (by decide) ?_
        exact ih _ _ _ _ h hκ _ _ _ hP hD hS (lv_sub hl [1, 0] rfl)

set_option maxRecDepth 100000 in
set_option maxHeartbeats 4000000 in
theorem b_X11_plans_e {p : Program} {l : Launch} {e : Env} {s : State} {m : MethodId} {args : Array Value} {below : List Frame} {meth : Method} {c : Code} {dC : Nat → ClassId} {dI : Nat → Nat → Nat} {a : Nat → Nat} {k : Nat → ClassId} {A : Nat → Prop} {q : Int32 × ST} {T r : Nat} (hC : CxB p s m args meth c dC dI k A cX11_plans RX11 (some .int) 4)   {p0 : Int32} {σ : ST} (h : f_X11_plans  p0 σ = some (q, r)) (hκ : 0 + r = T) : GkB p l e ({ frames := 349, cells := T, slots := 6 * T, locals := 8703 } : Room) s m args below meth c (MQ below (qBi dC dI a k A q) args s T (6 * T) A) dC dI a k A 4 0 0 σ (lv_args 0 [.ref (a 0), .int p0]) [] := by
  have hC0 := hC
  obtain ⟨hx, hb, hr, hml, hown, hts, hlocks, hA, hN, hK⟩ := hC0
  intro H locs ls hP hD hS hl
  have hD0 : ∀ σ1 : ST, va_D A (wB a k σ1) := fun σ1 => wB_D hD
  replace hl : lv_has ls 4 [(0, .ref (a 0)), (1, .int p0)] := hl
  unfold f_X11_plans at h
  refine lv_aload_n hx hb dX11_plans_0 rfl (lv_at hl 0 rfl) ?_
  refine lv_iconst (v := 0) hx hb dX11_plans_1 (by decide) ?_
  refine va_put (D := (dC, dI)) (ci := 11) (ty := .int) (C := RX11) (T := TX11) (N := 95) hx hb hts inlX11 tyX11 tyX11_ok nmX11 hown hK hP hD hS 0 gB_0 rfl 0 (by decide) (hts (.fieldLink RX11 178 "ShapeReaderModel" "thrown" "I") mw_28_22) (fun _ h9 => h9) rfl (by decide +kernel) rfl rfl (Nat.le_of_ble_eq_true rfl) dX11_plans_2 (fun H locs hP hD hS => ?_)
  replace hP := uB_0_0 hP
  replace hD := hD0 ((stI σ 0 0 0))
  refine lv_iload_n hx hb dX11_plans_5 rfl (lv_at hl 1 rfl) ?_
  refine lv_i2l (v := p0.toInt64) hx hb dX11_plans_6 rfl ?_
  refine lv_lconst (v := 0) hx hb dX11_plans_7 (by decide) ?_
  refine lv_aload_n hx hb dX11_plans_8 rfl (lv_at hl 0 rfl) ?_
  refine va_get (D := (dC, dI)) (ci := 11) (C := RX11) (T := TX11) (N := 95) hx hb hts inlX11 hown hK hP 0 gB_0 rfl 2 (by decide) (hts (.fieldLink RX11 182 "ShapeReaderModel" "taped" "I") mw_28_23) (fun _ h9 => h9) rfl dX11_plans_9 ?_
  refine lv_i2l (v := ((stI σ 0 0 0).1 0 2).toInt64) hx hb dX11_plans_12 rfl ?_
  obtain ⟨q1, hc, h⟩ := ib h
  have hF := va_frees hD hS hA
  refine va_calli (va_runS (As := [.long (p0.toInt64), .long 0, .long (((stI σ 0 0 0).1 0 2).toInt64)]) (rest := []) ⟨hx, hb, hml, hown, hts⟩ (s_X11_within hc) (va_cwS 3 hts (gS mw_29_0 mw_29_1 mw_0_15 mw_53_26) rfl rfl rfl (by decide +kernel) ⟨(Nat.le_of_ble_eq_true rfl), (Nat.le_of_ble_eq_true rfl)⟩) (vS hK hP hD hN) rfl rfl hl.1 rfl (lv_room (Nat.le_of_ble_eq_true rfl)) dX11_plans_13 ⟨by show 0 + 0 ≤ T; omega, by show 6 * 0 + 0 ≤ 6 * T; omega⟩) hS (fun q _ h => hF q h) hF (fun r2 u t H locs ht hvm hw hB _ _ hS => ?_)
  obtain rfl : r2 = q1.1 := hw
  replace hP : va_P (dC, dI) vwCl (wB a k q1.2) H := by rw [← ht]; exact hB.1
  replace hD := hD0 (q1.2)
  clear hB hF
  refine lv_if_ne (tgt := 21) hx hb dX11_plans_16 (by decide) (fun hc => ?_) (fun hc => ?_)
  · replace h := iq hc h
    refine lv_aload_n hx hb dX11_plans_21 rfl (lv_at hl 0 rfl) ?_
    refine lv_iload_n hx hb dX11_plans_22 rfl (lv_at hl 1 rfl) ?_
    obtain ⟨q3, hc, h⟩ := ib h
    have hF := va_frees hD hS hA
    refine va_callv (va_runV (As := [.int p0]) (rest := []) ⟨hx, hb, hml, hown, hts⟩ (s_X11_begins hc) (cwV 1 hts (gV mw_33_8 mw_33_9 mw_33_10 mw_0_15 mw_55_7) rfl rfl rfl (by decide +kernel) ⟨(Nat.le_of_ble_eq_true rfl), (Nat.le_of_ble_eq_true rfl)⟩) (vV (ci := 11) (q0 := 0) hK hP hD hN rfl gB_0) rfl rfl hl.1 rfl (lv_room (Nat.le_of_ble_eq_true rfl)) dX11_plans_23 ⟨by show 0 + 0 ≤ T; omega, by show 6 * 0 + 0 ≤ 6 * T; omega⟩) hS (fun q _ h => hF q h) hF (fun u t H locs ht hvm hw hB _ _ hS => ?_)
    replace hP : va_P (dC, dI) vwCl (wB a k q3) H := by rw [← ht]; exact hB.1
    replace hD := hD0 (q3)
    clear hB hF
    refine lv_aload_n hx hb dX11_plans_26 rfl (lv_at hl 0 rfl) ?_
    refine lv_iconst (v := 0) hx hb dX11_plans_27 (by decide) ?_
    refine va_put (D := (dC, dI)) (ci := 11) (ty := .int) (C := RX11) (T := TX11) (N := 95) hx hb hts inlX11 tyX11 tyX11_ok nmX11 hown hK hP hD hS 0 gB_0 rfl 33 (by decide) (hts (.fieldLink RX11 368 "ShapeReaderModel" "readPlans" "I") mw_32_28) (fun _ h9 => h9) rfl (by decide +kernel) rfl rfl (Nat.le_of_ble_eq_true rfl) dX11_plans_28 (fun H locs hP hD hS => ?_)
    replace hP := uB_0_33 hP
    replace hD := hD0 ((stI q3 0 33 0))
    refine lv_aload_n hx hb dX11_plans_31 rfl (lv_at hl 0 rfl) ?_
    refine lv_sipush (v := 400) hx hb dX11_plans_32 (by decide) ?_
    refine va_put (D := (dC, dI)) (ci := 11) (ty := .int) (C := RX11) (T := TX11) (N := 95) hx hb hts inlX11 tyX11 tyX11_ok nmX11 hown hK hP hD hS 0 gB_0 rfl 34 (by decide) (hts (.fieldLink RX11 318 "ShapeReaderModel" "types" "I") mw_31_20) (fun _ h9 => h9) rfl (by decide +kernel) rfl rfl (Nat.le_of_ble_eq_true rfl) dX11_plans_35 (fun H locs hP hD hS => ?_)
    replace hP := uB_0_34 hP
    replace hD := hD0 ((stI (stI q3 0 33 0) 0 34 400))
    refine lv_aload_n hx hb dX11_plans_38 rfl (lv_at hl 0 rfl) ?_
    obtain ⟨q5, hc, h⟩ := ib h
    obtain ⟨r2, h, hz⟩ := acE h
    have hF := va_frees hD hS hA
    refine va_calli (va_runV (As := []) (rest := []) ⟨hx, hb, hml, hown, hts⟩ (s_X11_plan (q := q5.1) (r := q5.2) hc) (cwV 0 hts (gV mw_33_11 mw_33_12 mw_33_13 mw_0_15 mw_55_4) rfl rfl rfl (by decide +kernel) ⟨(Nat.le_of_ble_eq_true rfl), (Nat.le_of_ble_eq_true rfl)⟩) (vV (ci := 11) (q0 := 0) hK hP hD hN rfl gB_0) rfl rfl hl.1 rfl (lv_room (Nat.le_of_ble_eq_true rfl)) dX11_plans_39 ⟨by show 0 + q5.2 ≤ T; omega, by show 6 * 0 + 6 * q5.2 ≤ 6 * T; omega⟩) hS (fun q _ h => hF q h) hF (fun r6 u t H locs ht hvm hw hB _ _ hS => ?_)
    obtain rfl : r6 = q5.1.1 := hw
    replace hκ : (0 + q5.2) + r2 = T := by omega
    clear hz
    refine W.widen (k := (0 + q5.2)) (n := 6 * (0 + q5.2)) (Nat.le_refl _) (by omega) ?_
    replace hP : va_P (dC, dI) vwCl (wB a k q5.1.2) H := by rw [← ht]; exact hB.1
    replace hD := hD0 (q5.1.2)
    clear hB hF
    refine lv_istore_n (lv' := [(2, .int q5.1.1), (0, .ref (a 0)), (1, .int p0)]) hx hb dX11_plans_42 rfl hl (by decide) rfl (fun ls hl => ?_)
    exact b_X11_plans_43 hC FU _ _ _ _ h hκ _ _ _ hP hD hS (lv_sub hl [1, 0] rfl)
  · replace h := ip hc h
    refine lv_iconst (v := (-1)) hx hb dX11_plans_19 (by decide) ?_
    obtain ⟨rfl, rfl⟩ := Prod.mk.inj (Option.some.inj h)
    subst hκ
    exact W.iret hx hb hr (fun t ht hW => ⟨⟨_, (), rfl, rfl, ⟨by rw [ht]; exact hP, va_K.moved hW.alike hK, hD⟩⟩, hS.F ht⟩) hS.2.2 dX11_plans_20

theorem s_X11_plans {l : Launch} {dC : Nat → ClassId} {dI : Nat → Nat → Nat} {a : Nat → Nat} {k : Nat → ClassId} {sz : Nat} {p0 : Int32} {σ : ST} {q : Int32 × ST} {r : Nat} (h : f_X11_plans  p0 σ = some (q, r)) : Met l yX11_plans (.code yX11_plans cX11_plans 4 (some .int) :: pw) ({ frames := 349, cells := r, slots := 6 * r, locals := 8703 } : Room) (va_Pc [.ref (a 0), .int p0] (vPre dC dI (wB a k σ) (tB k) sz)) (qBi dC dI a k (va_A (wB a k σ) sz) q) r (6 * r) (va_A (wB a k σ) sz) := mekB (fun A => qBi dC dI a k A q) (plainFor_of_name (by decide)) (Nat.le_of_ble_eq_true rfl) (fun _ _ _ _ _ _ _ _ hC => b_X11_plans_e hC h (Nat.zero_add _))

def f_X11_readers_59 (k30 : Int32 → Int32 → Int32 → Int32 → ST → Option (Int32 × ST)) (x1 : Int32) (x2 : Int32) (x4 : Int32) (y0 : Int32) (y1 : Int32) (σ : ST) : Option (Int32 × ST) := k30 x1 x2 (y1 ||| y0) (x4 + 1) σ
def f_X11_readers_30  : Nat → Int32 → Int32 → Int32 → Int32 → ST → Option (Int32 × ST)
  | 0, _, _, _, _, _ => none
  | n + 1, x1, x2, x3, x4, σ => if (σ.1 0 32) ≤ x4 then (some (x3, σ)) else ((f_X11_verdict  x1 x4 σ).bind fun q1 => if x2 < q1.1 then (f_X11_readers_59 (f_X11_readers_30  n) x1 x2 x4 0 x3 q1.2) else (f_X11_readers_59 (f_X11_readers_30  n) x1 x2 x4 (1 <<< (x4 &&& 31)) x3 q1.2))
def f_X11_readers (p0 : Int32) (p1 : Int32) (σ : ST) : Option (Int32 × ST) := (f_X11_isPlanAt  p0 (stI σ 0 0 0)).bind fun q1 => if q1.1 = 0 then (some ((-1), q1.2)) else ((f_X11_within  (p1.toInt64) 0 1 q1.2).bind fun q3 => if q3.1 = 0 then (some ((-1), q3.2)) else (f_X11_readers_30  FU p0 p1 0 0 q3.2))

set_option maxRecDepth 100000 in
set_option maxHeartbeats 4000000 in
theorem b_X11_readers_59 {p : Program} {l : Launch} {e : Env} {s : State} {m : MethodId} {args : Array Value} {below : List Frame} {meth : Method} {c : Code} {dC : Nat → ClassId} {dI : Nat → Nat → Nat} {a : Nat → Nat} {k : Nat → ClassId} {A : Nat → Prop} {q : Int32 × ST} (hC : CxB p s m args meth c dC dI k A cX11_readers RX11 (some .int) 5)  {k30 : Int32 → Int32 → Int32 → Int32 → ST → Option (Int32 × ST)} (hk30 : ∀ (x1 : Int32) (x2 : Int32) (x3 : Int32) (x4 : Int32) (σ : ST), k30 x1 x2 x3 x4 σ = some q → GoB p l e ({ frames := 686, cells := 0, slots := 0, locals := 17436 } : Room) s m args below meth c (MQ below (qBi dC dI a k A q) args s 0 0 A) dC dI a k A 5 30 σ [(0, .ref (a 0)), (1, .int x1), (2, .int x2), (3, .int x3), (4, .int x4)] []) {x1 : Int32} {x2 : Int32} {x4 : Int32} {y0 : Int32} {y1 : Int32} {σ : ST} (h : f_X11_readers_59 k30 x1 x2 x4 y0 y1 σ = some q) : GoB p l e ({ frames := 686, cells := 0, slots := 0, locals := 17436 } : Room) s m args below meth c (MQ below (qBi dC dI a k A q) args s 0 0 A) dC dI a k A 5 59 σ [(0, .ref (a 0)), (1, .int x1), (2, .int x2), (4, .int x4)] [.int y0, .int y1] := by
  have hC0 := hC
  obtain ⟨hx, hb, hr, hml, hown, hts, hlocks, hA, hN, hK⟩ := hC0
  intro H locs ls hP hD hS hl
  have hD0 : ∀ σ1 : ST, va_D A (wB a k σ1) := fun σ1 => wB_D hD
  unfold f_X11_readers_59 at h
  refine lv_ior hx hb dX11_readers_59 ?_
  refine lv_istore_n (lv' := [(3, .int (y1 ||| y0)), (0, .ref (a 0)), (1, .int x1), (2, .int x2), (4, .int x4)]) hx hb dX11_readers_60 rfl hl (by decide) rfl (fun ls hl => ?_)
  refine lv_iinc (v := (x4 + 1)) (lv' := [(4, .int (x4 + 1)), (3, .int (y1 ||| y0)), (0, .ref (a 0)), (1, .int x1), (2, .int x2)]) hx hb dX11_readers_61 hl (k := 4) rfl rfl (by decide) rfl (fun ls hl => ?_)
  refine lv_goto (tgt := 30) hx hb dX11_readers_64 (by decide) ?_
  exact hk30 _ _ _ _ _ h _ _ _ hP hD hS (lv_sub hl [2, 3, 4, 1, 0] rfl)

set_option maxRecDepth 100000 in
set_option maxHeartbeats 4000000 in
theorem b_X11_readers_30 {p : Program} {l : Launch} {e : Env} {s : State} {m : MethodId} {args : Array Value} {below : List Frame} {meth : Method} {c : Code} {dC : Nat → ClassId} {dI : Nat → Nat → Nat} {a : Nat → Nat} {k : Nat → ClassId} {A : Nat → Prop} {q : Int32 × ST} (hC : CxB p s m args meth c dC dI k A cX11_readers RX11 (some .int) 5)   : ∀ (n : Nat) (x1 : Int32) (x2 : Int32) (x3 : Int32) (x4 : Int32) (σ : ST), f_X11_readers_30  n x1 x2 x3 x4 σ = some q → GoB p l e ({ frames := 686, cells := 0, slots := 0, locals := 17436 } : Room) s m args below meth c (MQ below (qBi dC dI a k A q) args s 0 0 A) dC dI a k A 5 30 σ [(0, .ref (a 0)), (1, .int x1), (2, .int x2), (3, .int x3), (4, .int x4)] [] := by
  intro n
  induction n with
  | zero =>
    intro x1 x2 x3 x4 σ h
    rw [f_X11_readers_30] at h
    cases h
  | succ n ih =>
    intro x1 x2 x3 x4 σ h
    have hC0 := hC
    obtain ⟨hx, hb, hr, hml, hown, hts, hlocks, hA, hN, hK⟩ := hC0
    intro H locs ls hP hD hS hl
    have hD0 : ∀ σ1 : ST, va_D A (wB a k σ1) := fun σ1 => wB_D hD
    rw [f_X11_readers_30] at h
    refine lv_iload hx hb dX11_readers_30 (lv_at hl 4 rfl) ?_
    refine lv_aload_n hx hb dX11_readers_32 rfl (lv_at hl 0 rfl) ?_
    refine va_get (D := (dC, dI)) (ci := 11) (C := RX11) (T := TX11) (N := 95) hx hb hts inlX11 hown hK hP 0 gB_0 rfl 32 (by decide) (hts (.fieldLink RX11 377 "ShapeReaderModel" "planMany" "I") mw_33_5) (fun _ h9 => h9) rfl dX11_readers_33 ?_
    refine lv_icmp_ge (tgt := 67) hx hb dX11_readers_36 (by decide) (fun hc => ?_) (fun hc => ?_)
    · replace h := ip hc h
      refine lv_iload_n hx hb dX11_readers_67 rfl (lv_at hl 3 rfl) ?_
      obtain rfl := Option.some.inj h
      exact W.iret hx hb hr (fun t ht hW => ⟨⟨_, (), rfl, rfl, ⟨by rw [ht]; exact hP, va_K.moved hW.alike hK, hD⟩⟩, hS.F ht⟩) hS.2.2 dX11_readers_68
    · replace h := iq hc h
      refine lv_iload_n hx hb dX11_readers_39 rfl (lv_at hl 3 rfl) ?_
      refine lv_aload_n hx hb dX11_readers_40 rfl (lv_at hl 0 rfl) ?_
      refine lv_iload_n hx hb dX11_readers_41 rfl (lv_at hl 1 rfl) ?_
      refine lv_iload hx hb dX11_readers_42 (lv_at hl 4 rfl) ?_
      obtain ⟨q1, hc, h⟩ := ib h
      have hF := va_frees hD hS hA
      refine va_calli (va_runV (As := [.int x1, .int x4]) (rest := [.int x3]) ⟨hx, hb, hml, hown, hts⟩ (s_X11_verdict hc) (cwV 2 hts (gV mw_37_7 mw_37_8 mw_37_9 mw_0_15 mw_56_17) rfl rfl rfl (by decide +kernel) ⟨(Nat.le_of_ble_eq_true rfl), (Nat.le_of_ble_eq_true rfl)⟩) (vV (ci := 11) (q0 := 0) hK hP hD hN rfl gB_0) rfl rfl hl.1 rfl (lv_room (Nat.le_of_ble_eq_true rfl)) dX11_readers_44 ⟨(Nat.le_of_ble_eq_true rfl), (Nat.le_of_ble_eq_true rfl)⟩) hS (fun q _ h => hF q h) hF (fun r2 u t H locs ht hvm hw hB _ _ hS => ?_)
      obtain rfl : r2 = q1.1 := hw
      replace hP : va_P (dC, dI) vwCl (wB a k q1.2) H := by rw [← ht]; exact hB.1
      replace hD := hD0 (q1.2)
      clear hB hF
      refine lv_iload_n hx hb dX11_readers_47 rfl (lv_at hl 2 rfl) ?_
      refine lv_icmp_gt (tgt := 58) hx hb dX11_readers_48 (by decide) (fun hc => ?_) (fun hc => ?_)
      · replace h := ip hc h
        refine lv_iconst (v := 0) hx hb dX11_readers_58 (by decide) ?_
        exact b_X11_readers_59 hC ih h _ _ _ hP hD hS (lv_sub hl [0, 1, 2, 4] rfl)
      · replace h := iq hc h
        refine lv_iconst (v := 1) hx hb dX11_readers_51 (by decide) ?_
        refine lv_iload hx hb dX11_readers_52 (lv_at hl 4 rfl) ?_
        refine lv_ishl hx hb dX11_readers_54 ?_
        refine lv_goto (tgt := 59) hx hb dX11_readers_55 (by decide) ?_
        exact b_X11_readers_59 hC ih h _ _ _ hP hD hS (lv_sub hl [0, 1, 2, 4] rfl)

set_option maxRecDepth 100000 in
set_option maxHeartbeats 4000000 in
theorem b_X11_readers_e {p : Program} {l : Launch} {e : Env} {s : State} {m : MethodId} {args : Array Value} {below : List Frame} {meth : Method} {c : Code} {dC : Nat → ClassId} {dI : Nat → Nat → Nat} {a : Nat → Nat} {k : Nat → ClassId} {A : Nat → Prop} {q : Int32 × ST} (hC : CxB p s m args meth c dC dI k A cX11_readers RX11 (some .int) 5)   {p0 : Int32} {p1 : Int32} {σ : ST} (h : f_X11_readers  p0 p1 σ = some q) : GoB p l e ({ frames := 686, cells := 0, slots := 0, locals := 17436 } : Room) s m args below meth c (MQ below (qBi dC dI a k A q) args s 0 0 A) dC dI a k A 5 0 σ (lv_args 0 [.ref (a 0), .int p0, .int p1]) [] := by
  have hC0 := hC
  obtain ⟨hx, hb, hr, hml, hown, hts, hlocks, hA, hN, hK⟩ := hC0
  intro H locs ls hP hD hS hl
  have hD0 : ∀ σ1 : ST, va_D A (wB a k σ1) := fun σ1 => wB_D hD
  replace hl : lv_has ls 5 [(0, .ref (a 0)), (1, .int p0), (2, .int p1)] := hl
  unfold f_X11_readers at h
  refine lv_aload_n hx hb dX11_readers_0 rfl (lv_at hl 0 rfl) ?_
  refine lv_iconst (v := 0) hx hb dX11_readers_1 (by decide) ?_
  refine va_put (D := (dC, dI)) (ci := 11) (ty := .int) (C := RX11) (T := TX11) (N := 95) hx hb hts inlX11 tyX11 tyX11_ok nmX11 hown hK hP hD hS 0 gB_0 rfl 0 (by decide) (hts (.fieldLink RX11 178 "ShapeReaderModel" "thrown" "I") mw_28_22) (fun _ h9 => h9) rfl (by decide +kernel) rfl rfl (Nat.le_of_ble_eq_true rfl) dX11_readers_2 (fun H locs hP hD hS => ?_)
  replace hP := uB_0_0 hP
  replace hD := hD0 ((stI σ 0 0 0))
  refine lv_aload_n hx hb dX11_readers_5 rfl (lv_at hl 0 rfl) ?_
  refine lv_iload_n hx hb dX11_readers_6 rfl (lv_at hl 1 rfl) ?_
  obtain ⟨q1, hc, h⟩ := ib h
  have hF := va_frees hD hS hA
  refine va_calli (va_runV (As := [.int p0]) (rest := []) ⟨hx, hb, hml, hown, hts⟩ (s_X11_isPlanAt hc) (cwV 1 hts (gV mw_33_22 mw_33_23 mw_33_24 mw_0_15 mw_55_9) rfl rfl rfl (by decide +kernel) ⟨(Nat.le_of_ble_eq_true rfl), (Nat.le_of_ble_eq_true rfl)⟩) (vV (ci := 11) (q0 := 0) hK hP hD hN rfl gB_0) rfl rfl hl.1 rfl (lv_room (Nat.le_of_ble_eq_true rfl)) dX11_readers_7 ⟨(Nat.le_of_ble_eq_true rfl), (Nat.le_of_ble_eq_true rfl)⟩) hS (fun q _ h => hF q h) hF (fun r2 u t H locs ht hvm hw hB _ _ hS => ?_)
  obtain rfl : r2 = q1.1 := hw
  replace hP : va_P (dC, dI) vwCl (wB a k q1.2) H := by rw [← ht]; exact hB.1
  replace hD := hD0 (q1.2)
  clear hB hF
  refine lv_if_eq (tgt := 23) hx hb dX11_readers_10 (by decide) (fun hc => ?_) (fun hc => ?_)
  · replace h := ip hc h
    refine lv_iconst (v := (-1)) hx hb dX11_readers_23 (by decide) ?_
    obtain rfl := Option.some.inj h
    exact W.iret hx hb hr (fun t ht hW => ⟨⟨_, (), rfl, rfl, ⟨by rw [ht]; exact hP, va_K.moved hW.alike hK, hD⟩⟩, hS.F ht⟩) hS.2.2 dX11_readers_24
  · replace h := iq hc h
    refine lv_iload_n hx hb dX11_readers_13 rfl (lv_at hl 2 rfl) ?_
    refine lv_i2l (v := p1.toInt64) hx hb dX11_readers_14 rfl ?_
    refine lv_lconst (v := 0) hx hb dX11_readers_15 (by decide) ?_
    refine lv_lconst (v := 1) hx hb dX11_readers_16 (by decide) ?_
    obtain ⟨q3, hc, h⟩ := ib h
    have hF := va_frees hD hS hA
    refine va_calli (va_runS (As := [.long (p1.toInt64), .long 0, .long 1]) (rest := []) ⟨hx, hb, hml, hown, hts⟩ (s_X11_within hc) (va_cwS 3 hts (gS mw_29_0 mw_29_1 mw_0_15 mw_53_26) rfl rfl rfl (by decide +kernel) ⟨(Nat.le_of_ble_eq_true rfl), (Nat.le_of_ble_eq_true rfl)⟩) (vS hK hP hD hN) rfl rfl hl.1 rfl (lv_room (Nat.le_of_ble_eq_true rfl)) dX11_readers_17 ⟨(Nat.le_of_ble_eq_true rfl), (Nat.le_of_ble_eq_true rfl)⟩) hS (fun q _ h => hF q h) hF (fun r4 u t H locs ht hvm hw hB _ _ hS => ?_)
    obtain rfl : r4 = q3.1 := hw
    replace hP : va_P (dC, dI) vwCl (wB a k q3.2) H := by rw [← ht]; exact hB.1
    replace hD := hD0 (q3.2)
    clear hB hF
    refine lv_if_ne (tgt := 25) hx hb dX11_readers_20 (by decide) (fun hc => ?_) (fun hc => ?_)
    · replace h := iq hc h
      refine lv_iconst (v := 0) hx hb dX11_readers_25 (by decide) ?_
      refine lv_istore_n (lv' := [(3, .int 0), (0, .ref (a 0)), (1, .int p0), (2, .int p1)]) hx hb dX11_readers_26 rfl hl (by decide) rfl (fun ls hl => ?_)
      refine lv_iconst (v := 0) hx hb dX11_readers_27 (by decide) ?_
      refine lv_istore (lv' := [(4, .int 0), (3, .int 0), (0, .ref (a 0)), (1, .int p0), (2, .int p1)]) hx hb dX11_readers_28 hl (by decide) rfl (fun ls hl => ?_)
      exact b_X11_readers_30 hC FU _ _ _ _ _ h _ _ _ hP hD hS (lv_sub hl [2, 3, 4, 1, 0] rfl)
    · replace h := ip hc h
      refine lv_iconst (v := (-1)) hx hb dX11_readers_23 (by decide) ?_
      obtain rfl := Option.some.inj h
      exact W.iret hx hb hr (fun t ht hW => ⟨⟨_, (), rfl, rfl, ⟨by rw [ht]; exact hP, va_K.moved hW.alike hK, hD⟩⟩, hS.F ht⟩) hS.2.2 dX11_readers_24

theorem s_X11_readers {l : Launch} {dC : Nat → ClassId} {dI : Nat → Nat → Nat} {a : Nat → Nat} {k : Nat → ClassId} {sz : Nat} {p0 : Int32} {p1 : Int32} {σ : ST} {q : Int32 × ST} (h : f_X11_readers  p0 p1 σ = some q) : Met l yX11_readers (.code yX11_readers cX11_readers 5 (some .int) :: pw) ({ frames := 686, cells := 0, slots := 0, locals := 17436 } : Room) (va_Pc [.ref (a 0), .int p0, .int p1] (vPre dC dI (wB a k σ) (tB k) sz)) (qBi dC dI a k (va_A (wB a k σ) sz) q) 0 0 (va_A (wB a k σ) sz) := metB (fun A => qBi dC dI a k A q) (plainFor_of_name (by decide)) (Nat.le_of_ble_eq_true rfl) (fun _ _ _ _ _ _ _ _ hC => b_X11_readers_e hC h)

def f_X11_record_ (p0 : Int32) (p1 : Int32) (p2 : Int32) (σ : ST) : Option (Int32 × ST) := (f_X11_isPlanAt  p0 (stI σ 0 0 0)).bind fun q1 => if q1.1 = 0 then (some ((-1), q1.2)) else (if p1 = (-1) then (if 0 ≤ p0.toInt ∧ p0.toInt < 12 then (some ((q1.2.1 8 p0.toNatClampNeg), q1.2)) else none) else ((f_X11_within  (p2.toInt64) 0 1 q1.2).bind fun q3 => if q3.1 = 0 then (some ((-1), q3.2)) else (if 0 ≤ p0.toInt ∧ p0.toInt < 12 then ((f_X11_within  (p1.toInt64) 0 (((q3.2.1 8 p0.toNatClampNeg) - 1).toInt64) q3.2).bind fun q6 => if q6.1 = 0 then (some ((-1), q6.2)) else (if p2 = 0 then (if 0 ≤ ((6 * p0) + p1).toInt ∧ ((6 * p0) + p1).toInt < 72 then (some ((q6.2.1 11 ((6 * p0) + p1).toNatClampNeg), q6.2)) else none) else (if 0 ≤ ((6 * p0) + p1).toInt ∧ ((6 * p0) + p1).toInt < 72 then (some ((q6.2.1 10 ((6 * p0) + p1).toNatClampNeg), q6.2)) else none))) else none)))

set_option maxRecDepth 100000 in
set_option maxHeartbeats 4000000 in
theorem b_X11_record__e {p : Program} {l : Launch} {e : Env} {s : State} {m : MethodId} {args : Array Value} {below : List Frame} {meth : Method} {c : Code} {dC : Nat → ClassId} {dI : Nat → Nat → Nat} {a : Nat → Nat} {k : Nat → ClassId} {A : Nat → Prop} {q : Int32 × ST} (hC : CxB p s m args meth c dC dI k A cX11_record_ RX11 (some .int) 5)   {p0 : Int32} {p1 : Int32} {p2 : Int32} {σ : ST} (h : f_X11_record_  p0 p1 p2 σ = some q) : GoB p l e ({ frames := 2, cells := 0, slots := 0, locals := 46 } : Room) s m args below meth c (MQ below (qBi dC dI a k A q) args s 0 0 A) dC dI a k A 5 0 σ (lv_args 0 [.ref (a 0), .int p0, .int p1, .int p2]) [] := by
  have hC0 := hC
  obtain ⟨hx, hb, hr, hml, hown, hts, hlocks, hA, hN, hK⟩ := hC0
  intro H locs ls hP hD hS hl
  have hD0 : ∀ σ1 : ST, va_D A (wB a k σ1) := fun σ1 => wB_D hD
  replace hl : lv_has ls 5 [(0, .ref (a 0)), (1, .int p0), (2, .int p1), (3, .int p2)] := hl
  unfold f_X11_record_ at h
  refine lv_aload_n hx hb dX11_record__0 rfl (lv_at hl 0 rfl) ?_
  refine lv_iconst (v := 0) hx hb dX11_record__1 (by decide) ?_
  refine va_put (D := (dC, dI)) (ci := 11) (ty := .int) (C := RX11) (T := TX11) (N := 95) hx hb hts inlX11 tyX11 tyX11_ok nmX11 hown hK hP hD hS 0 gB_0 rfl 0 (by decide) (hts (.fieldLink RX11 178 "ShapeReaderModel" "thrown" "I") mw_28_22) (fun _ h9 => h9) rfl (by decide +kernel) rfl rfl (Nat.le_of_ble_eq_true rfl) dX11_record__2 (fun H locs hP hD hS => ?_)
  replace hP := uB_0_0 hP
  replace hD := hD0 ((stI σ 0 0 0))
  refine lv_aload_n hx hb dX11_record__5 rfl (lv_at hl 0 rfl) ?_
  refine lv_iload_n hx hb dX11_record__6 rfl (lv_at hl 1 rfl) ?_
  obtain ⟨q1, hc, h⟩ := ib h
  have hF := va_frees hD hS hA
  refine va_calli (va_runV (As := [.int p0]) (rest := []) ⟨hx, hb, hml, hown, hts⟩ (s_X11_isPlanAt hc) (cwV 1 hts (gV mw_33_22 mw_33_23 mw_33_24 mw_0_15 mw_55_9) rfl rfl rfl (by decide +kernel) ⟨(Nat.le_of_ble_eq_true rfl), (Nat.le_of_ble_eq_true rfl)⟩) (vV (ci := 11) (q0 := 0) hK hP hD hN rfl gB_0) rfl rfl hl.1 rfl (lv_room (Nat.le_of_ble_eq_true rfl)) dX11_record__7 ⟨(Nat.le_of_ble_eq_true rfl), (Nat.le_of_ble_eq_true rfl)⟩) hS (fun q _ h => hF q h) hF (fun r2 u t H locs ht hvm hw hB _ _ hS => ?_)
  obtain rfl : r2 = q1.1 := hw
  replace hP : va_P (dC, dI) vwCl (wB a k q1.2) H := by rw [← ht]; exact hB.1
  replace hD := hD0 (q1.2)
  clear hB hF
  refine lv_if_ne (tgt := 15) hx hb dX11_record__10 (by decide) (fun hc => ?_) (fun hc => ?_)
  · replace h := iq hc h
    refine lv_iload_n hx hb dX11_record__15 rfl (lv_at hl 2 rfl) ?_
    refine lv_iconst (v := (-1)) hx hb dX11_record__16 (by decide) ?_
    refine lv_icmp_ne (tgt := 27) hx hb dX11_record__17 (by decide) (fun hc => ?_) (fun hc => ?_)
    · replace h := iq hc h
      refine lv_iload_n hx hb dX11_record__27 rfl (lv_at hl 3 rfl) ?_
      refine lv_i2l (v := p2.toInt64) hx hb dX11_record__28 rfl ?_
      refine lv_lconst (v := 0) hx hb dX11_record__29 (by decide) ?_
      refine lv_lconst (v := 1) hx hb dX11_record__30 (by decide) ?_
      obtain ⟨q3, hc, h⟩ := ib h
      have hF := va_frees hD hS hA
      refine va_calli (va_runS (As := [.long (p2.toInt64), .long 0, .long 1]) (rest := []) ⟨hx, hb, hml, hown, hts⟩ (s_X11_within hc) (va_cwS 3 hts (gS mw_29_0 mw_29_1 mw_0_15 mw_53_26) rfl rfl rfl (by decide +kernel) ⟨(Nat.le_of_ble_eq_true rfl), (Nat.le_of_ble_eq_true rfl)⟩) (vS hK hP hD hN) rfl rfl hl.1 rfl (lv_room (Nat.le_of_ble_eq_true rfl)) dX11_record__31 ⟨(Nat.le_of_ble_eq_true rfl), (Nat.le_of_ble_eq_true rfl)⟩) hS (fun q _ h => hF q h) hF (fun r4 u t H locs ht hvm hw hB _ _ hS => ?_)
      obtain rfl : r4 = q3.1 := hw
      replace hP : va_P (dC, dI) vwCl (wB a k q3.2) H := by rw [← ht]; exact hB.1
      replace hD := hD0 (q3.2)
      clear hB hF
      refine lv_if_ne (tgt := 39) hx hb dX11_record__34 (by decide) (fun hc => ?_) (fun hc => ?_)
      · replace h := iq hc h
        refine lv_bipush (v := 6) hx hb dX11_record__39 (by decide) ?_
        refine lv_iload_n hx hb dX11_record__41 rfl (lv_at hl 1 rfl) ?_
        refine lv_imul hx hb dX11_record__42 ?_
        refine lv_iload_n hx hb dX11_record__43 rfl (lv_at hl 2 rfl) ?_
        refine lv_iadd hx hb dX11_record__44 ?_
        refine lv_istore (lv' := [(4, .int ((6 * p0) + p1)), (0, .ref (a 0)), (1, .int p0), (2, .int p1), (3, .int p2)]) hx hb dX11_record__45 hl (by decide) rfl (fun ls hl => ?_)
        refine lv_iload_n hx hb dX11_record__47 rfl (lv_at hl 3 rfl) ?_
        refine lv_i2l (v := p1.toInt64) hx hb dX11_record__48 rfl ?_
        refine lv_lconst (v := 0) hx hb dX11_record__49 (by decide) ?_
        refine lv_aload_n hx hb dX11_record__50 rfl (lv_at hl 1 rfl) ?_
        refine va_get (D := (dC, dI)) (ci := 11) (C := RX11) (T := TX11) (N := 95) hx hb hts inlX11 hown hK hP 0 gB_0 rfl 20 (by decide) (hts (.fieldLink RX11 33 "ShapeReaderModel" "recordMany" "[I") mw_27_4) (fun _ h9 => h9) rfl dX11_record__51 ?_
        refine lv_iload_n hx hb dX11_record__54 rfl (lv_at hl 2 rfl) ?_
        obtain ⟨hg5, h⟩ := ig h
        refine va_iald hx hb hK hP 8 7 gB_8 yB_8 (vp_in_iff.mpr hg5) dX11_record__55 ?_
        refine lv_iconst (v := 1) hx hb dX11_record__56 (by decide) ?_
        refine lv_isub hx hb dX11_record__57 ?_
        refine lv_i2l (v := ((q3.2.1 8 p0.toNatClampNeg) - 1).toInt64) hx hb dX11_record__58 rfl ?_
        obtain ⟨q6, hc, h⟩ := ib h
        have hF := va_frees hD hS hA
        refine va_calli (va_runS (As := [.long (p1.toInt64), .long 0, .long (((q3.2.1 8 p0.toNatClampNeg) - 1).toInt64)]) (rest := []) ⟨hx, hb, hml, hown, hts⟩ (s_X11_within hc) (va_cwS 3 hts (gS mw_29_0 mw_29_1 mw_0_15 mw_53_26) rfl rfl rfl (by decide +kernel) ⟨(Nat.le_of_ble_eq_true rfl), (Nat.le_of_ble_eq_true rfl)⟩) (vS hK hP hD hN) rfl rfl hl.1 rfl (lv_room (Nat.le_of_ble_eq_true rfl)) dX11_record__59 ⟨(Nat.le_of_ble_eq_true rfl), (Nat.le_of_ble_eq_true rfl)⟩) hS (fun q _ h => hF q h) hF (fun r7 u t H locs ht hvm hw hB _ _ hS => ?_)
        obtain rfl : r7 = q6.1 := hw
        replace hP : va_P (dC, dI) vwCl (wB a k q6.2) H := by rw [← ht]; exact hB.1
        replace hD := hD0 (q6.2)
        clear hB hF
        refine lv_if_ne (tgt := 69) hx hb dX11_record__62 (by decide) (fun hc => ?_) (fun hc => ?_)
        · replace h := iq hc h
          refine lv_iload_n hx hb dX11_record__69 rfl (lv_at hl 4 rfl) ?_
          refine lv_if_ne (tgt := 83) hx hb dX11_record__70 (by decide) (fun hc => ?_) (fun hc => ?_)
          · replace h := iq hc h
            refine lv_aload_n hx hb dX11_record__83 rfl (lv_at hl 1 rfl) ?_
            refine va_get (D := (dC, dI)) (ci := 11) (C := RX11) (T := TX11) (N := 95) hx hb hts inlX11 hown hK hP 0 gB_0 rfl 22 (by decide) (hts (.fieldLink RX11 39 "ShapeReaderModel" "recordLetters" "[I") mw_27_6) (fun _ h9 => h9) rfl dX11_record__84 ?_
            refine lv_iload hx hb dX11_record__87 (lv_at hl 0 rfl) ?_
            obtain ⟨hg8, h⟩ := ig h
            refine va_iald hx hb hK hP 10 9 gB_10 yB_10 (vp_in_iff.mpr hg8) dX11_record__89 ?_
            obtain rfl := Option.some.inj h
            exact W.iret hx hb hr (fun t ht hW => ⟨⟨_, (), rfl, rfl, ⟨by rw [ht]; exact hP, va_K.moved hW.alike hK, hD⟩⟩, hS.F ht⟩) hS.2.2 dX11_record__90
          · replace h := ip hc h
            refine lv_aload_n hx hb dX11_record__73 rfl (lv_at hl 1 rfl) ?_
            refine va_get (D := (dC, dI)) (ci := 11) (C := RX11) (T := TX11) (N := 95) hx hb hts inlX11 hown hK hP 0 gB_0 rfl 23 (by decide) (hts (.fieldLink RX11 42 "ShapeReaderModel" "fieldMany" "[I") mw_27_7) (fun _ h9 => h9) rfl dX11_record__74 ?_
            refine lv_iload hx hb dX11_record__77 (lv_at hl 0 rfl) ?_
            obtain ⟨hg9, h⟩ := ig h
            refine va_iald hx hb hK hP 11 10 gB_11 yB_11 (vp_in_iff.mpr hg9) dX11_record__79 ?_
            refine lv_goto (tgt := 90) hx hb dX11_record__80 (by decide) ?_
            obtain rfl := Option.some.inj h
            exact W.iret hx hb hr (fun t ht hW => ⟨⟨_, (), rfl, rfl, ⟨by rw [ht]; exact hP, va_K.moved hW.alike hK, hD⟩⟩, hS.F ht⟩) hS.2.2 dX11_record__90
        · replace h := ip hc h
          refine lv_iconst (v := (-1)) hx hb dX11_record__65 (by decide) ?_
          refine lv_goto (tgt := 90) hx hb dX11_record__66 (by decide) ?_
          obtain rfl := Option.some.inj h
          exact W.iret hx hb hr (fun t ht hW => ⟨⟨_, (), rfl, rfl, ⟨by rw [ht]; exact hP, va_K.moved hW.alike hK, hD⟩⟩, hS.F ht⟩) hS.2.2 dX11_record__90
      · replace h := ip hc h
        refine lv_iconst (v := (-1)) hx hb dX11_record__37 (by decide) ?_
        obtain rfl := Option.some.inj h
        exact W.iret hx hb hr (fun t ht hW => ⟨⟨_, (), rfl, rfl, ⟨by rw [ht]; exact hP, va_K.moved hW.alike hK, hD⟩⟩, hS.F ht⟩) hS.2.2 dX11_record__38
    · replace h := ip hc h
      refine lv_aload_n hx hb dX11_record__20 rfl (lv_at hl 0 rfl) ?_
      refine va_get (D := (dC, dI)) (ci := 11) (C := RX11) (T := TX11) (N := 95) hx hb hts inlX11 hown hK hP 0 gB_0 rfl 20 (by decide) (hts (.fieldLink RX11 33 "ShapeReaderModel" "recordMany" "[I") mw_27_4) (fun _ h9 => h9) rfl dX11_record__21 ?_
      refine lv_iload_n hx hb dX11_record__24 rfl (lv_at hl 1 rfl) ?_
      obtain ⟨hg10, h⟩ := ig h
      refine va_iald hx hb hK hP 8 7 gB_8 yB_8 (vp_in_iff.mpr hg10) dX11_record__25 ?_
      obtain rfl := Option.some.inj h
      exact W.iret hx hb hr (fun t ht hW => ⟨⟨_, (), rfl, rfl, ⟨by rw [ht]; exact hP, va_K.moved hW.alike hK, hD⟩⟩, hS.F ht⟩) hS.2.2 dX11_record__26
  · replace h := ip hc h
    refine lv_iconst (v := (-1)) hx hb dX11_record__13 (by decide) ?_
    obtain rfl := Option.some.inj h
    exact W.iret hx hb hr (fun t ht hW => ⟨⟨_, (), rfl, rfl, ⟨by rw [ht]; exact hP, va_K.moved hW.alike hK, hD⟩⟩, hS.F ht⟩) hS.2.2 dX11_record__14

theorem s_X11_record_ {l : Launch} {dC : Nat → ClassId} {dI : Nat → Nat → Nat} {a : Nat → Nat} {k : Nat → ClassId} {sz : Nat} {p0 : Int32} {p1 : Int32} {p2 : Int32} {σ : ST} {q : Int32 × ST} (h : f_X11_record_  p0 p1 p2 σ = some q) : Met l yX11_record_ (.code yX11_record_ cX11_record_ 5 (some .int) :: pw) ({ frames := 2, cells := 0, slots := 0, locals := 46 } : Room) (va_Pc [.ref (a 0), .int p0, .int p1, .int p2] (vPre dC dI (wB a k σ) (tB k) sz)) (qBi dC dI a k (va_A (wB a k σ) sz) q) 0 0 (va_A (wB a k σ) sz) := metB (fun A => qBi dC dI a k A q) (plainFor_of_name (by decide)) (Nat.le_of_ble_eq_true rfl) (fun _ _ _ _ _ _ _ _ hC => b_X11_record__e hC h)

def f_X11_spoil (p0 : Int32) (p1 : Int32) (p2 : Int32) (σ : ST) : Option (Int32 × ST) := (f_X11_isByte  p0 p1 (stI σ 0 0 0)).bind fun q1 => if q1.1 = 0 then (some ((-1), q1.2)) else (if 0 ≤ ((400 * p0) + p1).toInt ∧ ((400 * p0) + p1).toInt < 1600 then ((some (stI q1.2 34 ((400 * p0) + p1).toNatClampNeg (vp_nar .byte ((((q1.2.1 34 ((400 * p0) + p1).toNatClampNeg) &&& 255) ^^^ p2).toInt8.toInt32)))).bind fun z4 => some (((q1.2.1 34 ((400 * p0) + p1).toNatClampNeg) &&& 255), z4)) else none)

set_option maxRecDepth 100000 in
set_option maxHeartbeats 4000000 in
theorem b_X11_spoil_e {p : Program} {l : Launch} {e : Env} {s : State} {m : MethodId} {args : Array Value} {below : List Frame} {meth : Method} {c : Code} {dC : Nat → ClassId} {dI : Nat → Nat → Nat} {a : Nat → Nat} {k : Nat → ClassId} {A : Nat → Prop} {q : Int32 × ST} (hC : CxB p s m args meth c dC dI k A cX11_spoil RX11 (some .int) 5)   {p0 : Int32} {p1 : Int32} {p2 : Int32} {σ : ST} (h : f_X11_spoil  p0 p1 p2 σ = some q) : GoB p l e ({ frames := 3, cells := 0, slots := 0, locals := 68 } : Room) s m args below meth c (MQ below (qBi dC dI a k A q) args s 0 0 A) dC dI a k A 5 0 σ (lv_args 0 [.ref (a 0), .int p0, .int p1, .int p2]) [] := by
  have hC0 := hC
  obtain ⟨hx, hb, hr, hml, hown, hts, hlocks, hA, hN, hK⟩ := hC0
  intro H locs ls hP hD hS hl
  have hD0 : ∀ σ1 : ST, va_D A (wB a k σ1) := fun σ1 => wB_D hD
  replace hl : lv_has ls 5 [(0, .ref (a 0)), (1, .int p0), (2, .int p1), (3, .int p2)] := hl
  unfold f_X11_spoil at h
  refine lv_aload_n hx hb dX11_spoil_0 rfl (lv_at hl 0 rfl) ?_
  refine lv_iconst (v := 0) hx hb dX11_spoil_1 (by decide) ?_
  refine va_put (D := (dC, dI)) (ci := 11) (ty := .int) (C := RX11) (T := TX11) (N := 95) hx hb hts inlX11 tyX11 tyX11_ok nmX11 hown hK hP hD hS 0 gB_0 rfl 0 (by decide) (hts (.fieldLink RX11 178 "ShapeReaderModel" "thrown" "I") mw_28_22) (fun _ h9 => h9) rfl (by decide +kernel) rfl rfl (Nat.le_of_ble_eq_true rfl) dX11_spoil_2 (fun H locs hP hD hS => ?_)
  replace hP := uB_0_0 hP
  replace hD := hD0 ((stI σ 0 0 0))
  refine lv_aload_n hx hb dX11_spoil_5 rfl (lv_at hl 0 rfl) ?_
  refine lv_iload_n hx hb dX11_spoil_6 rfl (lv_at hl 1 rfl) ?_
  refine lv_iload_n hx hb dX11_spoil_7 rfl (lv_at hl 2 rfl) ?_
  obtain ⟨q1, hc, h⟩ := ib h
  have hF := va_frees hD hS hA
  refine va_calli (va_runV (As := [.int p0, .int p1]) (rest := []) ⟨hx, hb, hml, hown, hts⟩ (s_X11_isByte hc) (cwV 2 hts (gV mw_35_27 mw_35_28 mw_35_29 mw_0_15 mw_56_2) rfl rfl rfl (by decide +kernel) ⟨(Nat.le_of_ble_eq_true rfl), (Nat.le_of_ble_eq_true rfl)⟩) (vV (ci := 11) (q0 := 0) hK hP hD hN rfl gB_0) rfl rfl hl.1 rfl (lv_room (Nat.le_of_ble_eq_true rfl)) dX11_spoil_8 ⟨(Nat.le_of_ble_eq_true rfl), (Nat.le_of_ble_eq_true rfl)⟩) hS (fun q _ h => hF q h) hF (fun r2 u t H locs ht hvm hw hB _ _ hS => ?_)
  obtain rfl : r2 = q1.1 := hw
  replace hP : va_P (dC, dI) vwCl (wB a k q1.2) H := by rw [← ht]; exact hB.1
  replace hD := hD0 (q1.2)
  clear hB hF
  refine lv_if_ne (tgt := 16) hx hb dX11_spoil_11 (by decide) (fun hc => ?_) (fun hc => ?_)
  · replace h := iq hc h
    refine lv_aload_n hx hb dX11_spoil_16 rfl (lv_at hl 0 rfl) ?_
    refine va_get (D := (dC, dI)) (ci := 11) (C := RX11) (T := TX11) (N := 95) hx hb hts inlX11 hown hK hP 0 gB_0 rfl 52 (by decide) (hts (.fieldLink RX11 112 "ShapeReaderModel" "bytes" "[B") mw_28_0) (fun _ h9 => h9) rfl dX11_spoil_17 ?_
    refine lv_sipush (v := 400) hx hb dX11_spoil_20 (by decide) ?_
    refine lv_iload_n hx hb dX11_spoil_23 rfl (lv_at hl 1 rfl) ?_
    refine lv_imul hx hb dX11_spoil_24 ?_
    refine lv_iload_n hx hb dX11_spoil_25 rfl (lv_at hl 2 rfl) ?_
    refine lv_iadd hx hb dX11_spoil_26 ?_
    obtain ⟨hg3, h⟩ := ig h
    refine va_bald hx hb hK hP 34 33 gB_34 yB_34 (vp_in_iff.mpr hg3) dX11_spoil_27 ?_
    refine lv_sipush (v := 255) hx hb dX11_spoil_28 (by decide) ?_
    refine lv_iand hx hb dX11_spoil_31 ?_
    refine lv_istore (lv' := [(4, .int ((q1.2.1 34 ((400 * p0) + p1).toNatClampNeg) &&& 255)), (0, .ref (a 0)), (1, .int p0), (2, .int p1), (3, .int p2)]) hx hb dX11_spoil_32 hl (by decide) rfl (fun ls hl => ?_)
    refine lv_aload_n hx hb dX11_spoil_34 rfl (lv_at hl 1 rfl) ?_
    refine va_get (D := (dC, dI)) (ci := 11) (C := RX11) (T := TX11) (N := 95) hx hb hts inlX11 hown hK hP 0 gB_0 rfl 52 (by decide) (hts (.fieldLink RX11 112 "ShapeReaderModel" "bytes" "[B") mw_28_0) (fun _ h9 => h9) rfl dX11_spoil_35 ?_
    refine lv_sipush (v := 400) hx hb dX11_spoil_38 (by decide) ?_
    refine lv_iload_n hx hb dX11_spoil_41 rfl (lv_at hl 2 rfl) ?_
    refine lv_imul hx hb dX11_spoil_42 ?_
    refine lv_iload_n hx hb dX11_spoil_43 rfl (lv_at hl 3 rfl) ?_
    refine lv_iadd hx hb dX11_spoil_44 ?_
    refine lv_iload hx hb dX11_spoil_45 (lv_at hl 0 rfl) ?_
    refine lv_iload_n hx hb dX11_spoil_47 rfl (lv_at hl 4 rfl) ?_
    refine lv_ixor hx hb dX11_spoil_48 ?_
    refine lv_i2b (v := (((q1.2.1 34 ((400 * p0) + p1).toNatClampNeg) &&& 255) ^^^ p2).toInt8.toInt32) hx hb dX11_spoil_49 rfl ?_
    refine va_bast hx hb hK hP hD hS 34 33 gB_34 yB_34 (vp_in_iff.mpr hg3) dX11_spoil_50 (fun H locs hP hD hS => ?_)
    replace hP := uB_34 hP
    replace hD := hD0 ((stI q1.2 34 ((400 * p0) + p1).toNatClampNeg (vp_nar .byte ((((q1.2.1 34 ((400 * p0) + p1).toNatClampNeg) &&& 255) ^^^ p2).toInt8.toInt32))))
    obtain ⟨z4, hs, h⟩ := ib h
    replace hs := Option.some.inj hs
    replace hP : va_P (dC, dI) vwCl (wB a k z4) H := by rw [← hs]; exact hP
    replace hD := hD0 z4
    clear hs
    refine lv_iload hx hb dX11_spoil_51 (lv_at hl 0 rfl) ?_
    obtain rfl := Option.some.inj h
    exact W.iret hx hb hr (fun t ht hW => ⟨⟨_, (), rfl, rfl, ⟨by rw [ht]; exact hP, va_K.moved hW.alike hK, hD⟩⟩, hS.F ht⟩) hS.2.2 dX11_spoil_53
  · replace h := ip hc h
    refine lv_iconst (v := (-1)) hx hb dX11_spoil_14 (by decide) ?_
    obtain rfl := Option.some.inj h
    exact W.iret hx hb hr (fun t ht hW => ⟨⟨_, (), rfl, rfl, ⟨by rw [ht]; exact hP, va_K.moved hW.alike hK, hD⟩⟩, hS.F ht⟩) hS.2.2 dX11_spoil_15

theorem s_X11_spoil {l : Launch} {dC : Nat → ClassId} {dI : Nat → Nat → Nat} {a : Nat → Nat} {k : Nat → ClassId} {sz : Nat} {p0 : Int32} {p1 : Int32} {p2 : Int32} {σ : ST} {q : Int32 × ST} (h : f_X11_spoil  p0 p1 p2 σ = some q) : Met l yX11_spoil (.code yX11_spoil cX11_spoil 5 (some .int) :: pw) ({ frames := 3, cells := 0, slots := 0, locals := 68 } : Room) (va_Pc [.ref (a 0), .int p0, .int p1, .int p2] (vPre dC dI (wB a k σ) (tB k) sz)) (qBi dC dI a k (va_A (wB a k σ) sz) q) 0 0 (va_A (wB a k σ) sz) := metB (fun A => qBi dC dI a k A q) (plainFor_of_name (by decide)) (Nat.le_of_ble_eq_true rfl) (fun _ _ _ _ _ _ _ _ hC => b_X11_spoil_e hC h)

def f_X11_value__22 (x1 : Int32) (y0 : Int32) (σ : ST) : Option (Int64 × ST) := if ((stI σ 0 0 y0).1 0 0) ≤ 0 then (if 0 ≤ x1.toInt ∧ x1.toInt < 400 then (some (((stI σ 0 0 y0).2.1 47 x1.toNatClampNeg), (stI σ 0 0 y0))) else none) else (some (0, (stI σ 0 0 y0)))
def f_X11_value_ (p0 : Int32) (σ : ST) : Option (Int64 × ST) := (f_X11_within  (p0.toInt64) 0 (((σ.1 0 73) - 1).toInt64) σ).bind fun q1 => if q1.1 = 0 then (f_X11_value__22  p0 1 q1.2) else (f_X11_value__22  p0 0 q1.2)

set_option maxRecDepth 100000 in
set_option maxHeartbeats 4000000 in
theorem b_X11_value__22 {p : Program} {l : Launch} {e : Env} {s : State} {m : MethodId} {args : Array Value} {below : List Frame} {meth : Method} {c : Code} {dC : Nat → ClassId} {dI : Nat → Nat → Nat} {a : Nat → Nat} {k : Nat → ClassId} {A : Nat → Prop} {q : Int64 × ST} (hC : CxB p s m args meth c dC dI k A cX11_value_ RX11 (some .long) 2)   {x1 : Int32} {y0 : Int32} {σ : ST} (h : f_X11_value__22  x1 y0 σ = some q) : GoB p l e ({ frames := 1, cells := 0, slots := 0, locals := 25 } : Room) s m args below meth c (MQ below (qBl dC dI a k A q) args s 0 0 A) dC dI a k A 2 22 σ [(0, .ref (a 0)), (1, .int x1)] [.int y0, .ref (a 0)] := by
  have hC0 := hC
  obtain ⟨hx, hb, hr, hml, hown, hts, hlocks, hA, hN, hK⟩ := hC0
  intro H locs ls hP hD hS hl
  have hD0 : ∀ σ1 : ST, va_D A (wB a k σ1) := fun σ1 => wB_D hD
  unfold f_X11_value__22 at h
  refine va_put (D := (dC, dI)) (ci := 11) (ty := .int) (C := RX11) (T := TX11) (N := 95) hx hb hts inlX11 tyX11 tyX11_ok nmX11 hown hK hP hD hS 0 gB_0 rfl 0 (by decide) (hts (.fieldLink RX11 178 "ShapeReaderModel" "thrown" "I") mw_28_22) (fun _ h9 => h9) rfl (by decide +kernel) rfl rfl (Nat.le_of_ble_eq_true rfl) dX11_value__22 (fun H locs hP hD hS => ?_)
  replace hP := uB_0_0 hP
  replace hD := hD0 ((stI σ 0 0 y0))
  refine lv_aload_n hx hb dX11_value__25 rfl (lv_at hl 0 rfl) ?_
  refine va_get (D := (dC, dI)) (ci := 11) (C := RX11) (T := TX11) (N := 95) hx hb hts inlX11 hown hK hP 0 gB_0 rfl 0 (by decide) (hts (.fieldLink RX11 178 "ShapeReaderModel" "thrown" "I") mw_28_22) (fun _ h9 => h9) rfl dX11_value__26 ?_
  refine lv_if_le (tgt := 36) hx hb dX11_value__29 (by decide) (fun hc => ?_) (fun hc => ?_)
  · replace h := ip hc h
    refine lv_aload_n hx hb dX11_value__36 rfl (lv_at hl 0 rfl) ?_
    refine va_get (D := (dC, dI)) (ci := 11) (C := RX11) (T := TX11) (N := 95) hx hb hts inlX11 hown hK hP 0 gB_0 rfl 79 (by decide) (hts (.fieldLink RX11 151 "ShapeReaderModel" "toldBits" "[J") mw_28_13) (fun _ h9 => h9) rfl dX11_value__37 ?_
    refine lv_iload_n hx hb dX11_value__40 rfl (lv_at hl 1 rfl) ?_
    obtain ⟨hg1, h⟩ := ig h
    refine va_lald hx hb hK hP 47 46 gB_47 yB_47 (vp_in_iff.mpr hg1) dX11_value__41 ?_
    obtain rfl := Option.some.inj h
    exact W.lret hx hb hr (fun t ht hW => ⟨⟨_, (), rfl, rfl, ⟨by rw [ht]; exact hP, va_K.moved hW.alike hK, hD⟩⟩, hS.F ht⟩) hS.2.2 dX11_value__42
  · replace h := iq hc h
    refine lv_lconst (v := 0) hx hb dX11_value__32 (by decide) ?_
    refine lv_goto (tgt := 42) hx hb dX11_value__33 (by decide) ?_
    obtain rfl := Option.some.inj h
    exact W.lret hx hb hr (fun t ht hW => ⟨⟨_, (), rfl, rfl, ⟨by rw [ht]; exact hP, va_K.moved hW.alike hK, hD⟩⟩, hS.F ht⟩) hS.2.2 dX11_value__42

set_option maxRecDepth 100000 in
set_option maxHeartbeats 4000000 in
theorem b_X11_value__e {p : Program} {l : Launch} {e : Env} {s : State} {m : MethodId} {args : Array Value} {below : List Frame} {meth : Method} {c : Code} {dC : Nat → ClassId} {dI : Nat → Nat → Nat} {a : Nat → Nat} {k : Nat → ClassId} {A : Nat → Prop} {q : Int64 × ST} (hC : CxB p s m args meth c dC dI k A cX11_value_ RX11 (some .long) 2)   {p0 : Int32} {σ : ST} (h : f_X11_value_  p0 σ = some q) : GoB p l e ({ frames := 1, cells := 0, slots := 0, locals := 25 } : Room) s m args below meth c (MQ below (qBl dC dI a k A q) args s 0 0 A) dC dI a k A 2 0 σ (lv_args 0 [.ref (a 0), .int p0]) [] := by
  have hC0 := hC
  obtain ⟨hx, hb, hr, hml, hown, hts, hlocks, hA, hN, hK⟩ := hC0
  intro H locs ls hP hD hS hl
  have hD0 : ∀ σ1 : ST, va_D A (wB a k σ1) := fun σ1 => wB_D hD
  replace hl : lv_has ls 2 [(0, .ref (a 0)), (1, .int p0)] := hl
  unfold f_X11_value_ at h
  refine lv_aload_n hx hb dX11_value__0 rfl (lv_at hl 0 rfl) ?_
  refine lv_iload_n hx hb dX11_value__1 rfl (lv_at hl 1 rfl) ?_
  refine lv_i2l (v := p0.toInt64) hx hb dX11_value__2 rfl ?_
  refine lv_lconst (v := 0) hx hb dX11_value__3 (by decide) ?_
  refine lv_aload_n hx hb dX11_value__4 rfl (lv_at hl 0 rfl) ?_
  refine va_get (D := (dC, dI)) (ci := 11) (C := RX11) (T := TX11) (N := 95) hx hb hts inlX11 hown hK hP 0 gB_0 rfl 73 (by decide) (hts (.fieldLink RX11 392 "ShapeReaderModel" "nodeMany" "I") mw_33_17) (fun _ h9 => h9) rfl dX11_value__5 ?_
  refine lv_iconst (v := 1) hx hb dX11_value__8 (by decide) ?_
  refine lv_isub hx hb dX11_value__9 ?_
  refine lv_i2l (v := ((σ.1 0 73) - 1).toInt64) hx hb dX11_value__10 rfl ?_
  obtain ⟨q1, hc, h⟩ := ib h
  have hF := va_frees hD hS hA
  refine va_calli (va_runS (As := [.long (p0.toInt64), .long 0, .long (((σ.1 0 73) - 1).toInt64)]) (rest := [.ref (a 0)]) ⟨hx, hb, hml, hown, hts⟩ (s_X11_within hc) (va_cwS 3 hts (gS mw_29_0 mw_29_1 mw_0_15 mw_53_26) rfl rfl rfl (by decide +kernel) ⟨(Nat.le_of_ble_eq_true rfl), (Nat.le_of_ble_eq_true rfl)⟩) (vS hK hP hD hN) rfl rfl hl.1 rfl (lv_room (Nat.le_of_ble_eq_true rfl)) dX11_value__11 ⟨(Nat.le_of_ble_eq_true rfl), (Nat.le_of_ble_eq_true rfl)⟩) hS (fun q _ h => hF q h) hF (fun r2 u t H locs ht hvm hw hB _ _ hS => ?_)
  obtain rfl : r2 = q1.1 := hw
  replace hP : va_P (dC, dI) vwCl (wB a k q1.2) H := by rw [← ht]; exact hB.1
  replace hD := hD0 (q1.2)
  clear hB hF
  refine lv_if_eq (tgt := 21) hx hb dX11_value__14 (by decide) (fun hc => ?_) (fun hc => ?_)
  · replace h := ip hc h
    refine lv_iconst (v := 1) hx hb dX11_value__21 (by decide) ?_
    exact b_X11_value__22 hC h _ _ _ hP hD hS (lv_sub hl [0, 1] rfl)
  · replace h := iq hc h
    refine lv_iconst (v := 0) hx hb dX11_value__17 (by decide) ?_
    refine lv_goto (tgt := 22) hx hb dX11_value__18 (by decide) ?_
    exact b_X11_value__22 hC h _ _ _ hP hD hS (lv_sub hl [0, 1] rfl)

theorem s_X11_value_ {l : Launch} {dC : Nat → ClassId} {dI : Nat → Nat → Nat} {a : Nat → Nat} {k : Nat → ClassId} {sz : Nat} {p0 : Int32} {σ : ST} {q : Int64 × ST} (h : f_X11_value_  p0 σ = some q) : Met l yX11_value_ (.code yX11_value_ cX11_value_ 2 (some .long) :: pw) ({ frames := 1, cells := 0, slots := 0, locals := 25 } : Room) (va_Pc [.ref (a 0), .int p0] (vPre dC dI (wB a k σ) (tB k) sz)) (qBl dC dI a k (va_A (wB a k σ) sz) q) 0 0 (va_A (wB a k σ) sz) := metB (fun A => qBl dC dI a k A q) (plainFor_of_name (by decide)) (Nat.le_of_ble_eq_true rfl) (fun _ _ _ _ _ _ _ _ hC => b_X11_value__e hC h)

def f_X11_write_129 (x4 : Int32) (σ : ST) : Option ((Int32 × ST) × Nat) := if x4 = 0 then (some ((((-2) - (σ.1 0 12)), σ), 0)) else (some (((σ.1 0 48), σ), 0))
def f_X11_write_118 (x1 : Int32) (x2 : Int32) (x4 : Int32) (σ : ST) : Option ((Int32 × ST) × Nat) := if x4 = 0 then (f_X11_write_129  x4 σ) else ((f_X11_becomes  x1 x2 σ).bind fun q1 => f_X11_write_129  x4 q1)
def f_X11_write_116 (x1 : Int32) (x2 : Int32) (y0 : Int32) (σ : ST) : Option ((Int32 × ST) × Nat) := f_X11_write_118  x1 x2 y0 σ
def f_X11_write_111 (x1 : Int32) (x2 : Int32) (σ : ST) : Option ((Int32 × ST) × Nat) := f_X11_write_116  x1 x2 1 σ
def f_X11_write_84 (x1 : Int32) (x2 : Int32) (x3 : Int32) (x4 : Int32) (σ : ST) : Option ((Int32 × ST) × Nat) := if x4 = 0 then (f_X11_write_118  x1 x2 x4 σ) else ((f_X11_writesTree  0 σ).bind fun q1 => if (q1.1 0 49) = 0 then (f_X11_write_111  x1 x2 q1) else ((f_X11_wrong  7 x3 q1).bind fun q3 => if q3.1 = 0 then (f_X11_write_116  x1 x2 0 q3.2) else (f_X11_write_111  x1 x2 q3.2)))
def f_X11_write (p0 : Int32) (p1 : Int32) (p2 : Int32) (σ : ST) : Option ((Int32 × ST) × Nat) := (f_X11_within  (p0.toInt64) 0 3 (stI σ 0 0 0)).bind fun q1 => if q1.1 = 0 then (some (((-1), q1.2), 0)) else ((f_X11_isPlanAt  p1 q1.2).bind fun q3 => if q3.1 = 0 then (some (((-1), q3.2), 0)) else ((f_X11_within  (p2.toInt64) 0 ((q3.2.1 0 2).toInt64) q3.2).bind fun q5 => if q5.1 = 0 then (some (((-1), q5.2), 0)) else ((f_X11_begins  p2 q5.2).bind fun q7 => (f_X11_rootType   (stI q7 0 46 0)).bind fun q9 => (f_T_X11_value  p1 q9.1 0 (-1) 0 q9.2).bind fun q11 => ac q11.2 (if q11.1.1 = 0 then (f_X11_write_84  p0 p1 p2 q11.1.1 q11.1.2) else (if (q11.1.2.1 0 6) = 0 then (f_X11_write_84  p0 p1 p2 q11.1.1 q11.1.2) else ((f_X11_wrongHere  1 q11.1.2).bind fun q13 => f_X11_write_84  p0 p1 p2 q13.1 q13.2))))))

set_option maxRecDepth 100000 in
set_option maxHeartbeats 4000000 in
theorem b_X11_write_129 {p : Program} {l : Launch} {e : Env} {s : State} {m : MethodId} {args : Array Value} {below : List Frame} {meth : Method} {c : Code} {dC : Nat → ClassId} {dI : Nat → Nat → Nat} {a : Nat → Nat} {k : Nat → ClassId} {A : Nat → Prop} {q : Int32 × ST} {T r κ : Nat} (hC : CxB p s m args meth c dC dI k A cX11_write RX11 (some .int) 5)   {x4 : Int32} {σ : ST} (h : f_X11_write_129  x4 σ = some (q, r)) (hκ : κ + r = T) : GkB p l e ({ frames := 347, cells := T, slots := 6 * T, locals := 10018 } : Room) s m args below meth c (MQ below (qBi dC dI a k A q) args s T (6 * T) A) dC dI a k A 5 129 κ σ [(0, .ref (a 0)), (4, .int x4)] [] := by
  have hC0 := hC
  obtain ⟨hx, hb, hr, hml, hown, hts, hlocks, hA, hN, hK⟩ := hC0
  intro H locs ls hP hD hS hl
  have hD0 : ∀ σ1 : ST, va_D A (wB a k σ1) := fun σ1 => wB_D hD
  unfold f_X11_write_129 at h
  refine lv_iload hx hb dX11_write_129 (lv_at hl 1 rfl) ?_
  refine lv_if_eq (tgt := 141) hx hb dX11_write_131 (by decide) (fun hc => ?_) (fun hc => ?_)
  · replace h := ip hc h
    refine lv_bipush (v := (-2)) hx hb dX11_write_141 (by decide) ?_
    refine lv_aload_n hx hb dX11_write_143 rfl (lv_at hl 0 rfl) ?_
    refine va_get (D := (dC, dI)) (ci := 11) (C := RX11) (T := TX11) (N := 95) hx hb hts inlX11 hown hK hP 0 gB_0 rfl 12 (by decide) (hts (.fieldLink RX11 265 "ShapeReaderModel" "fault" "I") mw_30_5) (fun _ h9 => h9) rfl dX11_write_144 ?_
    refine lv_isub hx hb dX11_write_147 ?_
    obtain ⟨rfl, rfl⟩ := Prod.mk.inj (Option.some.inj h)
    subst hκ
    exact W.iret hx hb hr (fun t ht hW => ⟨⟨_, (), rfl, rfl, ⟨by rw [ht]; exact hP, va_K.moved hW.alike hK, hD⟩⟩, hS.F ht⟩) hS.2.2 dX11_write_148
  · replace h := iq hc h
    refine lv_aload_n hx hb dX11_write_134 rfl (lv_at hl 0 rfl) ?_
    refine va_get (D := (dC, dI)) (ci := 11) (C := RX11) (T := TX11) (N := 95) hx hb hts inlX11 hown hK hP 0 gB_0 rfl 48 (by decide) (hts (.fieldLink RX11 448 "ShapeReaderModel" "writtenMany" "I") mw_34_26) (fun _ h9 => h9) rfl dX11_write_135 ?_
    refine lv_goto (tgt := 148) hx hb dX11_write_138 (by decide) ?_
    obtain ⟨rfl, rfl⟩ := Prod.mk.inj (Option.some.inj h)
    subst hκ
    exact W.iret hx hb hr (fun t ht hW => ⟨⟨_, (), rfl, rfl, ⟨by rw [ht]; exact hP, va_K.moved hW.alike hK, hD⟩⟩, hS.F ht⟩) hS.2.2 dX11_write_148

set_option maxRecDepth 100000 in
set_option maxHeartbeats 4000000 in
theorem b_X11_write_118 {p : Program} {l : Launch} {e : Env} {s : State} {m : MethodId} {args : Array Value} {below : List Frame} {meth : Method} {c : Code} {dC : Nat → ClassId} {dI : Nat → Nat → Nat} {a : Nat → Nat} {k : Nat → ClassId} {A : Nat → Prop} {q : Int32 × ST} {T r κ : Nat} (hC : CxB p s m args meth c dC dI k A cX11_write RX11 (some .int) 5)   {x1 : Int32} {x2 : Int32} {x4 : Int32} {σ : ST} (h : f_X11_write_118  x1 x2 x4 σ = some (q, r)) (hκ : κ + r = T) : GkB p l e ({ frames := 347, cells := T, slots := 6 * T, locals := 10018 } : Room) s m args below meth c (MQ below (qBi dC dI a k A q) args s T (6 * T) A) dC dI a k A 5 118 κ σ [(0, .ref (a 0)), (1, .int x1), (2, .int x2), (4, .int x4)] [] := by
  have hC0 := hC
  obtain ⟨hx, hb, hr, hml, hown, hts, hlocks, hA, hN, hK⟩ := hC0
  intro H locs ls hP hD hS hl
  have hD0 : ∀ σ1 : ST, va_D A (wB a k σ1) := fun σ1 => wB_D hD
  unfold f_X11_write_118 at h
  refine lv_iload hx hb dX11_write_118 (lv_at hl 3 rfl) ?_
  refine lv_if_eq (tgt := 129) hx hb dX11_write_120 (by decide) (fun hc => ?_) (fun hc => ?_)
  · replace h := ip hc h
    exact b_X11_write_129 hC h hκ _ _ _ hP hD hS (lv_sub hl [0, 3] rfl)
  · replace h := iq hc h
    refine lv_aload_n hx hb dX11_write_123 rfl (lv_at hl 0 rfl) ?_
    refine lv_iload_n hx hb dX11_write_124 rfl (lv_at hl 1 rfl) ?_
    refine lv_iload_n hx hb dX11_write_125 rfl (lv_at hl 2 rfl) ?_
    obtain ⟨q1, hc, h⟩ := ib h
    have hF := va_frees hD hS hA
    refine va_callv (va_runV (As := [.int x1, .int x2]) (rest := []) ⟨hx, hb, hml, hown, hts⟩ (s_X11_becomes hc) (cwV 2 hts (gV mw_35_21 mw_35_22 mw_35_23 mw_0_15 mw_55_27) rfl rfl rfl (by decide +kernel) ⟨(Nat.le_of_ble_eq_true rfl), (Nat.le_of_ble_eq_true rfl)⟩) (vV (ci := 11) (q0 := 0) hK hP hD hN rfl gB_0) rfl rfl hl.1 rfl (lv_room (Nat.le_of_ble_eq_true rfl)) dX11_write_126 ⟨by show κ + 0 ≤ T; omega, by show 6 * κ + 0 ≤ 6 * T; omega⟩) hS (fun q _ h => hF q h) hF (fun u t H locs ht hvm hw hB _ _ hS => ?_)
    replace hP : va_P (dC, dI) vwCl (wB a k q1) H := by rw [← ht]; exact hB.1
    replace hD := hD0 (q1)
    clear hB hF
    exact b_X11_write_129 hC h hκ _ _ _ hP hD hS (lv_sub hl [0, 3] rfl)

set_option maxRecDepth 100000 in
set_option maxHeartbeats 4000000 in
theorem b_X11_write_116 {p : Program} {l : Launch} {e : Env} {s : State} {m : MethodId} {args : Array Value} {below : List Frame} {meth : Method} {c : Code} {dC : Nat → ClassId} {dI : Nat → Nat → Nat} {a : Nat → Nat} {k : Nat → ClassId} {A : Nat → Prop} {q : Int32 × ST} {T r κ : Nat} (hC : CxB p s m args meth c dC dI k A cX11_write RX11 (some .int) 5)   {x1 : Int32} {x2 : Int32} {y0 : Int32} {σ : ST} (h : f_X11_write_116  x1 x2 y0 σ = some (q, r)) (hκ : κ + r = T) : GkB p l e ({ frames := 347, cells := T, slots := 6 * T, locals := 10018 } : Room) s m args below meth c (MQ below (qBi dC dI a k A q) args s T (6 * T) A) dC dI a k A 5 116 κ σ [(0, .ref (a 0)), (1, .int x1), (2, .int x2)] [.int y0] := by
  have hC0 := hC
  obtain ⟨hx, hb, hr, hml, hown, hts, hlocks, hA, hN, hK⟩ := hC0
  intro H locs ls hP hD hS hl
  have hD0 : ∀ σ1 : ST, va_D A (wB a k σ1) := fun σ1 => wB_D hD
  unfold f_X11_write_116 at h
  refine lv_istore (lv' := [(4, .int y0), (0, .ref (a 0)), (1, .int x1), (2, .int x2)]) hx hb dX11_write_116 hl (by decide) rfl (fun ls hl => ?_)
  exact b_X11_write_118 hC h hκ _ _ _ hP hD hS (lv_sub hl [1, 2, 3, 0] rfl)

set_option maxRecDepth 100000 in
set_option maxHeartbeats 4000000 in
theorem b_X11_write_111 {p : Program} {l : Launch} {e : Env} {s : State} {m : MethodId} {args : Array Value} {below : List Frame} {meth : Method} {c : Code} {dC : Nat → ClassId} {dI : Nat → Nat → Nat} {a : Nat → Nat} {k : Nat → ClassId} {A : Nat → Prop} {q : Int32 × ST} {T r κ : Nat} (hC : CxB p s m args meth c dC dI k A cX11_write RX11 (some .int) 5)   {x1 : Int32} {x2 : Int32} {σ : ST} (h : f_X11_write_111  x1 x2 σ = some (q, r)) (hκ : κ + r = T) : GkB p l e ({ frames := 347, cells := T, slots := 6 * T, locals := 10018 } : Room) s m args below meth c (MQ below (qBi dC dI a k A q) args s T (6 * T) A) dC dI a k A 5 111 κ σ [(0, .ref (a 0)), (1, .int x1), (2, .int x2)] [] := by
  have hC0 := hC
  obtain ⟨hx, hb, hr, hml, hown, hts, hlocks, hA, hN, hK⟩ := hC0
  intro H locs ls hP hD hS hl
  have hD0 : ∀ σ1 : ST, va_D A (wB a k σ1) := fun σ1 => wB_D hD
  unfold f_X11_write_111 at h
  refine lv_iconst (v := 1) hx hb dX11_write_111 (by decide) ?_
  refine lv_goto (tgt := 116) hx hb dX11_write_112 (by decide) ?_
  exact b_X11_write_116 hC h hκ _ _ _ hP hD hS (lv_sub hl [0, 1, 2] rfl)

set_option maxRecDepth 100000 in
set_option maxHeartbeats 4000000 in
theorem b_X11_write_84 {p : Program} {l : Launch} {e : Env} {s : State} {m : MethodId} {args : Array Value} {below : List Frame} {meth : Method} {c : Code} {dC : Nat → ClassId} {dI : Nat → Nat → Nat} {a : Nat → Nat} {k : Nat → ClassId} {A : Nat → Prop} {q : Int32 × ST} {T r κ : Nat} (hC : CxB p s m args meth c dC dI k A cX11_write RX11 (some .int) 5)   {x1 : Int32} {x2 : Int32} {x3 : Int32} {x4 : Int32} {σ : ST} (h : f_X11_write_84  x1 x2 x3 x4 σ = some (q, r)) (hκ : κ + r = T) : GkB p l e ({ frames := 347, cells := T, slots := 6 * T, locals := 10018 } : Room) s m args below meth c (MQ below (qBi dC dI a k A q) args s T (6 * T) A) dC dI a k A 5 84 κ σ [(0, .ref (a 0)), (1, .int x1), (2, .int x2), (3, .int x3), (4, .int x4)] [] := by
  have hC0 := hC
  obtain ⟨hx, hb, hr, hml, hown, hts, hlocks, hA, hN, hK⟩ := hC0
  intro H locs ls hP hD hS hl
  have hD0 : ∀ σ1 : ST, va_D A (wB a k σ1) := fun σ1 => wB_D hD
  unfold f_X11_write_84 at h
  refine lv_iload hx hb dX11_write_84 (lv_at hl 4 rfl) ?_
  refine lv_if_eq (tgt := 118) hx hb dX11_write_86 (by decide) (fun hc => ?_) (fun hc => ?_)
  · replace h := ip hc h
    exact b_X11_write_118 hC h hκ _ _ _ hP hD hS (lv_sub hl [0, 1, 2, 4] rfl)
  · replace h := iq hc h
    refine lv_aload_n hx hb dX11_write_89 rfl (lv_at hl 0 rfl) ?_
    refine lv_iconst (v := 0) hx hb dX11_write_90 (by decide) ?_
    obtain ⟨q1, hc, h⟩ := ib h
    have hF := va_frees hD hS hA
    refine va_callv (va_runV (As := [.int 0]) (rest := []) ⟨hx, hb, hml, hown, hts⟩ (s_X11_writesTree hc) (cwV 1 hts (gV mw_35_18 mw_35_19 mw_35_20 mw_0_15 mw_55_28) rfl rfl rfl (by decide +kernel) ⟨(Nat.le_of_ble_eq_true rfl), (Nat.le_of_ble_eq_true rfl)⟩) (vV (ci := 11) (q0 := 0) hK hP hD hN rfl gB_0) rfl rfl hl.1 rfl (lv_room (Nat.le_of_ble_eq_true rfl)) dX11_write_91 ⟨by show κ + 0 ≤ T; omega, by show 6 * κ + 0 ≤ 6 * T; omega⟩) hS (fun q _ h => hF q h) hF (fun u t H locs ht hvm hw hB _ _ hS => ?_)
    replace hP : va_P (dC, dI) vwCl (wB a k q1) H := by rw [← ht]; exact hB.1
    replace hD := hD0 (q1)
    clear hB hF
    refine lv_aload_n hx hb dX11_write_94 rfl (lv_at hl 0 rfl) ?_
    refine va_get (D := (dC, dI)) (ci := 11) (C := RX11) (T := TX11) (N := 95) hx hb hts inlX11 hown hK hP 0 gB_0 rfl 49 (by decide) (hts (.fieldLink RX11 451 "ShapeReaderModel" "isTooLong" "Z") mw_34_27) (fun _ h9 => h9) rfl dX11_write_95 ?_
    refine lv_if_eq (tgt := 111) hx hb dX11_write_98 (by decide) (fun hc => ?_) (fun hc => ?_)
    · replace h := ip hc h
      exact b_X11_write_111 hC h hκ _ _ _ hP hD hS (lv_sub hl [0, 1, 2] rfl)
    · replace h := iq hc h
      refine lv_aload_n hx hb dX11_write_101 rfl (lv_at hl 0 rfl) ?_
      refine lv_bipush (v := 7) hx hb dX11_write_102 (by decide) ?_
      refine lv_iload_n hx hb dX11_write_104 rfl (lv_at hl 3 rfl) ?_
      obtain ⟨q3, hc, h⟩ := ib h
      have hF := va_frees hD hS hA
      refine va_calli (va_runV (As := [.int 7, .int x3]) (rest := []) ⟨hx, hb, hml, hown, hts⟩ (s_X11_wrong hc) (cwV 2 hts (gV mw_30_6 mw_30_7 mw_30_8 mw_0_15 mw_54_9) rfl rfl rfl (by decide +kernel) ⟨(Nat.le_of_ble_eq_true rfl), (Nat.le_of_ble_eq_true rfl)⟩) (vV (ci := 11) (q0 := 0) hK hP hD hN rfl gB_0) rfl rfl hl.1 rfl (lv_room (Nat.le_of_ble_eq_true rfl)) dX11_write_105 ⟨by show κ + 0 ≤ T; omega, by show 6 * κ + 0 ≤ 6 * T; omega⟩) hS (fun q _ h => hF q h) hF (fun r4 u t H locs ht hvm hw hB _ _ hS => ?_)
      obtain rfl : r4 = q3.1 := hw
      replace hP : va_P (dC, dI) vwCl (wB a k q3.2) H := by rw [← ht]; exact hB.1
      replace hD := hD0 (q3.2)
      clear hB hF
      refine lv_if_eq (tgt := 115) hx hb dX11_write_108 (by decide) (fun hc => ?_) (fun hc => ?_)
      · replace h := ip hc h
        refine lv_iconst (v := 0) hx hb dX11_write_115 (by decide) ?_
        exact b_X11_write_116 hC h hκ _ _ _ hP hD hS (lv_sub hl [0, 1, 2] rfl)
      · replace h := iq hc h
        exact b_X11_write_111 hC h hκ _ _ _ hP hD hS (lv_sub hl [0, 1, 2] rfl)

set_option maxRecDepth 100000 in
set_option maxHeartbeats 4000000 in
theorem b_X11_write_e {p : Program} {l : Launch} {e : Env} {s : State} {m : MethodId} {args : Array Value} {below : List Frame} {meth : Method} {c : Code} {dC : Nat → ClassId} {dI : Nat → Nat → Nat} {a : Nat → Nat} {k : Nat → ClassId} {A : Nat → Prop} {q : Int32 × ST} {T r : Nat} (hC : CxB p s m args meth c dC dI k A cX11_write RX11 (some .int) 5)   {p0 : Int32} {p1 : Int32} {p2 : Int32} {σ : ST} (h : f_X11_write  p0 p1 p2 σ = some (q, r)) (hκ : 0 + r = T) : GkB p l e ({ frames := 347, cells := T, slots := 6 * T, locals := 10018 } : Room) s m args below meth c (MQ below (qBi dC dI a k A q) args s T (6 * T) A) dC dI a k A 5 0 0 σ (lv_args 0 [.ref (a 0), .int p0, .int p1, .int p2]) [] := by
  have hC0 := hC
  obtain ⟨hx, hb, hr, hml, hown, hts, hlocks, hA, hN, hK⟩ := hC0
  intro H locs ls hP hD hS hl
  have hD0 : ∀ σ1 : ST, va_D A (wB a k σ1) := fun σ1 => wB_D hD
  replace hl : lv_has ls 5 [(0, .ref (a 0)), (1, .int p0), (2, .int p1), (3, .int p2)] := hl
  unfold f_X11_write at h
  refine lv_aload_n hx hb dX11_write_0 rfl (lv_at hl 0 rfl) ?_
  refine lv_iconst (v := 0) hx hb dX11_write_1 (by decide) ?_
  refine va_put (D := (dC, dI)) (ci := 11) (ty := .int) (C := RX11) (T := TX11) (N := 95) hx hb hts inlX11 tyX11 tyX11_ok nmX11 hown hK hP hD hS 0 gB_0 rfl 0 (by decide) (hts (.fieldLink RX11 178 "ShapeReaderModel" "thrown" "I") mw_28_22) (fun _ h9 => h9) rfl (by decide +kernel) rfl rfl (Nat.le_of_ble_eq_true rfl) dX11_write_2 (fun H locs hP hD hS => ?_)
  replace hP := uB_0_0 hP
  replace hD := hD0 ((stI σ 0 0 0))
  refine lv_iload_n hx hb dX11_write_5 rfl (lv_at hl 1 rfl) ?_
  refine lv_i2l (v := p0.toInt64) hx hb dX11_write_6 rfl ?_
  refine lv_lconst (v := 0) hx hb dX11_write_7 (by decide) ?_
  refine lv_ldc2 (v := 3) hx hb hown (hts (.constantLong RX11 475 (3)) mw_35_14) dX11_write_8 ?_
  obtain ⟨q1, hc, h⟩ := ib h
  have hF := va_frees hD hS hA
  refine va_calli (va_runS (As := [.long (p0.toInt64), .long 0, .long 3]) (rest := []) ⟨hx, hb, hml, hown, hts⟩ (s_X11_within hc) (va_cwS 3 hts (gS mw_29_0 mw_29_1 mw_0_15 mw_53_26) rfl rfl rfl (by decide +kernel) ⟨(Nat.le_of_ble_eq_true rfl), (Nat.le_of_ble_eq_true rfl)⟩) (vS hK hP hD hN) rfl rfl hl.1 rfl (lv_room (Nat.le_of_ble_eq_true rfl)) dX11_write_11 ⟨by show 0 + 0 ≤ T; omega, by show 6 * 0 + 0 ≤ 6 * T; omega⟩) hS (fun q _ h => hF q h) hF (fun r2 u t H locs ht hvm hw hB _ _ hS => ?_)
  obtain rfl : r2 = q1.1 := hw
  replace hP : va_P (dC, dI) vwCl (wB a k q1.2) H := by rw [← ht]; exact hB.1
  replace hD := hD0 (q1.2)
  clear hB hF
  refine lv_if_eq (tgt := 39) hx hb dX11_write_14 (by decide) (fun hc => ?_) (fun hc => ?_)
  · replace h := ip hc h
    refine lv_iconst (v := (-1)) hx hb dX11_write_39 (by decide) ?_
    obtain ⟨rfl, rfl⟩ := Prod.mk.inj (Option.some.inj h)
    subst hκ
    exact W.iret hx hb hr (fun t ht hW => ⟨⟨_, (), rfl, rfl, ⟨by rw [ht]; exact hP, va_K.moved hW.alike hK, hD⟩⟩, hS.F ht⟩) hS.2.2 dX11_write_40
  · replace h := iq hc h
    refine lv_aload_n hx hb dX11_write_17 rfl (lv_at hl 0 rfl) ?_
    refine lv_iload_n hx hb dX11_write_18 rfl (lv_at hl 2 rfl) ?_
    obtain ⟨q3, hc, h⟩ := ib h
    have hF := va_frees hD hS hA
    refine va_calli (va_runV (As := [.int p1]) (rest := []) ⟨hx, hb, hml, hown, hts⟩ (s_X11_isPlanAt hc) (cwV 1 hts (gV mw_33_22 mw_33_23 mw_33_24 mw_0_15 mw_55_9) rfl rfl rfl (by decide +kernel) ⟨(Nat.le_of_ble_eq_true rfl), (Nat.le_of_ble_eq_true rfl)⟩) (vV (ci := 11) (q0 := 0) hK hP hD hN rfl gB_0) rfl rfl hl.1 rfl (lv_room (Nat.le_of_ble_eq_true rfl)) dX11_write_19 ⟨by show 0 + 0 ≤ T; omega, by show 6 * 0 + 0 ≤ 6 * T; omega⟩) hS (fun q _ h => hF q h) hF (fun r4 u t H locs ht hvm hw hB _ _ hS => ?_)
    obtain rfl : r4 = q3.1 := hw
    replace hP : va_P (dC, dI) vwCl (wB a k q3.2) H := by rw [← ht]; exact hB.1
    replace hD := hD0 (q3.2)
    clear hB hF
    refine lv_if_eq (tgt := 39) hx hb dX11_write_22 (by decide) (fun hc => ?_) (fun hc => ?_)
    · replace h := ip hc h
      refine lv_iconst (v := (-1)) hx hb dX11_write_39 (by decide) ?_
      obtain ⟨rfl, rfl⟩ := Prod.mk.inj (Option.some.inj h)
      subst hκ
      exact W.iret hx hb hr (fun t ht hW => ⟨⟨_, (), rfl, rfl, ⟨by rw [ht]; exact hP, va_K.moved hW.alike hK, hD⟩⟩, hS.F ht⟩) hS.2.2 dX11_write_40
    · replace h := iq hc h
      refine lv_iload_n hx hb dX11_write_25 rfl (lv_at hl 3 rfl) ?_
      refine lv_i2l (v := p2.toInt64) hx hb dX11_write_26 rfl ?_
      refine lv_lconst (v := 0) hx hb dX11_write_27 (by decide) ?_
      refine lv_aload_n hx hb dX11_write_28 rfl (lv_at hl 0 rfl) ?_
      refine va_get (D := (dC, dI)) (ci := 11) (C := RX11) (T := TX11) (N := 95) hx hb hts inlX11 hown hK hP 0 gB_0 rfl 2 (by decide) (hts (.fieldLink RX11 182 "ShapeReaderModel" "taped" "I") mw_28_23) (fun _ h9 => h9) rfl dX11_write_29 ?_
      refine lv_i2l (v := (q3.2.1 0 2).toInt64) hx hb dX11_write_32 rfl ?_
      obtain ⟨q5, hc, h⟩ := ib h
      have hF := va_frees hD hS hA
      refine va_calli (va_runS (As := [.long (p2.toInt64), .long 0, .long ((q3.2.1 0 2).toInt64)]) (rest := []) ⟨hx, hb, hml, hown, hts⟩ (s_X11_within hc) (va_cwS 3 hts (gS mw_29_0 mw_29_1 mw_0_15 mw_53_26) rfl rfl rfl (by decide +kernel) ⟨(Nat.le_of_ble_eq_true rfl), (Nat.le_of_ble_eq_true rfl)⟩) (vS hK hP hD hN) rfl rfl hl.1 rfl (lv_room (Nat.le_of_ble_eq_true rfl)) dX11_write_33 ⟨by show 0 + 0 ≤ T; omega, by show 6 * 0 + 0 ≤ 6 * T; omega⟩) hS (fun q _ h => hF q h) hF (fun r6 u t H locs ht hvm hw hB _ _ hS => ?_)
      obtain rfl : r6 = q5.1 := hw
      replace hP : va_P (dC, dI) vwCl (wB a k q5.2) H := by rw [← ht]; exact hB.1
      replace hD := hD0 (q5.2)
      clear hB hF
      refine lv_if_ne (tgt := 41) hx hb dX11_write_36 (by decide) (fun hc => ?_) (fun hc => ?_)
      · replace h := iq hc h
        refine lv_aload_n hx hb dX11_write_41 rfl (lv_at hl 0 rfl) ?_
        refine lv_iload_n hx hb dX11_write_42 rfl (lv_at hl 3 rfl) ?_
        obtain ⟨q7, hc, h⟩ := ib h
        have hF := va_frees hD hS hA
        refine va_callv (va_runV (As := [.int p2]) (rest := []) ⟨hx, hb, hml, hown, hts⟩ (s_X11_begins hc) (cwV 1 hts (gV mw_33_8 mw_33_9 mw_33_10 mw_0_15 mw_55_7) rfl rfl rfl (by decide +kernel) ⟨(Nat.le_of_ble_eq_true rfl), (Nat.le_of_ble_eq_true rfl)⟩) (vV (ci := 11) (q0 := 0) hK hP hD hN rfl gB_0) rfl rfl hl.1 rfl (lv_room (Nat.le_of_ble_eq_true rfl)) dX11_write_43 ⟨by show 0 + 0 ≤ T; omega, by show 6 * 0 + 0 ≤ 6 * T; omega⟩) hS (fun q _ h => hF q h) hF (fun u t H locs ht hvm hw hB _ _ hS => ?_)
        replace hP : va_P (dC, dI) vwCl (wB a k q7) H := by rw [← ht]; exact hB.1
        replace hD := hD0 (q7)
        clear hB hF
        refine lv_aload_n hx hb dX11_write_46 rfl (lv_at hl 0 rfl) ?_
        refine lv_iconst (v := 0) hx hb dX11_write_47 (by decide) ?_
        refine va_put (D := (dC, dI)) (ci := 11) (ty := .int) (C := RX11) (T := TX11) (N := 95) hx hb hts inlX11 tyX11 tyX11_ok nmX11 hown hK hP hD hS 0 gB_0 rfl 46 (by decide) (hts (.fieldLink RX11 413 "ShapeReaderModel" "trees" "I") mw_33_28) (fun _ h9 => h9) rfl (by decide +kernel) rfl rfl (Nat.le_of_ble_eq_true rfl) dX11_write_48 (fun H locs hP hD hS => ?_)
        replace hP := uB_0_46 hP
        replace hD := hD0 ((stI q7 0 46 0))
        refine lv_aload_n hx hb dX11_write_51 rfl (lv_at hl 0 rfl) ?_
        refine lv_iload_n hx hb dX11_write_52 rfl (lv_at hl 2 rfl) ?_
        refine lv_aload_n hx hb dX11_write_53 rfl (lv_at hl 0 rfl) ?_
        obtain ⟨q9, hc, h⟩ := ib h
        have hF := va_frees hD hS hA
        refine va_calli (va_runV (As := []) (rest := [.int p1, .ref (a 0)]) ⟨hx, hb, hml, hown, hts⟩ (s_X11_rootType hc) (cwV 0 hts (gV mw_35_15 mw_35_16 mw_35_17 mw_0_15 mw_55_29) rfl rfl rfl (by decide +kernel) ⟨(Nat.le_of_ble_eq_true rfl), (Nat.le_of_ble_eq_true rfl)⟩) (vV (ci := 11) (q0 := 0) hK hP hD hN rfl gB_0) rfl rfl hl.1 rfl (lv_room (Nat.le_of_ble_eq_true rfl)) dX11_write_54 ⟨by show 0 + 0 ≤ T; omega, by show 6 * 0 + 0 ≤ 6 * T; omega⟩) hS (fun q _ h => hF q h) hF (fun r10 u t H locs ht hvm hw hB _ _ hS => ?_)
        obtain rfl : r10 = q9.1 := hw
        replace hP : va_P (dC, dI) vwCl (wB a k q9.2) H := by rw [← ht]; exact hB.1
        replace hD := hD0 (q9.2)
        clear hB hF
        refine lv_iconst (v := 0) hx hb dX11_write_57 (by decide) ?_
        refine lv_iconst (v := (-1)) hx hb dX11_write_58 (by decide) ?_
        refine lv_iconst (v := 0) hx hb dX11_write_59 (by decide) ?_
        obtain ⟨q11, hc, h⟩ := ib h
        obtain ⟨r2, h, hz⟩ := acE h
        have hF := va_frees hD hS hA
        refine va_calli (va_runV (As := [.int p1, .int q9.1, .int 0, .int (-1), .int 0]) (rest := []) ⟨hx, hb, hml, hown, hts⟩ (s_X11_value (q := q11.1) (r := q11.2) hc) (cwV 5 hts (gV mw_34_17 mw_34_18 mw_34_19 mw_0_15 mw_55_18) rfl rfl rfl (by decide +kernel) ⟨(Nat.le_of_ble_eq_true rfl), (Nat.le_of_ble_eq_true rfl)⟩) (vV (ci := 11) (q0 := 0) hK hP hD hN rfl gB_0) rfl rfl hl.1 rfl (lv_room (Nat.le_of_ble_eq_true rfl)) dX11_write_60 ⟨by show 0 + q11.2 ≤ T; omega, by show 6 * 0 + 6 * q11.2 ≤ 6 * T; omega⟩) hS (fun q _ h => hF q h) hF (fun r12 u t H locs ht hvm hw hB _ _ hS => ?_)
        obtain rfl : r12 = q11.1.1 := hw
        replace hκ : (0 + q11.2) + r2 = T := by omega
        clear hz
        refine W.widen (k := (0 + q11.2)) (n := 6 * (0 + q11.2)) (Nat.le_refl _) (by omega) ?_
        replace hP : va_P (dC, dI) vwCl (wB a k q11.1.2) H := by rw [← ht]; exact hB.1
        replace hD := hD0 (q11.1.2)
        clear hB hF
        refine lv_istore (lv' := [(4, .int q11.1.1), (0, .ref (a 0)), (1, .int p0), (2, .int p1), (3, .int p2)]) hx hb dX11_write_63 hl (by decide) rfl (fun ls hl => ?_)
        refine lv_iload hx hb dX11_write_65 (lv_at hl 0 rfl) ?_
        refine lv_if_eq (tgt := 84) hx hb dX11_write_67 (by decide) (fun hc => ?_) (fun hc => ?_)
        · replace h := ip hc h
          exact b_X11_write_84 hC h hκ _ _ _ hP hD hS (lv_sub hl [1, 2, 3, 4, 0] rfl)
        · replace h := iq hc h
          refine lv_aload_n hx hb dX11_write_70 rfl (lv_at hl 1 rfl) ?_
          refine va_get (D := (dC, dI)) (ci := 11) (C := RX11) (T := TX11) (N := 95) hx hb hts inlX11 hown hK hP 0 gB_0 rfl 6 (by decide) (hts (.fieldLink RX11 244 "ShapeReaderModel" "token" "I") mw_29_21) (fun _ h9 => h9) rfl dX11_write_71 ?_
          refine lv_if_eq (tgt := 84) hx hb dX11_write_74 (by decide) (fun hc => ?_) (fun hc => ?_)
          · replace h := ip hc h
            exact b_X11_write_84 hC h hκ _ _ _ hP hD hS (lv_sub hl [1, 2, 3, 4, 0] rfl)
          · replace h := iq hc h
            refine lv_aload_n hx hb dX11_write_77 rfl (lv_at hl 1 rfl) ?_
            refine lv_iconst (v := 1) hx hb dX11_write_78 (by decide) ?_
            obtain ⟨q13, hc, h⟩ := ib h
            have hF := va_frees hD hS hA
            refine va_calli (va_runV (As := [.int 1]) (rest := []) ⟨hx, hb, hml, hown, hts⟩ (s_X11_wrongHere hc) (cwV 1 hts (gV mw_30_9 mw_30_10 mw_30_11 mw_0_15 mw_54_10) rfl rfl rfl (by decide +kernel) ⟨(Nat.le_of_ble_eq_true rfl), (Nat.le_of_ble_eq_true rfl)⟩) (vV (ci := 11) (q0 := 0) hK hP hD hN rfl gB_0) rfl rfl hl.1 rfl (lv_room (Nat.le_of_ble_eq_true rfl)) dX11_write_79 ⟨by show (0 + q11.2) + 0 ≤ T; omega, by show 6 * (0 + q11.2) + 0 ≤ 6 * T; omega⟩) hS (fun q _ h => hF q h) hF (fun r14 u t H locs ht hvm hw hB _ _ hS => ?_)
            obtain rfl : r14 = q13.1 := hw
            replace hP : va_P (dC, dI) vwCl (wB a k q13.2) H := by rw [← ht]; exact hB.1
            replace hD := hD0 (q13.2)
            clear hB hF
            refine lv_istore (lv' := [(4, .int q13.1), (0, .ref (a 0)), (1, .int p0), (2, .int p1), (3, .int p2)]) hx hb dX11_write_82 hl (by decide) rfl (fun ls hl => ?_)
            exact b_X11_write_84 hC h hκ _ _ _ hP hD hS (lv_sub hl [1, 2, 3, 4, 0] rfl)
      · replace h := ip hc h
        refine lv_iconst (v := (-1)) hx hb dX11_write_39 (by decide) ?_
        obtain ⟨rfl, rfl⟩ := Prod.mk.inj (Option.some.inj h)
        subst hκ
        exact W.iret hx hb hr (fun t ht hW => ⟨⟨_, (), rfl, rfl, ⟨by rw [ht]; exact hP, va_K.moved hW.alike hK, hD⟩⟩, hS.F ht⟩) hS.2.2 dX11_write_40

theorem s_X11_write {l : Launch} {dC : Nat → ClassId} {dI : Nat → Nat → Nat} {a : Nat → Nat} {k : Nat → ClassId} {sz : Nat} {p0 : Int32} {p1 : Int32} {p2 : Int32} {σ : ST} {q : Int32 × ST} {r : Nat} (h : f_X11_write  p0 p1 p2 σ = some (q, r)) : Met l yX11_write (.code yX11_write cX11_write 5 (some .int) :: pw) ({ frames := 347, cells := r, slots := 6 * r, locals := 10018 } : Room) (va_Pc [.ref (a 0), .int p0, .int p1, .int p2] (vPre dC dI (wB a k σ) (tB k) sz)) (qBi dC dI a k (va_A (wB a k σ) sz) q) r (6 * r) (va_A (wB a k σ) sz) := mekB (fun A => qBi dC dI a k A q) (plainFor_of_name (by decide)) (Nat.le_of_ble_eq_true rfl) (fun _ _ _ _ _ _ _ _ hC => b_X11_write_e hC h (Nat.zero_add _))
