theorem dX10_alike_0 : decode cX10_alike 0 = .ok (.aload_n 0, 1) := by decide +kernel
theorem dX10_alike_1 : decode cX10_alike 1 = .ok (.getfield 48, 3) := by decide +kernel
theorem dX10_alike_4 : decode cX10_alike 4 = .ok (.iload_n 1, 1) := by decide +kernel
theorem dX10_alike_5 : decode cX10_alike 5 = .ok (.invokevirtual 205, 3) := by decide +kernel
theorem dX10_alike_8 : decode cX10_alike 8 = .ok (.ifCond .eq 22, 3) := by decide +kernel
theorem dX10_alike_30 : decode cX10_alike 30 = .ok (.iconst (-1), 1) := by decide +kernel
theorem dX10_alike_31 : decode cX10_alike 31 = .ok (.ireturn, 1) := by decide +kernel
theorem dX10_convert_0 : decode cX10_convert 0 = .ok (.aload_n 0, 1) := by decide +kernel
theorem dX10_convert_1 : decode cX10_convert 1 = .ok (.getfield 48, 3) := by decide +kernel
theorem dX10_convert_4 : decode cX10_convert 4 = .ok (.iload_n 1, 1) := by decide +kernel
theorem dX10_convert_5 : decode cX10_convert 5 = .ok (.invokevirtual 205, 3) := by decide +kernel
theorem dX10_convert_8 : decode cX10_convert 8 = .ok (.ifCond .eq 22, 3) := by decide +kernel
theorem dX10_convert_30 : decode cX10_convert 30 = .ok (.iconst (-1), 1) := by decide +kernel
theorem dX10_convert_31 : decode cX10_convert 31 = .ok (.ireturn, 1) := by decide +kernel
theorem dX10_count_0 : decode cX10_count 0 = .ok (.iload_n 1, 1) := by decide +kernel
theorem dX10_count_1 : decode cX10_count 1 = .ok (.tableswitch 84 0 5 #[39, 47, 55, 63, 71, 79], 39) := by decide +kernel
theorem dX10_count_40 : decode cX10_count 40 = .ok (.aload_n 0, 1) := by decide +kernel
theorem dX10_count_41 : decode cX10_count 41 = .ok (.getfield 29, 3) := by decide +kernel
theorem dX10_count_44 : decode cX10_count 44 = .ok (.getfield 137, 3) := by decide +kernel
theorem dX10_count_47 : decode cX10_count 47 = .ok (.ireturn, 1) := by decide +kernel
theorem dX10_count_48 : decode cX10_count 48 = .ok (.aload_n 0, 1) := by decide +kernel
theorem dX10_count_49 : decode cX10_count 49 = .ok (.getfield 48, 3) := by decide +kernel
theorem dX10_count_52 : decode cX10_count 52 = .ok (.invokevirtual 302, 3) := by decide +kernel
theorem dX10_count_55 : decode cX10_count 55 = .ok (.ireturn, 1) := by decide +kernel
theorem dX10_count_56 : decode cX10_count 56 = .ok (.aload_n 0, 1) := by decide +kernel
theorem dX10_count_57 : decode cX10_count 57 = .ok (.getfield 73, 3) := by decide +kernel
theorem dX10_count_60 : decode cX10_count 60 = .ok (.getfield 305, 3) := by decide +kernel
theorem dX10_count_63 : decode cX10_count 63 = .ok (.ireturn, 1) := by decide +kernel
theorem dX10_count_64 : decode cX10_count 64 = .ok (.aload_n 0, 1) := by decide +kernel
theorem dX10_count_65 : decode cX10_count 65 = .ok (.getfield 64, 3) := by decide +kernel
theorem dX10_count_68 : decode cX10_count 68 = .ok (.getfield 306, 3) := by decide +kernel
theorem dX10_count_71 : decode cX10_count 71 = .ok (.ireturn, 1) := by decide +kernel
theorem dX10_count_72 : decode cX10_count 72 = .ok (.aload_n 0, 1) := by decide +kernel
theorem dX10_count_73 : decode cX10_count 73 = .ok (.getfield 64, 3) := by decide +kernel
theorem dX10_count_76 : decode cX10_count 76 = .ok (.getfield 309, 3) := by decide +kernel
theorem dX10_count_79 : decode cX10_count 79 = .ok (.ireturn, 1) := by decide +kernel
theorem dX10_count_80 : decode cX10_count 80 = .ok (.aload_n 0, 1) := by decide +kernel
theorem dX10_count_81 : decode cX10_count 81 = .ok (.getfield 13, 3) := by decide +kernel
theorem dX10_count_84 : decode cX10_count 84 = .ok (.ireturn, 1) := by decide +kernel
theorem dX10_count_85 : decode cX10_count 85 = .ok (.iconst (-1), 1) := by decide +kernel
theorem dX10_count_86 : decode cX10_count 86 = .ok (.ireturn, 1) := by decide +kernel
theorem dX10_cut_0 : decode cX10_cut 0 = .ok (.aload_n 0, 1) := by decide +kernel
theorem dX10_cut_1 : decode cX10_cut 1 = .ok (.getfield 48, 3) := by decide +kernel
theorem dX10_cut_4 : decode cX10_cut 4 = .ok (.iload_n 1, 1) := by decide +kernel
theorem dX10_cut_5 : decode cX10_cut 5 = .ok (.invokevirtual 205, 3) := by decide +kernel
theorem dX10_cut_8 : decode cX10_cut 8 = .ok (.ifCond .eq 19, 3) := by decide +kernel
theorem dX10_cut_27 : decode cX10_cut 27 = .ok (.iconst (-1), 1) := by decide +kernel
theorem dX10_cut_28 : decode cX10_cut 28 = .ok (.ireturn, 1) := by decide +kernel
theorem dX10_failure_0 : decode cX10_failure 0 = .ok (.aload_n 0, 1) := by decide +kernel
theorem dX10_failure_1 : decode cX10_failure 1 = .ok (.getfield 104, 3) := by decide +kernel
theorem dX10_failure_4 : decode cX10_failure 4 = .ok (.getfield 256, 3) := by decide +kernel
theorem dX10_failure_7 : decode cX10_failure 7 = .ok (.ifCond .ne 5, 3) := by decide +kernel
theorem dX10_failure_10 : decode cX10_failure 10 = .ok (.iconst (-1), 1) := by decide +kernel
theorem dX10_failure_11 : decode cX10_failure 11 = .ok (.ireturn, 1) := by decide +kernel
theorem dX10_failureStep_0 : decode cX10_failureStep 0 = .ok (.aload_n 0, 1) := by decide +kernel
theorem dX10_failureStep_1 : decode cX10_failureStep 1 = .ok (.getfield 104, 3) := by decide +kernel
theorem dX10_failureStep_4 : decode cX10_failureStep 4 = .ok (.getfield 256, 3) := by decide +kernel
theorem dX10_failureStep_7 : decode cX10_failureStep 7 = .ok (.ifCond .ne 7, 3) := by decide +kernel
theorem dX10_failureStep_10 : decode cX10_failureStep 10 = .ok (.iconst (-1), 1) := by decide +kernel
theorem dX10_failureStep_11 : decode cX10_failureStep 11 = .ok (.goto 11, 3) := by decide +kernel
theorem dX10_failureStep_22 : decode cX10_failureStep 22 = .ok (.ireturn, 1) := by decide +kernel
theorem dX10_field_0 : decode cX10_field 0 = .ok (.aload_n 0, 1) := by decide +kernel
theorem dX10_field_1 : decode cX10_field 1 = .ok (.iload_n 1, 1) := by decide +kernel
theorem dX10_field_2 : decode cX10_field 2 = .ok (.invokevirtual 144, 3) := by decide +kernel
theorem dX10_field_5 : decode cX10_field 5 = .ok (.ifCond .eq 19, 3) := by decide +kernel
theorem dX10_field_24 : decode cX10_field 24 = .ok (.iconst (-1), 1) := by decide +kernel
theorem dX10_field_25 : decode cX10_field 25 = .ok (.ireturn, 1) := by decide +kernel
theorem dX10_isPlan_0 : decode cX10_isPlan 0 = .ok (.iload_n 1, 1) := by decide +kernel
theorem dX10_isPlan_1 : decode cX10_isPlan 1 = .ok (.ifCond .lt 18, 3) := by decide +kernel
theorem dX10_isPlan_4 : decode cX10_isPlan 4 = .ok (.iload_n 1, 1) := by decide +kernel
theorem dX10_isPlan_5 : decode cX10_isPlan 5 = .ok (.aload_n 0, 1) := by decide +kernel
theorem dX10_isPlan_6 : decode cX10_isPlan 6 = .ok (.getfield 29, 3) := by decide +kernel
theorem dX10_isPlan_9 : decode cX10_isPlan 9 = .ok (.getfield 137, 3) := by decide +kernel
theorem dX10_isPlan_12 : decode cX10_isPlan 12 = .ok (.if_icmp .ge 7, 3) := by decide +kernel
theorem dX10_isPlan_19 : decode cX10_isPlan 19 = .ok (.iconst 0, 1) := by decide +kernel
theorem dX10_isPlan_20 : decode cX10_isPlan 20 = .ok (.ireturn, 1) := by decide +kernel
theorem dX10_kept_0 : decode cX10_kept 0 = .ok (.iload_n 1, 1) := by decide +kernel
theorem dX10_kept_1 : decode cX10_kept 1 = .ok (.iconst (-1), 1) := by decide +kernel
theorem dX10_kept_2 : decode cX10_kept 2 = .ok (.if_icmp .ne 13, 3) := by decide +kernel
theorem dX10_kept_5 : decode cX10_kept 5 = .ok (.aload_n 0, 1) := by decide +kernel
theorem dX10_kept_6 : decode cX10_kept 6 = .ok (.getfield 64, 3) := by decide +kernel
theorem dX10_kept_9 : decode cX10_kept 9 = .ok (.getfield 298, 3) := by decide +kernel
theorem dX10_kept_12 : decode cX10_kept 12 = .ok (.goto 11, 3) := by decide +kernel
theorem dX10_kept_15 : decode cX10_kept 15 = .ok (.aload_n 0, 1) := by decide +kernel
theorem dX10_kept_16 : decode cX10_kept 16 = .ok (.getfield 64, 3) := by decide +kernel
theorem dX10_kept_19 : decode cX10_kept 19 = .ok (.iload_n 1, 1) := by decide +kernel
theorem dX10_kept_20 : decode cX10_kept 20 = .ok (.invokevirtual 299, 3) := by decide +kernel
theorem dX10_kept_23 : decode cX10_kept 23 = .ok (.ireturn, 1) := by decide +kernel
theorem dX10_matches_0 : decode cX10_matches 0 = .ok (.aload_n 0, 1) := by decide +kernel
theorem dX10_matches_1 : decode cX10_matches 1 = .ok (.iload_n 1, 1) := by decide +kernel
theorem dX10_matches_2 : decode cX10_matches 2 = .ok (.invokevirtual 144, 3) := by decide +kernel
theorem dX10_matches_5 : decode cX10_matches 5 = .ok (.ifCond .eq 11, 3) := by decide +kernel
theorem dX10_matches_16 : decode cX10_matches 16 = .ok (.iconst (-1), 1) := by decide +kernel
theorem dX10_matches_17 : decode cX10_matches 17 = .ok (.ireturn, 1) := by decide +kernel
theorem dX10_message_0 : decode cX10_message 0 = .ok (.aload_n 0, 1) := by decide +kernel
theorem dX10_message_1 : decode cX10_message 1 = .ok (.getfield 48, 3) := by decide +kernel
theorem dX10_message_4 : decode cX10_message 4 = .ok (.iload_n 1, 1) := by decide +kernel
theorem dX10_message_5 : decode cX10_message 5 = .ok (.invokevirtual 205, 3) := by decide +kernel
theorem dX10_message_8 : decode cX10_message 8 = .ok (.ifCond .ne 5, 3) := by decide +kernel
theorem dX10_message_11 : decode cX10_message 11 = .ok (.iconst (-1), 1) := by decide +kernel
theorem dX10_message_12 : decode cX10_message 12 = .ok (.ireturn, 1) := by decide +kernel
theorem dX10_miss_0 : decode cX10_miss 0 = .ok (.aload_n 0, 1) := by decide +kernel
theorem dX10_miss_1 : decode cX10_miss 1 = .ok (.iload_n 1, 1) := by decide +kernel
theorem dX10_miss_2 : decode cX10_miss 2 = .ok (.invokevirtual 144, 3) := by decide +kernel
theorem dX10_miss_5 : decode cX10_miss 5 = .ok (.ifCond .eq 11, 3) := by decide +kernel
theorem dX10_miss_16 : decode cX10_miss 16 = .ok (.iconst (-1), 1) := by decide +kernel
theorem dX10_miss_17 : decode cX10_miss 17 = .ok (.ireturn, 1) := by decide +kernel
theorem dX10_missStep_0 : decode cX10_missStep 0 = .ok (.aload_n 0, 1) := by decide +kernel
theorem dX10_missStep_1 : decode cX10_missStep 1 = .ok (.iload_n 1, 1) := by decide +kernel
theorem dX10_missStep_2 : decode cX10_missStep 2 = .ok (.invokevirtual 144, 3) := by decide +kernel
theorem dX10_missStep_5 : decode cX10_missStep 5 = .ok (.ifCond .eq 11, 3) := by decide +kernel
theorem dX10_missStep_16 : decode cX10_missStep 16 = .ok (.iconst (-1), 1) := by decide +kernel
theorem dX10_missStep_17 : decode cX10_missStep 17 = .ok (.ireturn, 1) := by decide +kernel
theorem dX10_read_0 : decode cX10_read 0 = .ok (.aload_n 0, 1) := by decide +kernel
theorem dX10_read_1 : decode cX10_read 1 = .ok (.getfield 48, 3) := by decide +kernel
theorem dX10_read_4 : decode cX10_read 4 = .ok (.iload_n 1, 1) := by decide +kernel
theorem dX10_read_5 : decode cX10_read 5 = .ok (.invokevirtual 205, 3) := by decide +kernel
theorem dX10_read_8 : decode cX10_read 8 = .ok (.ifCond .eq 11, 3) := by decide +kernel
theorem dX10_read_19 : decode cX10_read 19 = .ok (.iconst (-1), 1) := by decide +kernel
theorem dX10_read_20 : decode cX10_read 20 = .ok (.ireturn, 1) := by decide +kernel
theorem dX10_readers_0 : decode cX10_readers 0 = .ok (.aload_n 0, 1) := by decide +kernel
theorem dX10_readers_1 : decode cX10_readers 1 = .ok (.iload_n 1, 1) := by decide +kernel
theorem dX10_readers_2 : decode cX10_readers 2 = .ok (.invokevirtual 144, 3) := by decide +kernel
theorem dX10_readers_5 : decode cX10_readers 5 = .ok (.ifCond .eq 12, 3) := by decide +kernel
theorem dX10_readers_17 : decode cX10_readers 17 = .ok (.iconst (-1), 1) := by decide +kernel
theorem dX10_readers_18 : decode cX10_readers 18 = .ok (.ireturn, 1) := by decide +kernel
theorem dX10_record_0 : decode cX10_record 0 = .ok (.aload_n 0, 1) := by decide +kernel
theorem dX10_record_1 : decode cX10_record 1 = .ok (.iload_n 1, 1) := by decide +kernel
theorem dX10_record_2 : decode cX10_record 2 = .ok (.invokevirtual 144, 3) := by decide +kernel
theorem dX10_record_5 : decode cX10_record 5 = .ok (.ifCond .ne 5, 3) := by decide +kernel
theorem dX10_record_8 : decode cX10_record 8 = .ok (.iconst (-1), 1) := by decide +kernel
theorem dX10_record_9 : decode cX10_record 9 = .ok (.ireturn, 1) := by decide +kernel
theorem dX10_spoil_0 : decode cX10_spoil 0 = .ok (.aload_n 0, 1) := by decide +kernel
theorem dX10_spoil_1 : decode cX10_spoil 1 = .ok (.getfield 48, 3) := by decide +kernel
theorem dX10_spoil_4 : decode cX10_spoil 4 = .ok (.iload_n 1, 1) := by decide +kernel
theorem dX10_spoil_5 : decode cX10_spoil 5 = .ok (.iload_n 2, 1) := by decide +kernel
theorem dX10_spoil_6 : decode cX10_spoil 6 = .ok (.invokevirtual 214, 3) := by decide +kernel
theorem dX10_spoil_9 : decode cX10_spoil 9 = .ok (.ifCond .ne 5, 3) := by decide +kernel
theorem dX10_spoil_12 : decode cX10_spoil 12 = .ok (.iconst (-1), 1) := by decide +kernel
theorem dX10_spoil_13 : decode cX10_spoil 13 = .ok (.ireturn, 1) := by decide +kernel
theorem dX10_write_0 : decode cX10_write 0 = .ok (.aload_n 0, 1) := by decide +kernel
theorem dX10_write_1 : decode cX10_write 1 = .ok (.getfield 48, 3) := by decide +kernel
theorem dX10_write_4 : decode cX10_write 4 = .ok (.iload_n 1, 1) := by decide +kernel
theorem dX10_write_5 : decode cX10_write 5 = .ok (.invokevirtual 140, 3) := by decide +kernel
theorem dX10_write_8 : decode cX10_write 8 = .ok (.ifCond .eq 23, 3) := by decide +kernel
theorem dX10_write_11 : decode cX10_write 11 = .ok (.aload_n 0, 1) := by decide +kernel
theorem dX10_write_12 : decode cX10_write 12 = .ok (.iload_n 2, 1) := by decide +kernel
theorem dX10_write_13 : decode cX10_write 13 = .ok (.invokevirtual 144, 3) := by decide +kernel
theorem dX10_write_16 : decode cX10_write 16 = .ok (.ifCond .eq 15, 3) := by decide +kernel
theorem dX10_write_31 : decode cX10_write 31 = .ok (.iconst (-1), 1) := by decide +kernel
theorem dX10_write_32 : decode cX10_write 32 = .ok (.ireturn, 1) := by decide +kernel
theorem dX1_writtenBits_0 : decode cX1_writtenBits 0 = .ok (.iconst 0, 1) := by decide +kernel
theorem dX1_writtenBits_1 : decode cX1_writtenBits 1 = .ok (.istore_n 1, 1) := by decide +kernel
theorem dX1_writtenBits_2 : decode cX1_writtenBits 2 = .ok (.iconst 0, 1) := by decide +kernel
theorem dX1_writtenBits_3 : decode cX1_writtenBits 3 = .ok (.istore_n 2, 1) := by decide +kernel
theorem dX1_writtenBits_4 : decode cX1_writtenBits 4 = .ok (.iload_n 2, 1) := by decide +kernel
theorem dX1_writtenBits_5 : decode cX1_writtenBits 5 = .ok (.iconst 4, 1) := by decide +kernel
theorem dX1_writtenBits_6 : decode cX1_writtenBits 6 = .ok (.if_icmp .ge 23, 3) := by decide +kernel
theorem dX1_writtenBits_9 : decode cX1_writtenBits 9 = .ok (.aload_n 0, 1) := by decide +kernel
theorem dX1_writtenBits_10 : decode cX1_writtenBits 10 = .ok (.iload_n 2, 1) := by decide +kernel
theorem dX1_writtenBits_11 : decode cX1_writtenBits 11 = .ok (.invokevirtual 32, 3) := by decide +kernel
theorem dX1_writtenBits_14 : decode cX1_writtenBits 14 = .ok (.ifCond .eq 9, 3) := by decide +kernel
theorem dX1_writtenBits_23 : decode cX1_writtenBits 23 = .ok (.iinc 2 1, 3) := by decide +kernel
theorem dX1_writtenBits_26 : decode cX1_writtenBits 26 = .ok (.goto (-22), 3) := by decide +kernel
theorem dX1_writtenBits_29 : decode cX1_writtenBits 29 = .ok (.iload_n 1, 1) := by decide +kernel
theorem dX1_writtenBits_30 : decode cX1_writtenBits 30 = .ok (.ireturn, 1) := by decide +kernel
theorem dX7_rowAt_0 : decode cX7_rowAt 0 = .ok (.iload_n 1, 1) := by decide +kernel
theorem dX7_rowAt_1 : decode cX7_rowAt 1 = .ok (.ifCond .lt 28, 3) := by decide +kernel
theorem dX7_rowAt_4 : decode cX7_rowAt 4 = .ok (.iload_n 1, 1) := by decide +kernel
theorem dX7_rowAt_5 : decode cX7_rowAt 5 = .ok (.aload_n 0, 1) := by decide +kernel
theorem dX7_rowAt_6 : decode cX7_rowAt 6 = .ok (.getfield 9, 3) := by decide +kernel
theorem dX7_rowAt_9 : decode cX7_rowAt 9 = .ok (.if_icmp .ge 20, 3) := by decide +kernel
theorem dX7_rowAt_29 : decode cX7_rowAt 29 = .ok (.iconst (-1), 1) := by decide +kernel
theorem dX7_rowAt_30 : decode cX7_rowAt 30 = .ok (.ireturn, 1) := by decide +kernel
theorem dX9_pairAt_0 : decode cX9_pairAt 0 = .ok (.iload_n 1, 1) := by decide +kernel
theorem dX9_pairAt_1 : decode cX9_pairAt 1 = .ok (.ifCond .lt 25, 3) := by decide +kernel
theorem dX9_pairAt_4 : decode cX9_pairAt 4 = .ok (.iload_n 1, 1) := by decide +kernel
theorem dX9_pairAt_5 : decode cX9_pairAt 5 = .ok (.aload_n 0, 1) := by decide +kernel
theorem dX9_pairAt_6 : decode cX9_pairAt 6 = .ok (.getfield 15, 3) := by decide +kernel
theorem dX9_pairAt_9 : decode cX9_pairAt 9 = .ok (.if_icmp .ge 17, 3) := by decide +kernel
theorem dX9_pairAt_26 : decode cX9_pairAt 26 = .ok (.iconst (-1), 1) := by decide +kernel
theorem dX9_pairAt_27 : decode cX9_pairAt 27 = .ok (.ireturn, 1) := by decide +kernel
set_option maxRecDepth 100000 in
set_option maxHeartbeats 4000000 in
theorem c_isPlan (l : Launch) (dC : Nat → ClassId) (dI : Nat → Nat → Nat) (h0 : Nat) (h3 : Nat) (g : Nat → Value) (ga : Nat → Value) (p0 : Int32) (sz : Nat) : Met l yX10_isPlan (.code yX10_isPlan cX10_isPlan 2 (some .boolean) :: pw) ({ frames := 0, cells := 0, slots := 0, locals := 0 }) (va_Pc [.ref h0, .int p0] (vPre dC dI [(h0, .inr (10, [(g 0), (g 1), (g 2), .ref h3, (g 4), (g 5), (g 6), (g 7), (g 8), (g 9), (g 10), (g 11), (g 12), (g 13), (g 14), (g 15)])), (h3, .inr (5, [.int 0, (ga 1), (ga 2), (ga 3), (ga 4), (ga 5), (ga 6), (ga 7), (ga 8), (ga 9), (ga 10), (ga 11), (ga 12), (ga 13), (ga 14), (ga 15), (ga 16)]))] [] sz)) (va_Qi (fun (r : Int32) (_ : Unit) => r = 0) (fun (_ : Unit) t => vPst dC dI (va_A [(h0, .inr (10, [(g 0), (g 1), (g 2), .ref h3, (g 4), (g 5), (g 6), (g 7), (g 8), (g 9), (g 10), (g 11), (g 12), (g 13), (g 14), (g 15)])), (h3, .inr (5, [.int 0, (ga 1), (ga 2), (ga 3), (ga 4), (ga 5), (ga 6), (ga 7), (ga 8), (ga 9), (ga 10), (ga 11), (ga 12), (ga 13), (ga 14), (ga 15), (ga 16)]))] sz) [(h0, .inr (10, [(g 0), (g 1), (g 2), .ref h3, (g 4), (g 5), (g 6), (g 7), (g 8), (g 9), (g 10), (g 11), (g 12), (g 13), (g 14), (g 15)])), (h3, .inr (5, [.int 0, (ga 1), (ga 2), (ga 3), (ga 4), (ga 5), (ga 6), (ga 7), (ga 8), (ga 9), (ga 10), (ga 11), (ga 12), (ga 13), (ga 14), (ga 15), (ga 16)]))] [] t) (va_A [(h0, .inr (10, [(g 0), (g 1), (g 2), .ref h3, (g 4), (g 5), (g 6), (g 7), (g 8), (g 9), (g 10), (g 11), (g 12), (g 13), (g 14), (g 15)])), (h3, .inr (5, [.int 0, (ga 1), (ga 2), (ga 3), (ga 4), (ga 5), (ga 6), (ga 7), (ga 8), (ga 9), (ga 10), (ga 11), (ga 12), (ga 13), (ga 14), (ga 15), (ga 16)]))] sz)) 0 0 (va_A [(h0, .inr (10, [(g 0), (g 1), (g 2), .ref h3, (g 4), (g 5), (g 6), (g 7), (g 8), (g 9), (g 10), (g 11), (g 12), (g 13), (g 14), (g 15)])), (h3, .inr (5, [.int 0, (ga 1), (ga 2), (ga 3), (ga 4), (ga 5), (ga 6), (ga 7), (ga 8), (ga 9), (ga 10), (ga 11), (ga 12), (ga 13), (ga 14), (ga 15), (ga 16)]))] sz) := by
  refine Met.ofW (cc := cX10_isPlan) (maxL := 2) (ret := (some .boolean)) (by decide) rfl ?_
  intro p e s m args below meth c s₁ B hml hv
  obtain ⟨rfl, hsz, hP, hK, hD0⟩ := hv
  have hx := B.exec
  have hb := B.bytes
  have hr := B.returns
  have hts := atoms_spec (ws := .code yX10_isPlan cX10_isPlan 2 (some .boolean) :: pw) B.pre
  have hts : ∀ w ∈ pw, w.before _ s = true := fun w h => hts w (List.mem_cons_of_mem _ h)
  have hown : s.vm.findClass RX10 = some m.cls := findClass_of_methodNamed B.named
  have hlocks := B.notSynchronized
  subst hsz
  have hD := hD0.self (sz := s.heap.size)
  generalize hAe : va_A [(h0, .inr (10, [(g 0), (g 1), (g 2), .ref h3, (g 4), (g 5), (g 6), (g 7), (g 8), (g 9), (g 10), (g 11), (g 12), (g 13), (g 14), (g 15)])), (h3, .inr (5, [.int 0, (ga 1), (ga 2), (ga 3), (ga 4), (ga 5), (ga 6), (ga 7), (ga 8), (ga 9), (ga 10), (ga 11), (ga 12), (ga 13), (ga 14), (ga 15), (ga 16)]))] s.heap.size = A at hD ⊢
  have hA : ∀ q : Nat, s.heap.size ≤ q → A q := fun q h => by rw [← hAe]; exact Or.inr h
  have hS : va_S A s.heap s.heap [] := va_S.rf
  have hP : va_P (dC, dI) vwCl [(h0, .inr (10, [(g 0), (g 1), (g 2), .ref h3, (g 4), (g 5), (g 6), (g 7), (g 8), (g 9), (g 10), (g 11), (g 12), (g 13), (g 14), (g 15)])), (h3, .inr (5, [.int 0, (ga 1), (ga 2), (ga 3), (ga 4), (ga 5), (ga 6), (ga 7), (ga 8), (ga 9), (ga 10), (ga 11), (ga 12), (ga 13), (ga 14), (ga 15), (ga 16)]))] s.heap := hP
  have hl := lv_entry ([.ref h0, .int p0]) (n := 2) (Nat.le_of_ble_eq_true rfl)
  rw [lg_entry_eq]
  generalize (lg_sl ([.ref h0, .int p0]) ++ List.replicate (2 - (lg_sl ([.ref h0, .int p0])).length) Slot.unset).toArray = ls at hl ⊢
  have hl : lv_has ls 2 [(0, .ref h0), (1, .int p0)] := hl
  refine lv_iload_n hx hb dX10_isPlan_0 rfl (lv_at hl 1 rfl) ?_
  refine lv_if_lt (tgt := 19) hx hb dX10_isPlan_1 (by decide) (fun c_1 => ?_) (fun c_1 => ?_)
  · refine lv_iconst (v := 0) hx hb dX10_isPlan_19 (by decide) ?_
    have hP9 := hP.sub (ws' := [(h0, .inr (10, [(g 0), (g 1), (g 2), .ref h3, (g 4), (g 5), (g 6), (g 7), (g 8), (g 9), (g 10), (g 11), (g 12), (g 13), (g 14), (g 15)])), (h3, .inr (5, [.int 0, (ga 1), (ga 2), (ga 3), (ga 4), (ga 5), (ga 6), (ga 7), (ga 8), (ga 9), (ga 10), (ga 11), (ga 12), (ga 13), (ga 14), (ga 15), (ga 16)]))]) [0, 1] rfl
    have hD9 := hD.sub (ws' := [(h0, .inr (10, [(g 0), (g 1), (g 2), .ref h3, (g 4), (g 5), (g 6), (g 7), (g 8), (g 9), (g 10), (g 11), (g 12), (g 13), (g 14), (g 15)])), (h3, .inr (5, [.int 0, (ga 1), (ga 2), (ga 3), (ga 4), (ga 5), (ga 6), (ga 7), (ga 8), (ga 9), (ga 10), (ga 11), (ga 12), (ga 13), (ga 14), (ga 15), (ga 16)]))]) [0, 1] (by decide) rfl
    have hK9 := hK.sub (tys' := []) [] rfl
    refine W.widen (k := 0) (n := 0) (Nat.le_of_ble_eq_true rfl) (Nat.le_of_ble_eq_true rfl) ?_
    exact W.zret (v := 0) hx hb hr rfl (fun t ht hW => ⟨⟨0, (), rfl, rfl, by rw [ht]; exact hP9, va_K.moved hW.alike hK9, hD9⟩, hS.F ht⟩) hS.2.2 dX10_isPlan_20
  · refine lv_iload_n hx hb dX10_isPlan_4 rfl (lv_at hl 1 rfl) ?_
    refine lv_aload_n hx hb dX10_isPlan_5 rfl (lv_at hl 0 rfl) ?_
    refine va_get (D := (dC, dI)) (ci := 10) (v := .ref h3) (C := RX10) (T := TX10) (N := 16) hx hb hts inlX10 hown hK hP 0 rfl rfl 3 (by decide) (hts (.fieldLink RX10 29 "ShapeReader" "shapes" "LShapeReader$Shapes;") mw_0_28) (fun _ h9 => h9) rfl dX10_isPlan_6 ?_
    refine va_get (D := (dC, dI)) (ci := 5) (v := .int 0) (C := RX5) (T := TX5) (N := 17) hx hb hts inlX5 hown hK hP 1 rfl rfl 0 (by decide) (hts (.fieldLink RX10 137 "ShapeReader$Shapes" "planCount" "I") mw_2_24) (fun _ h9 => h9) rfl dX10_isPlan_9 ?_
    refine lv_icmp_ge (tgt := 19) hx hb dX10_isPlan_12 (by decide) (fun c_2 => ?_) (fun c_2 => False.elim (by have a0 := il_nlt c_1; have a1 := il_nle c_2; have e0 : (0 : Int32).toInt = 0 := (by decide); omega))
    refine lv_iconst (v := 0) hx hb dX10_isPlan_19 (by decide) ?_
    have hP9 := hP.sub (ws' := [(h0, .inr (10, [(g 0), (g 1), (g 2), .ref h3, (g 4), (g 5), (g 6), (g 7), (g 8), (g 9), (g 10), (g 11), (g 12), (g 13), (g 14), (g 15)])), (h3, .inr (5, [.int 0, (ga 1), (ga 2), (ga 3), (ga 4), (ga 5), (ga 6), (ga 7), (ga 8), (ga 9), (ga 10), (ga 11), (ga 12), (ga 13), (ga 14), (ga 15), (ga 16)]))]) [0, 1] rfl
    have hD9 := hD.sub (ws' := [(h0, .inr (10, [(g 0), (g 1), (g 2), .ref h3, (g 4), (g 5), (g 6), (g 7), (g 8), (g 9), (g 10), (g 11), (g 12), (g 13), (g 14), (g 15)])), (h3, .inr (5, [.int 0, (ga 1), (ga 2), (ga 3), (ga 4), (ga 5), (ga 6), (ga 7), (ga 8), (ga 9), (ga 10), (ga 11), (ga 12), (ga 13), (ga 14), (ga 15), (ga 16)]))]) [0, 1] (by decide) rfl
    have hK9 := hK.sub (tys' := []) [] rfl
    refine W.widen (k := 0) (n := 0) (Nat.le_of_ble_eq_true rfl) (Nat.le_of_ble_eq_true rfl) ?_
    exact W.zret (v := 0) hx hb hr rfl (fun t ht hW => ⟨⟨0, (), rfl, rfl, by rw [ht]; exact hP9, va_K.moved hW.alike hK9, hD9⟩, hS.F ht⟩) hS.2.2 dX10_isPlan_20

set_option maxRecDepth 100000 in
set_option maxHeartbeats 4000000 in
theorem c_record (l : Launch) (dC : Nat → ClassId) (dI : Nat → Nat → Nat) (h0 : Nat) (h3 : Nat) (g : Nat → Value) (ga : Nat → Value) (p0 : Int32) (p1 : Int32) (p2 : Int32) (sz : Nat) : Met l yX10_record (.code yX10_record cX10_record 6 (some .int) :: pw) ({ frames := 1, cells := 0, slots := 0, locals := 21 }) (va_Pc [.ref h0, .int p0, .int p1, .int p2] (vPre dC dI [(h0, .inr (10, [(g 0), (g 1), (g 2), .ref h3, (g 4), (g 5), (g 6), (g 7), (g 8), (g 9), (g 10), (g 11), (g 12), (g 13), (g 14), (g 15)])), (h3, .inr (5, [.int 0, (ga 1), (ga 2), (ga 3), (ga 4), (ga 5), (ga 6), (ga 7), (ga 8), (ga 9), (ga 10), (ga 11), (ga 12), (ga 13), (ga 14), (ga 15), (ga 16)]))] [] sz)) (va_Qi (fun (r : Int32) (_ : Unit) => r = (-1)) (fun (_ : Unit) t => vPst dC dI (va_A [(h0, .inr (10, [(g 0), (g 1), (g 2), .ref h3, (g 4), (g 5), (g 6), (g 7), (g 8), (g 9), (g 10), (g 11), (g 12), (g 13), (g 14), (g 15)])), (h3, .inr (5, [.int 0, (ga 1), (ga 2), (ga 3), (ga 4), (ga 5), (ga 6), (ga 7), (ga 8), (ga 9), (ga 10), (ga 11), (ga 12), (ga 13), (ga 14), (ga 15), (ga 16)]))] sz) [(h0, .inr (10, [(g 0), (g 1), (g 2), .ref h3, (g 4), (g 5), (g 6), (g 7), (g 8), (g 9), (g 10), (g 11), (g 12), (g 13), (g 14), (g 15)])), (h3, .inr (5, [.int 0, (ga 1), (ga 2), (ga 3), (ga 4), (ga 5), (ga 6), (ga 7), (ga 8), (ga 9), (ga 10), (ga 11), (ga 12), (ga 13), (ga 14), (ga 15), (ga 16)]))] [] t) (va_A [(h0, .inr (10, [(g 0), (g 1), (g 2), .ref h3, (g 4), (g 5), (g 6), (g 7), (g 8), (g 9), (g 10), (g 11), (g 12), (g 13), (g 14), (g 15)])), (h3, .inr (5, [.int 0, (ga 1), (ga 2), (ga 3), (ga 4), (ga 5), (ga 6), (ga 7), (ga 8), (ga 9), (ga 10), (ga 11), (ga 12), (ga 13), (ga 14), (ga 15), (ga 16)]))] sz)) 0 0 (va_A [(h0, .inr (10, [(g 0), (g 1), (g 2), .ref h3, (g 4), (g 5), (g 6), (g 7), (g 8), (g 9), (g 10), (g 11), (g 12), (g 13), (g 14), (g 15)])), (h3, .inr (5, [.int 0, (ga 1), (ga 2), (ga 3), (ga 4), (ga 5), (ga 6), (ga 7), (ga 8), (ga 9), (ga 10), (ga 11), (ga 12), (ga 13), (ga 14), (ga 15), (ga 16)]))] sz) := by
  refine Met.ofW (cc := cX10_record) (maxL := 6) (ret := (some .int)) (by decide) rfl ?_
  intro p e s m args below meth c s₁ B hml hv
  obtain ⟨rfl, hsz, hP, hK, hD0⟩ := hv
  have hx := B.exec
  have hb := B.bytes
  have hr := B.returns
  have hts := atoms_spec (ws := .code yX10_record cX10_record 6 (some .int) :: pw) B.pre
  have hts : ∀ w ∈ pw, w.before _ s = true := fun w h => hts w (List.mem_cons_of_mem _ h)
  have hown : s.vm.findClass RX10 = some m.cls := findClass_of_methodNamed B.named
  have hlocks := B.notSynchronized
  subst hsz
  have hD := hD0.self (sz := s.heap.size)
  generalize hAe : va_A [(h0, .inr (10, [(g 0), (g 1), (g 2), .ref h3, (g 4), (g 5), (g 6), (g 7), (g 8), (g 9), (g 10), (g 11), (g 12), (g 13), (g 14), (g 15)])), (h3, .inr (5, [.int 0, (ga 1), (ga 2), (ga 3), (ga 4), (ga 5), (ga 6), (ga 7), (ga 8), (ga 9), (ga 10), (ga 11), (ga 12), (ga 13), (ga 14), (ga 15), (ga 16)]))] s.heap.size = A at hD ⊢
  have hA : ∀ q : Nat, s.heap.size ≤ q → A q := fun q h => by rw [← hAe]; exact Or.inr h
  have hS : va_S A s.heap s.heap [] := va_S.rf
  have hP : va_P (dC, dI) vwCl [(h0, .inr (10, [(g 0), (g 1), (g 2), .ref h3, (g 4), (g 5), (g 6), (g 7), (g 8), (g 9), (g 10), (g 11), (g 12), (g 13), (g 14), (g 15)])), (h3, .inr (5, [.int 0, (ga 1), (ga 2), (ga 3), (ga 4), (ga 5), (ga 6), (ga 7), (ga 8), (ga 9), (ga 10), (ga 11), (ga 12), (ga 13), (ga 14), (ga 15), (ga 16)]))] s.heap := hP
  have hl := lv_entry ([.ref h0, .int p0, .int p1, .int p2]) (n := 6) (Nat.le_of_ble_eq_true rfl)
  rw [lg_entry_eq]
  generalize (lg_sl ([.ref h0, .int p0, .int p1, .int p2]) ++ List.replicate (6 - (lg_sl ([.ref h0, .int p0, .int p1, .int p2])).length) Slot.unset).toArray = ls at hl ⊢
  have hl : lv_has ls 6 [(0, .ref h0), (1, .int p0), (2, .int p1), (3, .int p2)] := hl
  refine lv_aload_n hx hb dX10_record_0 rfl (lv_at hl 0 rfl) ?_
  refine lv_iload_n hx hb dX10_record_1 rfl (lv_at hl 1 rfl) ?_
  have hPc := hP.sub (ws' := [(h0, .inr (10, [(g 0), (g 1), (g 2), .ref h3, (g 4), (g 5), (g 6), (g 7), (g 8), (g 9), (g 10), (g 11), (g 12), (g 13), (g 14), (g 15)])), (h3, .inr (5, [.int 0, (ga 1), (ga 2), (ga 3), (ga 4), (ga 5), (ga 6), (ga 7), (ga 8), (ga 9), (ga 10), (ga 11), (ga 12), (ga 13), (ga 14), (ga 15), (ga 16)]))]) [0, 1] rfl
  have hDc := hD.sub (ws' := [(h0, .inr (10, [(g 0), (g 1), (g 2), .ref h3, (g 4), (g 5), (g 6), (g 7), (g 8), (g 9), (g 10), (g 11), (g 12), (g 13), (g 14), (g 15)])), (h3, .inr (5, [.int 0, (ga 1), (ga 2), (ga 3), (ga 4), (ga 5), (ga 6), (ga 7), (ga 8), (ga 9), (ga 10), (ga 11), (ga 12), (ga 13), (ga 14), (ga 15), (ga 16)]))]) [0, 1] (by decide) rfl
  have hKc := hK.sub (tys' := []) [] rfl
  have hFc := va_free (wc := [(h0, .inr (10, [(g 0), (g 1), (g 2), .ref h3, (g 4), (g 5), (g 6), (g 7), (g 8), (g 9), (g 10), (g 11), (g 12), (g 13), (g 14), (g 15)])), (h3, .inr (5, [.int 0, (ga 1), (ga 2), (ga 3), (ga 4), (ga 5), (ga 6), (ga 7), (ga 8), (ga 9), (ga 10), (ga 11), (ga 12), (ga 13), (ga 14), (ga 15), (ga 16)]))]) hD hS hA [0, 1] rfl
  refine va_calli (va_runV (As := [.int p0]) (rest := []) ⟨hx, hb, hml, hown, hts⟩ (c_isPlan l dC dI h0 h3 g ga p0 s.heap.size) (cwV 1 hts (gV mw_2_28 mw_2_29 mw_3_0 mw_0_14 mw_19_6) rfl rfl rfl (by decide +kernel) ⟨(Nat.le_of_ble_eq_true rfl), (Nat.le_of_ble_eq_true rfl)⟩) (vV (ci := 10) (q0 := 0) hKc hPc hDc rfl rfl) rfl rfl hl.1 rfl (lv_room (Nat.le_of_ble_eq_true rfl)) dX10_record_2 ⟨(Nat.le_of_ble_eq_true rfl), (Nat.le_of_ble_eq_true rfl)⟩) hS (fun q _ h => hFc q h) hFc (fun r_1 u t H1 locs ht hvm hw hB hz1 hk1 hS => ?_)
  obtain ⟨hP1, hK1, hD1⟩ := hB
  rw [ht] at hP1
  have hK1 := va_K.moved hvm.symm hK1
  obtain ⟨hP, hD⟩ := va_join (wr := []) (w1 := [(h0, .inr (10, [(g 0), (g 1), (g 2), .ref h3, (g 4), (g 5), (g 6), (g 7), (g 8), (g 9), (g 10), (g 11), (g 12), (g 13), (g 14), (g 15)])), (h3, .inr (5, [.int 0, (ga 1), (ga 2), (ga 3), (ga 4), (ga 5), (ga 6), (ga 7), (ga 8), (ga 9), (ga 10), (ga 11), (ga 12), (ga 13), (ga 14), (ga 15), (ga 16)]))]) hP hD [0, 1] [] rfl rfl (by decide) (by decide) hk1 hFc hP1 hD1
  clear hPc hDc hKc hP1 hK1 hD1 hFc hk1 hz1
  generalize H1 = H at hP hS ⊢
  have hP : va_P (dC, dI) vwCl [(h0, .inr (10, [(g 0), (g 1), (g 2), .ref h3, (g 4), (g 5), (g 6), (g 7), (g 8), (g 9), (g 10), (g 11), (g 12), (g 13), (g 14), (g 15)])), (h3, .inr (5, [.int 0, (ga 1), (ga 2), (ga 3), (ga 4), (ga 5), (ga 6), (ga 7), (ga 8), (ga 9), (ga 10), (ga 11), (ga 12), (ga 13), (ga 14), (ga 15), (ga 16)]))] H := hP
  have hD : va_D A [(h0, .inr (10, [(g 0), (g 1), (g 2), .ref h3, (g 4), (g 5), (g 6), (g 7), (g 8), (g 9), (g 10), (g 11), (g 12), (g 13), (g 14), (g 15)])), (h3, .inr (5, [.int 0, (ga 1), (ga 2), (ga 3), (ga 4), (ga 5), (ga 6), (ga 7), (ga 8), (ga 9), (ga 10), (ga 11), (ga 12), (ga 13), (ga 14), (ga 15), (ga 16)]))] := hD
  obtain rfl : r_1 = 0 := hw
  refine lv_if_ne (tgt := 10) hx hb dX10_record_5 (by decide) (fun h => absurd rfl h) (fun _ => ?_)
  refine lv_iconst (v := (-1)) hx hb dX10_record_8 (by decide) ?_
  have hP9 := hP.sub (ws' := [(h0, .inr (10, [(g 0), (g 1), (g 2), .ref h3, (g 4), (g 5), (g 6), (g 7), (g 8), (g 9), (g 10), (g 11), (g 12), (g 13), (g 14), (g 15)])), (h3, .inr (5, [.int 0, (ga 1), (ga 2), (ga 3), (ga 4), (ga 5), (ga 6), (ga 7), (ga 8), (ga 9), (ga 10), (ga 11), (ga 12), (ga 13), (ga 14), (ga 15), (ga 16)]))]) [0, 1] rfl
  have hD9 := hD.sub (ws' := [(h0, .inr (10, [(g 0), (g 1), (g 2), .ref h3, (g 4), (g 5), (g 6), (g 7), (g 8), (g 9), (g 10), (g 11), (g 12), (g 13), (g 14), (g 15)])), (h3, .inr (5, [.int 0, (ga 1), (ga 2), (ga 3), (ga 4), (ga 5), (ga 6), (ga 7), (ga 8), (ga 9), (ga 10), (ga 11), (ga 12), (ga 13), (ga 14), (ga 15), (ga 16)]))]) [0, 1] (by decide) rfl
  have hK9 := hK.sub (tys' := []) [] rfl
  refine W.widen (k := 0) (n := 0) (Nat.le_of_ble_eq_true rfl) (Nat.le_of_ble_eq_true rfl) ?_
  exact W.iret (v := (-1)) hx hb hr (fun t ht hW => ⟨⟨(-1), (), rfl, rfl, by rw [ht]; exact hP9, va_K.moved hW.alike hK9, hD9⟩, hS.F ht⟩) hS.2.2 dX10_record_9

set_option maxRecDepth 100000 in
set_option maxHeartbeats 4000000 in
theorem c_field (l : Launch) (dC : Nat → ClassId) (dI : Nat → Nat → Nat) (h0 : Nat) (h3 : Nat) (g : Nat → Value) (ga : Nat → Value) (p0 : Int32) (p1 : Int32) (p2 : Int32) (p3 : Int32) (sz : Nat) : Met l yX10_field (.code yX10_field cX10_field 7 (some .int) :: pw) ({ frames := 1, cells := 0, slots := 0, locals := 21 }) (va_Pc [.ref h0, .int p0, .int p1, .int p2, .int p3] (vPre dC dI [(h0, .inr (10, [(g 0), (g 1), (g 2), .ref h3, (g 4), (g 5), (g 6), (g 7), (g 8), (g 9), (g 10), (g 11), (g 12), (g 13), (g 14), (g 15)])), (h3, .inr (5, [.int 0, (ga 1), (ga 2), (ga 3), (ga 4), (ga 5), (ga 6), (ga 7), (ga 8), (ga 9), (ga 10), (ga 11), (ga 12), (ga 13), (ga 14), (ga 15), (ga 16)]))] [] sz)) (va_Qi (fun (r : Int32) (_ : Unit) => r = (-1)) (fun (_ : Unit) t => vPst dC dI (va_A [(h0, .inr (10, [(g 0), (g 1), (g 2), .ref h3, (g 4), (g 5), (g 6), (g 7), (g 8), (g 9), (g 10), (g 11), (g 12), (g 13), (g 14), (g 15)])), (h3, .inr (5, [.int 0, (ga 1), (ga 2), (ga 3), (ga 4), (ga 5), (ga 6), (ga 7), (ga 8), (ga 9), (ga 10), (ga 11), (ga 12), (ga 13), (ga 14), (ga 15), (ga 16)]))] sz) [(h0, .inr (10, [(g 0), (g 1), (g 2), .ref h3, (g 4), (g 5), (g 6), (g 7), (g 8), (g 9), (g 10), (g 11), (g 12), (g 13), (g 14), (g 15)])), (h3, .inr (5, [.int 0, (ga 1), (ga 2), (ga 3), (ga 4), (ga 5), (ga 6), (ga 7), (ga 8), (ga 9), (ga 10), (ga 11), (ga 12), (ga 13), (ga 14), (ga 15), (ga 16)]))] [] t) (va_A [(h0, .inr (10, [(g 0), (g 1), (g 2), .ref h3, (g 4), (g 5), (g 6), (g 7), (g 8), (g 9), (g 10), (g 11), (g 12), (g 13), (g 14), (g 15)])), (h3, .inr (5, [.int 0, (ga 1), (ga 2), (ga 3), (ga 4), (ga 5), (ga 6), (ga 7), (ga 8), (ga 9), (ga 10), (ga 11), (ga 12), (ga 13), (ga 14), (ga 15), (ga 16)]))] sz)) 0 0 (va_A [(h0, .inr (10, [(g 0), (g 1), (g 2), .ref h3, (g 4), (g 5), (g 6), (g 7), (g 8), (g 9), (g 10), (g 11), (g 12), (g 13), (g 14), (g 15)])), (h3, .inr (5, [.int 0, (ga 1), (ga 2), (ga 3), (ga 4), (ga 5), (ga 6), (ga 7), (ga 8), (ga 9), (ga 10), (ga 11), (ga 12), (ga 13), (ga 14), (ga 15), (ga 16)]))] sz) := by
  refine Met.ofW (cc := cX10_field) (maxL := 7) (ret := (some .int)) (by decide) rfl ?_
  intro p e s m args below meth c s₁ B hml hv
  obtain ⟨rfl, hsz, hP, hK, hD0⟩ := hv
  have hx := B.exec
  have hb := B.bytes
  have hr := B.returns
  have hts := atoms_spec (ws := .code yX10_field cX10_field 7 (some .int) :: pw) B.pre
  have hts : ∀ w ∈ pw, w.before _ s = true := fun w h => hts w (List.mem_cons_of_mem _ h)
  have hown : s.vm.findClass RX10 = some m.cls := findClass_of_methodNamed B.named
  have hlocks := B.notSynchronized
  subst hsz
  have hD := hD0.self (sz := s.heap.size)
  generalize hAe : va_A [(h0, .inr (10, [(g 0), (g 1), (g 2), .ref h3, (g 4), (g 5), (g 6), (g 7), (g 8), (g 9), (g 10), (g 11), (g 12), (g 13), (g 14), (g 15)])), (h3, .inr (5, [.int 0, (ga 1), (ga 2), (ga 3), (ga 4), (ga 5), (ga 6), (ga 7), (ga 8), (ga 9), (ga 10), (ga 11), (ga 12), (ga 13), (ga 14), (ga 15), (ga 16)]))] s.heap.size = A at hD ⊢
  have hA : ∀ q : Nat, s.heap.size ≤ q → A q := fun q h => by rw [← hAe]; exact Or.inr h
  have hS : va_S A s.heap s.heap [] := va_S.rf
  have hP : va_P (dC, dI) vwCl [(h0, .inr (10, [(g 0), (g 1), (g 2), .ref h3, (g 4), (g 5), (g 6), (g 7), (g 8), (g 9), (g 10), (g 11), (g 12), (g 13), (g 14), (g 15)])), (h3, .inr (5, [.int 0, (ga 1), (ga 2), (ga 3), (ga 4), (ga 5), (ga 6), (ga 7), (ga 8), (ga 9), (ga 10), (ga 11), (ga 12), (ga 13), (ga 14), (ga 15), (ga 16)]))] s.heap := hP
  have hl := lv_entry ([.ref h0, .int p0, .int p1, .int p2, .int p3]) (n := 7) (Nat.le_of_ble_eq_true rfl)
  rw [lg_entry_eq]
  generalize (lg_sl ([.ref h0, .int p0, .int p1, .int p2, .int p3]) ++ List.replicate (7 - (lg_sl ([.ref h0, .int p0, .int p1, .int p2, .int p3])).length) Slot.unset).toArray = ls at hl ⊢
  have hl : lv_has ls 7 [(0, .ref h0), (1, .int p0), (2, .int p1), (3, .int p2), (4, .int p3)] := hl
  refine lv_aload_n hx hb dX10_field_0 rfl (lv_at hl 0 rfl) ?_
  refine lv_iload_n hx hb dX10_field_1 rfl (lv_at hl 1 rfl) ?_
  have hPc := hP.sub (ws' := [(h0, .inr (10, [(g 0), (g 1), (g 2), .ref h3, (g 4), (g 5), (g 6), (g 7), (g 8), (g 9), (g 10), (g 11), (g 12), (g 13), (g 14), (g 15)])), (h3, .inr (5, [.int 0, (ga 1), (ga 2), (ga 3), (ga 4), (ga 5), (ga 6), (ga 7), (ga 8), (ga 9), (ga 10), (ga 11), (ga 12), (ga 13), (ga 14), (ga 15), (ga 16)]))]) [0, 1] rfl
  have hDc := hD.sub (ws' := [(h0, .inr (10, [(g 0), (g 1), (g 2), .ref h3, (g 4), (g 5), (g 6), (g 7), (g 8), (g 9), (g 10), (g 11), (g 12), (g 13), (g 14), (g 15)])), (h3, .inr (5, [.int 0, (ga 1), (ga 2), (ga 3), (ga 4), (ga 5), (ga 6), (ga 7), (ga 8), (ga 9), (ga 10), (ga 11), (ga 12), (ga 13), (ga 14), (ga 15), (ga 16)]))]) [0, 1] (by decide) rfl
  have hKc := hK.sub (tys' := []) [] rfl
  have hFc := va_free (wc := [(h0, .inr (10, [(g 0), (g 1), (g 2), .ref h3, (g 4), (g 5), (g 6), (g 7), (g 8), (g 9), (g 10), (g 11), (g 12), (g 13), (g 14), (g 15)])), (h3, .inr (5, [.int 0, (ga 1), (ga 2), (ga 3), (ga 4), (ga 5), (ga 6), (ga 7), (ga 8), (ga 9), (ga 10), (ga 11), (ga 12), (ga 13), (ga 14), (ga 15), (ga 16)]))]) hD hS hA [0, 1] rfl
  refine va_calli (va_runV (As := [.int p0]) (rest := []) ⟨hx, hb, hml, hown, hts⟩ (c_isPlan l dC dI h0 h3 g ga p0 s.heap.size) (cwV 1 hts (gV mw_2_28 mw_2_29 mw_3_0 mw_0_14 mw_19_6) rfl rfl rfl (by decide +kernel) ⟨(Nat.le_of_ble_eq_true rfl), (Nat.le_of_ble_eq_true rfl)⟩) (vV (ci := 10) (q0 := 0) hKc hPc hDc rfl rfl) rfl rfl hl.1 rfl (lv_room (Nat.le_of_ble_eq_true rfl)) dX10_field_2 ⟨(Nat.le_of_ble_eq_true rfl), (Nat.le_of_ble_eq_true rfl)⟩) hS (fun q _ h => hFc q h) hFc (fun r_1 u t H1 locs ht hvm hw hB hz1 hk1 hS => ?_)
  obtain ⟨hP1, hK1, hD1⟩ := hB
  rw [ht] at hP1
  have hK1 := va_K.moved hvm.symm hK1
  obtain ⟨hP, hD⟩ := va_join (wr := []) (w1 := [(h0, .inr (10, [(g 0), (g 1), (g 2), .ref h3, (g 4), (g 5), (g 6), (g 7), (g 8), (g 9), (g 10), (g 11), (g 12), (g 13), (g 14), (g 15)])), (h3, .inr (5, [.int 0, (ga 1), (ga 2), (ga 3), (ga 4), (ga 5), (ga 6), (ga 7), (ga 8), (ga 9), (ga 10), (ga 11), (ga 12), (ga 13), (ga 14), (ga 15), (ga 16)]))]) hP hD [0, 1] [] rfl rfl (by decide) (by decide) hk1 hFc hP1 hD1
  clear hPc hDc hKc hP1 hK1 hD1 hFc hk1 hz1
  generalize H1 = H at hP hS ⊢
  have hP : va_P (dC, dI) vwCl [(h0, .inr (10, [(g 0), (g 1), (g 2), .ref h3, (g 4), (g 5), (g 6), (g 7), (g 8), (g 9), (g 10), (g 11), (g 12), (g 13), (g 14), (g 15)])), (h3, .inr (5, [.int 0, (ga 1), (ga 2), (ga 3), (ga 4), (ga 5), (ga 6), (ga 7), (ga 8), (ga 9), (ga 10), (ga 11), (ga 12), (ga 13), (ga 14), (ga 15), (ga 16)]))] H := hP
  have hD : va_D A [(h0, .inr (10, [(g 0), (g 1), (g 2), .ref h3, (g 4), (g 5), (g 6), (g 7), (g 8), (g 9), (g 10), (g 11), (g 12), (g 13), (g 14), (g 15)])), (h3, .inr (5, [.int 0, (ga 1), (ga 2), (ga 3), (ga 4), (ga 5), (ga 6), (ga 7), (ga 8), (ga 9), (ga 10), (ga 11), (ga 12), (ga 13), (ga 14), (ga 15), (ga 16)]))] := hD
  obtain rfl : r_1 = 0 := hw
  refine lv_if_eq (tgt := 24) hx hb dX10_field_5 (by decide) (fun _ => ?_) (fun h => absurd (by decide) h)
  refine lv_iconst (v := (-1)) hx hb dX10_field_24 (by decide) ?_
  have hP9 := hP.sub (ws' := [(h0, .inr (10, [(g 0), (g 1), (g 2), .ref h3, (g 4), (g 5), (g 6), (g 7), (g 8), (g 9), (g 10), (g 11), (g 12), (g 13), (g 14), (g 15)])), (h3, .inr (5, [.int 0, (ga 1), (ga 2), (ga 3), (ga 4), (ga 5), (ga 6), (ga 7), (ga 8), (ga 9), (ga 10), (ga 11), (ga 12), (ga 13), (ga 14), (ga 15), (ga 16)]))]) [0, 1] rfl
  have hD9 := hD.sub (ws' := [(h0, .inr (10, [(g 0), (g 1), (g 2), .ref h3, (g 4), (g 5), (g 6), (g 7), (g 8), (g 9), (g 10), (g 11), (g 12), (g 13), (g 14), (g 15)])), (h3, .inr (5, [.int 0, (ga 1), (ga 2), (ga 3), (ga 4), (ga 5), (ga 6), (ga 7), (ga 8), (ga 9), (ga 10), (ga 11), (ga 12), (ga 13), (ga 14), (ga 15), (ga 16)]))]) [0, 1] (by decide) rfl
  have hK9 := hK.sub (tys' := []) [] rfl
  refine W.widen (k := 0) (n := 0) (Nat.le_of_ble_eq_true rfl) (Nat.le_of_ble_eq_true rfl) ?_
  exact W.iret (v := (-1)) hx hb hr (fun t ht hW => ⟨⟨(-1), (), rfl, rfl, by rw [ht]; exact hP9, va_K.moved hW.alike hK9, hD9⟩, hS.F ht⟩) hS.2.2 dX10_field_25

set_option maxRecDepth 100000 in
set_option maxHeartbeats 4000000 in
theorem c_matches (l : Launch) (dC : Nat → ClassId) (dI : Nat → Nat → Nat) (h0 : Nat) (h3 : Nat) (g : Nat → Value) (ga : Nat → Value) (p0 : Int32) (p1 : Int32) (sz : Nat) : Met l yX10_matches (.code yX10_matches cX10_matches 3 (some .int) :: pw) ({ frames := 1, cells := 0, slots := 0, locals := 21 }) (va_Pc [.ref h0, .int p0, .int p1] (vPre dC dI [(h0, .inr (10, [(g 0), (g 1), (g 2), .ref h3, (g 4), (g 5), (g 6), (g 7), (g 8), (g 9), (g 10), (g 11), (g 12), (g 13), (g 14), (g 15)])), (h3, .inr (5, [.int 0, (ga 1), (ga 2), (ga 3), (ga 4), (ga 5), (ga 6), (ga 7), (ga 8), (ga 9), (ga 10), (ga 11), (ga 12), (ga 13), (ga 14), (ga 15), (ga 16)]))] [] sz)) (va_Qi (fun (r : Int32) (_ : Unit) => r = (-1)) (fun (_ : Unit) t => vPst dC dI (va_A [(h0, .inr (10, [(g 0), (g 1), (g 2), .ref h3, (g 4), (g 5), (g 6), (g 7), (g 8), (g 9), (g 10), (g 11), (g 12), (g 13), (g 14), (g 15)])), (h3, .inr (5, [.int 0, (ga 1), (ga 2), (ga 3), (ga 4), (ga 5), (ga 6), (ga 7), (ga 8), (ga 9), (ga 10), (ga 11), (ga 12), (ga 13), (ga 14), (ga 15), (ga 16)]))] sz) [(h0, .inr (10, [(g 0), (g 1), (g 2), .ref h3, (g 4), (g 5), (g 6), (g 7), (g 8), (g 9), (g 10), (g 11), (g 12), (g 13), (g 14), (g 15)])), (h3, .inr (5, [.int 0, (ga 1), (ga 2), (ga 3), (ga 4), (ga 5), (ga 6), (ga 7), (ga 8), (ga 9), (ga 10), (ga 11), (ga 12), (ga 13), (ga 14), (ga 15), (ga 16)]))] [] t) (va_A [(h0, .inr (10, [(g 0), (g 1), (g 2), .ref h3, (g 4), (g 5), (g 6), (g 7), (g 8), (g 9), (g 10), (g 11), (g 12), (g 13), (g 14), (g 15)])), (h3, .inr (5, [.int 0, (ga 1), (ga 2), (ga 3), (ga 4), (ga 5), (ga 6), (ga 7), (ga 8), (ga 9), (ga 10), (ga 11), (ga 12), (ga 13), (ga 14), (ga 15), (ga 16)]))] sz)) 0 0 (va_A [(h0, .inr (10, [(g 0), (g 1), (g 2), .ref h3, (g 4), (g 5), (g 6), (g 7), (g 8), (g 9), (g 10), (g 11), (g 12), (g 13), (g 14), (g 15)])), (h3, .inr (5, [.int 0, (ga 1), (ga 2), (ga 3), (ga 4), (ga 5), (ga 6), (ga 7), (ga 8), (ga 9), (ga 10), (ga 11), (ga 12), (ga 13), (ga 14), (ga 15), (ga 16)]))] sz) := by
  refine Met.ofW (cc := cX10_matches) (maxL := 3) (ret := (some .int)) (by decide) rfl ?_
  intro p e s m args below meth c s₁ B hml hv
  obtain ⟨rfl, hsz, hP, hK, hD0⟩ := hv
  have hx := B.exec
  have hb := B.bytes
  have hr := B.returns
  have hts := atoms_spec (ws := .code yX10_matches cX10_matches 3 (some .int) :: pw) B.pre
  have hts : ∀ w ∈ pw, w.before _ s = true := fun w h => hts w (List.mem_cons_of_mem _ h)
  have hown : s.vm.findClass RX10 = some m.cls := findClass_of_methodNamed B.named
  have hlocks := B.notSynchronized
  subst hsz
  have hD := hD0.self (sz := s.heap.size)
  generalize hAe : va_A [(h0, .inr (10, [(g 0), (g 1), (g 2), .ref h3, (g 4), (g 5), (g 6), (g 7), (g 8), (g 9), (g 10), (g 11), (g 12), (g 13), (g 14), (g 15)])), (h3, .inr (5, [.int 0, (ga 1), (ga 2), (ga 3), (ga 4), (ga 5), (ga 6), (ga 7), (ga 8), (ga 9), (ga 10), (ga 11), (ga 12), (ga 13), (ga 14), (ga 15), (ga 16)]))] s.heap.size = A at hD ⊢
  have hA : ∀ q : Nat, s.heap.size ≤ q → A q := fun q h => by rw [← hAe]; exact Or.inr h
  have hS : va_S A s.heap s.heap [] := va_S.rf
  have hP : va_P (dC, dI) vwCl [(h0, .inr (10, [(g 0), (g 1), (g 2), .ref h3, (g 4), (g 5), (g 6), (g 7), (g 8), (g 9), (g 10), (g 11), (g 12), (g 13), (g 14), (g 15)])), (h3, .inr (5, [.int 0, (ga 1), (ga 2), (ga 3), (ga 4), (ga 5), (ga 6), (ga 7), (ga 8), (ga 9), (ga 10), (ga 11), (ga 12), (ga 13), (ga 14), (ga 15), (ga 16)]))] s.heap := hP
  have hl := lv_entry ([.ref h0, .int p0, .int p1]) (n := 3) (Nat.le_of_ble_eq_true rfl)
  rw [lg_entry_eq]
  generalize (lg_sl ([.ref h0, .int p0, .int p1]) ++ List.replicate (3 - (lg_sl ([.ref h0, .int p0, .int p1])).length) Slot.unset).toArray = ls at hl ⊢
  have hl : lv_has ls 3 [(0, .ref h0), (1, .int p0), (2, .int p1)] := hl
  refine lv_aload_n hx hb dX10_matches_0 rfl (lv_at hl 0 rfl) ?_
  refine lv_iload_n hx hb dX10_matches_1 rfl (lv_at hl 1 rfl) ?_
  have hPc := hP.sub (ws' := [(h0, .inr (10, [(g 0), (g 1), (g 2), .ref h3, (g 4), (g 5), (g 6), (g 7), (g 8), (g 9), (g 10), (g 11), (g 12), (g 13), (g 14), (g 15)])), (h3, .inr (5, [.int 0, (ga 1), (ga 2), (ga 3), (ga 4), (ga 5), (ga 6), (ga 7), (ga 8), (ga 9), (ga 10), (ga 11), (ga 12), (ga 13), (ga 14), (ga 15), (ga 16)]))]) [0, 1] rfl
  have hDc := hD.sub (ws' := [(h0, .inr (10, [(g 0), (g 1), (g 2), .ref h3, (g 4), (g 5), (g 6), (g 7), (g 8), (g 9), (g 10), (g 11), (g 12), (g 13), (g 14), (g 15)])), (h3, .inr (5, [.int 0, (ga 1), (ga 2), (ga 3), (ga 4), (ga 5), (ga 6), (ga 7), (ga 8), (ga 9), (ga 10), (ga 11), (ga 12), (ga 13), (ga 14), (ga 15), (ga 16)]))]) [0, 1] (by decide) rfl
  have hKc := hK.sub (tys' := []) [] rfl
  have hFc := va_free (wc := [(h0, .inr (10, [(g 0), (g 1), (g 2), .ref h3, (g 4), (g 5), (g 6), (g 7), (g 8), (g 9), (g 10), (g 11), (g 12), (g 13), (g 14), (g 15)])), (h3, .inr (5, [.int 0, (ga 1), (ga 2), (ga 3), (ga 4), (ga 5), (ga 6), (ga 7), (ga 8), (ga 9), (ga 10), (ga 11), (ga 12), (ga 13), (ga 14), (ga 15), (ga 16)]))]) hD hS hA [0, 1] rfl
  refine va_calli (va_runV (As := [.int p0]) (rest := []) ⟨hx, hb, hml, hown, hts⟩ (c_isPlan l dC dI h0 h3 g ga p0 s.heap.size) (cwV 1 hts (gV mw_2_28 mw_2_29 mw_3_0 mw_0_14 mw_19_6) rfl rfl rfl (by decide +kernel) ⟨(Nat.le_of_ble_eq_true rfl), (Nat.le_of_ble_eq_true rfl)⟩) (vV (ci := 10) (q0 := 0) hKc hPc hDc rfl rfl) rfl rfl hl.1 rfl (lv_room (Nat.le_of_ble_eq_true rfl)) dX10_matches_2 ⟨(Nat.le_of_ble_eq_true rfl), (Nat.le_of_ble_eq_true rfl)⟩) hS (fun q _ h => hFc q h) hFc (fun r_1 u t H1 locs ht hvm hw hB hz1 hk1 hS => ?_)
  obtain ⟨hP1, hK1, hD1⟩ := hB
  rw [ht] at hP1
  have hK1 := va_K.moved hvm.symm hK1
  obtain ⟨hP, hD⟩ := va_join (wr := []) (w1 := [(h0, .inr (10, [(g 0), (g 1), (g 2), .ref h3, (g 4), (g 5), (g 6), (g 7), (g 8), (g 9), (g 10), (g 11), (g 12), (g 13), (g 14), (g 15)])), (h3, .inr (5, [.int 0, (ga 1), (ga 2), (ga 3), (ga 4), (ga 5), (ga 6), (ga 7), (ga 8), (ga 9), (ga 10), (ga 11), (ga 12), (ga 13), (ga 14), (ga 15), (ga 16)]))]) hP hD [0, 1] [] rfl rfl (by decide) (by decide) hk1 hFc hP1 hD1
  clear hPc hDc hKc hP1 hK1 hD1 hFc hk1 hz1
  generalize H1 = H at hP hS ⊢
  have hP : va_P (dC, dI) vwCl [(h0, .inr (10, [(g 0), (g 1), (g 2), .ref h3, (g 4), (g 5), (g 6), (g 7), (g 8), (g 9), (g 10), (g 11), (g 12), (g 13), (g 14), (g 15)])), (h3, .inr (5, [.int 0, (ga 1), (ga 2), (ga 3), (ga 4), (ga 5), (ga 6), (ga 7), (ga 8), (ga 9), (ga 10), (ga 11), (ga 12), (ga 13), (ga 14), (ga 15), (ga 16)]))] H := hP
  have hD : va_D A [(h0, .inr (10, [(g 0), (g 1), (g 2), .ref h3, (g 4), (g 5), (g 6), (g 7), (g 8), (g 9), (g 10), (g 11), (g 12), (g 13), (g 14), (g 15)])), (h3, .inr (5, [.int 0, (ga 1), (ga 2), (ga 3), (ga 4), (ga 5), (ga 6), (ga 7), (ga 8), (ga 9), (ga 10), (ga 11), (ga 12), (ga 13), (ga 14), (ga 15), (ga 16)]))] := hD
  obtain rfl : r_1 = 0 := hw
  refine lv_if_eq (tgt := 16) hx hb dX10_matches_5 (by decide) (fun _ => ?_) (fun h => absurd (by decide) h)
  refine lv_iconst (v := (-1)) hx hb dX10_matches_16 (by decide) ?_
  have hP9 := hP.sub (ws' := [(h0, .inr (10, [(g 0), (g 1), (g 2), .ref h3, (g 4), (g 5), (g 6), (g 7), (g 8), (g 9), (g 10), (g 11), (g 12), (g 13), (g 14), (g 15)])), (h3, .inr (5, [.int 0, (ga 1), (ga 2), (ga 3), (ga 4), (ga 5), (ga 6), (ga 7), (ga 8), (ga 9), (ga 10), (ga 11), (ga 12), (ga 13), (ga 14), (ga 15), (ga 16)]))]) [0, 1] rfl
  have hD9 := hD.sub (ws' := [(h0, .inr (10, [(g 0), (g 1), (g 2), .ref h3, (g 4), (g 5), (g 6), (g 7), (g 8), (g 9), (g 10), (g 11), (g 12), (g 13), (g 14), (g 15)])), (h3, .inr (5, [.int 0, (ga 1), (ga 2), (ga 3), (ga 4), (ga 5), (ga 6), (ga 7), (ga 8), (ga 9), (ga 10), (ga 11), (ga 12), (ga 13), (ga 14), (ga 15), (ga 16)]))]) [0, 1] (by decide) rfl
  have hK9 := hK.sub (tys' := []) [] rfl
  refine W.widen (k := 0) (n := 0) (Nat.le_of_ble_eq_true rfl) (Nat.le_of_ble_eq_true rfl) ?_
  exact W.iret (v := (-1)) hx hb hr (fun t ht hW => ⟨⟨(-1), (), rfl, rfl, by rw [ht]; exact hP9, va_K.moved hW.alike hK9, hD9⟩, hS.F ht⟩) hS.2.2 dX10_matches_17

set_option maxRecDepth 100000 in
set_option maxHeartbeats 4000000 in
theorem c_miss (l : Launch) (dC : Nat → ClassId) (dI : Nat → Nat → Nat) (h0 : Nat) (h3 : Nat) (g : Nat → Value) (ga : Nat → Value) (p0 : Int32) (p1 : Int32) (p2 : Int32) (p3 : Int32) (sz : Nat) : Met l yX10_miss (.code yX10_miss cX10_miss 5 (some .int) :: pw) ({ frames := 1, cells := 0, slots := 0, locals := 21 }) (va_Pc [.ref h0, .int p0, .int p1, .int p2, .int p3] (vPre dC dI [(h0, .inr (10, [(g 0), (g 1), (g 2), .ref h3, (g 4), (g 5), (g 6), (g 7), (g 8), (g 9), (g 10), (g 11), (g 12), (g 13), (g 14), (g 15)])), (h3, .inr (5, [.int 0, (ga 1), (ga 2), (ga 3), (ga 4), (ga 5), (ga 6), (ga 7), (ga 8), (ga 9), (ga 10), (ga 11), (ga 12), (ga 13), (ga 14), (ga 15), (ga 16)]))] [] sz)) (va_Qi (fun (r : Int32) (_ : Unit) => r = (-1)) (fun (_ : Unit) t => vPst dC dI (va_A [(h0, .inr (10, [(g 0), (g 1), (g 2), .ref h3, (g 4), (g 5), (g 6), (g 7), (g 8), (g 9), (g 10), (g 11), (g 12), (g 13), (g 14), (g 15)])), (h3, .inr (5, [.int 0, (ga 1), (ga 2), (ga 3), (ga 4), (ga 5), (ga 6), (ga 7), (ga 8), (ga 9), (ga 10), (ga 11), (ga 12), (ga 13), (ga 14), (ga 15), (ga 16)]))] sz) [(h0, .inr (10, [(g 0), (g 1), (g 2), .ref h3, (g 4), (g 5), (g 6), (g 7), (g 8), (g 9), (g 10), (g 11), (g 12), (g 13), (g 14), (g 15)])), (h3, .inr (5, [.int 0, (ga 1), (ga 2), (ga 3), (ga 4), (ga 5), (ga 6), (ga 7), (ga 8), (ga 9), (ga 10), (ga 11), (ga 12), (ga 13), (ga 14), (ga 15), (ga 16)]))] [] t) (va_A [(h0, .inr (10, [(g 0), (g 1), (g 2), .ref h3, (g 4), (g 5), (g 6), (g 7), (g 8), (g 9), (g 10), (g 11), (g 12), (g 13), (g 14), (g 15)])), (h3, .inr (5, [.int 0, (ga 1), (ga 2), (ga 3), (ga 4), (ga 5), (ga 6), (ga 7), (ga 8), (ga 9), (ga 10), (ga 11), (ga 12), (ga 13), (ga 14), (ga 15), (ga 16)]))] sz)) 0 0 (va_A [(h0, .inr (10, [(g 0), (g 1), (g 2), .ref h3, (g 4), (g 5), (g 6), (g 7), (g 8), (g 9), (g 10), (g 11), (g 12), (g 13), (g 14), (g 15)])), (h3, .inr (5, [.int 0, (ga 1), (ga 2), (ga 3), (ga 4), (ga 5), (ga 6), (ga 7), (ga 8), (ga 9), (ga 10), (ga 11), (ga 12), (ga 13), (ga 14), (ga 15), (ga 16)]))] sz) := by
  refine Met.ofW (cc := cX10_miss) (maxL := 5) (ret := (some .int)) (by decide) rfl ?_
  intro p e s m args below meth c s₁ B hml hv
  obtain ⟨rfl, hsz, hP, hK, hD0⟩ := hv
  have hx := B.exec
  have hb := B.bytes
  have hr := B.returns
  have hts := atoms_spec (ws := .code yX10_miss cX10_miss 5 (some .int) :: pw) B.pre
  have hts : ∀ w ∈ pw, w.before _ s = true := fun w h => hts w (List.mem_cons_of_mem _ h)
  have hown : s.vm.findClass RX10 = some m.cls := findClass_of_methodNamed B.named
  have hlocks := B.notSynchronized
  subst hsz
  have hD := hD0.self (sz := s.heap.size)
  generalize hAe : va_A [(h0, .inr (10, [(g 0), (g 1), (g 2), .ref h3, (g 4), (g 5), (g 6), (g 7), (g 8), (g 9), (g 10), (g 11), (g 12), (g 13), (g 14), (g 15)])), (h3, .inr (5, [.int 0, (ga 1), (ga 2), (ga 3), (ga 4), (ga 5), (ga 6), (ga 7), (ga 8), (ga 9), (ga 10), (ga 11), (ga 12), (ga 13), (ga 14), (ga 15), (ga 16)]))] s.heap.size = A at hD ⊢
  have hA : ∀ q : Nat, s.heap.size ≤ q → A q := fun q h => by rw [← hAe]; exact Or.inr h
  have hS : va_S A s.heap s.heap [] := va_S.rf
  have hP : va_P (dC, dI) vwCl [(h0, .inr (10, [(g 0), (g 1), (g 2), .ref h3, (g 4), (g 5), (g 6), (g 7), (g 8), (g 9), (g 10), (g 11), (g 12), (g 13), (g 14), (g 15)])), (h3, .inr (5, [.int 0, (ga 1), (ga 2), (ga 3), (ga 4), (ga 5), (ga 6), (ga 7), (ga 8), (ga 9), (ga 10), (ga 11), (ga 12), (ga 13), (ga 14), (ga 15), (ga 16)]))] s.heap := hP
  have hl := lv_entry ([.ref h0, .int p0, .int p1, .int p2, .int p3]) (n := 5) (Nat.le_of_ble_eq_true rfl)
  rw [lg_entry_eq]
  generalize (lg_sl ([.ref h0, .int p0, .int p1, .int p2, .int p3]) ++ List.replicate (5 - (lg_sl ([.ref h0, .int p0, .int p1, .int p2, .int p3])).length) Slot.unset).toArray = ls at hl ⊢
  have hl : lv_has ls 5 [(0, .ref h0), (1, .int p0), (2, .int p1), (3, .int p2), (4, .int p3)] := hl
  refine lv_aload_n hx hb dX10_miss_0 rfl (lv_at hl 0 rfl) ?_
  refine lv_iload_n hx hb dX10_miss_1 rfl (lv_at hl 1 rfl) ?_
  have hPc := hP.sub (ws' := [(h0, .inr (10, [(g 0), (g 1), (g 2), .ref h3, (g 4), (g 5), (g 6), (g 7), (g 8), (g 9), (g 10), (g 11), (g 12), (g 13), (g 14), (g 15)])), (h3, .inr (5, [.int 0, (ga 1), (ga 2), (ga 3), (ga 4), (ga 5), (ga 6), (ga 7), (ga 8), (ga 9), (ga 10), (ga 11), (ga 12), (ga 13), (ga 14), (ga 15), (ga 16)]))]) [0, 1] rfl
  have hDc := hD.sub (ws' := [(h0, .inr (10, [(g 0), (g 1), (g 2), .ref h3, (g 4), (g 5), (g 6), (g 7), (g 8), (g 9), (g 10), (g 11), (g 12), (g 13), (g 14), (g 15)])), (h3, .inr (5, [.int 0, (ga 1), (ga 2), (ga 3), (ga 4), (ga 5), (ga 6), (ga 7), (ga 8), (ga 9), (ga 10), (ga 11), (ga 12), (ga 13), (ga 14), (ga 15), (ga 16)]))]) [0, 1] (by decide) rfl
  have hKc := hK.sub (tys' := []) [] rfl
  have hFc := va_free (wc := [(h0, .inr (10, [(g 0), (g 1), (g 2), .ref h3, (g 4), (g 5), (g 6), (g 7), (g 8), (g 9), (g 10), (g 11), (g 12), (g 13), (g 14), (g 15)])), (h3, .inr (5, [.int 0, (ga 1), (ga 2), (ga 3), (ga 4), (ga 5), (ga 6), (ga 7), (ga 8), (ga 9), (ga 10), (ga 11), (ga 12), (ga 13), (ga 14), (ga 15), (ga 16)]))]) hD hS hA [0, 1] rfl
  refine va_calli (va_runV (As := [.int p0]) (rest := []) ⟨hx, hb, hml, hown, hts⟩ (c_isPlan l dC dI h0 h3 g ga p0 s.heap.size) (cwV 1 hts (gV mw_2_28 mw_2_29 mw_3_0 mw_0_14 mw_19_6) rfl rfl rfl (by decide +kernel) ⟨(Nat.le_of_ble_eq_true rfl), (Nat.le_of_ble_eq_true rfl)⟩) (vV (ci := 10) (q0 := 0) hKc hPc hDc rfl rfl) rfl rfl hl.1 rfl (lv_room (Nat.le_of_ble_eq_true rfl)) dX10_miss_2 ⟨(Nat.le_of_ble_eq_true rfl), (Nat.le_of_ble_eq_true rfl)⟩) hS (fun q _ h => hFc q h) hFc (fun r_1 u t H1 locs ht hvm hw hB hz1 hk1 hS => ?_)
  obtain ⟨hP1, hK1, hD1⟩ := hB
  rw [ht] at hP1
  have hK1 := va_K.moved hvm.symm hK1
  obtain ⟨hP, hD⟩ := va_join (wr := []) (w1 := [(h0, .inr (10, [(g 0), (g 1), (g 2), .ref h3, (g 4), (g 5), (g 6), (g 7), (g 8), (g 9), (g 10), (g 11), (g 12), (g 13), (g 14), (g 15)])), (h3, .inr (5, [.int 0, (ga 1), (ga 2), (ga 3), (ga 4), (ga 5), (ga 6), (ga 7), (ga 8), (ga 9), (ga 10), (ga 11), (ga 12), (ga 13), (ga 14), (ga 15), (ga 16)]))]) hP hD [0, 1] [] rfl rfl (by decide) (by decide) hk1 hFc hP1 hD1
  clear hPc hDc hKc hP1 hK1 hD1 hFc hk1 hz1
  generalize H1 = H at hP hS ⊢
  have hP : va_P (dC, dI) vwCl [(h0, .inr (10, [(g 0), (g 1), (g 2), .ref h3, (g 4), (g 5), (g 6), (g 7), (g 8), (g 9), (g 10), (g 11), (g 12), (g 13), (g 14), (g 15)])), (h3, .inr (5, [.int 0, (ga 1), (ga 2), (ga 3), (ga 4), (ga 5), (ga 6), (ga 7), (ga 8), (ga 9), (ga 10), (ga 11), (ga 12), (ga 13), (ga 14), (ga 15), (ga 16)]))] H := hP
  have hD : va_D A [(h0, .inr (10, [(g 0), (g 1), (g 2), .ref h3, (g 4), (g 5), (g 6), (g 7), (g 8), (g 9), (g 10), (g 11), (g 12), (g 13), (g 14), (g 15)])), (h3, .inr (5, [.int 0, (ga 1), (ga 2), (ga 3), (ga 4), (ga 5), (ga 6), (ga 7), (ga 8), (ga 9), (ga 10), (ga 11), (ga 12), (ga 13), (ga 14), (ga 15), (ga 16)]))] := hD
  obtain rfl : r_1 = 0 := hw
  refine lv_if_eq (tgt := 16) hx hb dX10_miss_5 (by decide) (fun _ => ?_) (fun h => absurd (by decide) h)
  refine lv_iconst (v := (-1)) hx hb dX10_miss_16 (by decide) ?_
  have hP9 := hP.sub (ws' := [(h0, .inr (10, [(g 0), (g 1), (g 2), .ref h3, (g 4), (g 5), (g 6), (g 7), (g 8), (g 9), (g 10), (g 11), (g 12), (g 13), (g 14), (g 15)])), (h3, .inr (5, [.int 0, (ga 1), (ga 2), (ga 3), (ga 4), (ga 5), (ga 6), (ga 7), (ga 8), (ga 9), (ga 10), (ga 11), (ga 12), (ga 13), (ga 14), (ga 15), (ga 16)]))]) [0, 1] rfl
  have hD9 := hD.sub (ws' := [(h0, .inr (10, [(g 0), (g 1), (g 2), .ref h3, (g 4), (g 5), (g 6), (g 7), (g 8), (g 9), (g 10), (g 11), (g 12), (g 13), (g 14), (g 15)])), (h3, .inr (5, [.int 0, (ga 1), (ga 2), (ga 3), (ga 4), (ga 5), (ga 6), (ga 7), (ga 8), (ga 9), (ga 10), (ga 11), (ga 12), (ga 13), (ga 14), (ga 15), (ga 16)]))]) [0, 1] (by decide) rfl
  have hK9 := hK.sub (tys' := []) [] rfl
  refine W.widen (k := 0) (n := 0) (Nat.le_of_ble_eq_true rfl) (Nat.le_of_ble_eq_true rfl) ?_
  exact W.iret (v := (-1)) hx hb hr (fun t ht hW => ⟨⟨(-1), (), rfl, rfl, by rw [ht]; exact hP9, va_K.moved hW.alike hK9, hD9⟩, hS.F ht⟩) hS.2.2 dX10_miss_17

set_option maxRecDepth 100000 in
set_option maxHeartbeats 4000000 in
theorem c_missStep (l : Launch) (dC : Nat → ClassId) (dI : Nat → Nat → Nat) (h0 : Nat) (h3 : Nat) (g : Nat → Value) (ga : Nat → Value) (p0 : Int32) (p1 : Int32) (p2 : Int32) (p3 : Int32) (sz : Nat) : Met l yX10_missStep (.code yX10_missStep cX10_missStep 5 (some .int) :: pw) ({ frames := 1, cells := 0, slots := 0, locals := 21 }) (va_Pc [.ref h0, .int p0, .int p1, .int p2, .int p3] (vPre dC dI [(h0, .inr (10, [(g 0), (g 1), (g 2), .ref h3, (g 4), (g 5), (g 6), (g 7), (g 8), (g 9), (g 10), (g 11), (g 12), (g 13), (g 14), (g 15)])), (h3, .inr (5, [.int 0, (ga 1), (ga 2), (ga 3), (ga 4), (ga 5), (ga 6), (ga 7), (ga 8), (ga 9), (ga 10), (ga 11), (ga 12), (ga 13), (ga 14), (ga 15), (ga 16)]))] [] sz)) (va_Qi (fun (r : Int32) (_ : Unit) => r = (-1)) (fun (_ : Unit) t => vPst dC dI (va_A [(h0, .inr (10, [(g 0), (g 1), (g 2), .ref h3, (g 4), (g 5), (g 6), (g 7), (g 8), (g 9), (g 10), (g 11), (g 12), (g 13), (g 14), (g 15)])), (h3, .inr (5, [.int 0, (ga 1), (ga 2), (ga 3), (ga 4), (ga 5), (ga 6), (ga 7), (ga 8), (ga 9), (ga 10), (ga 11), (ga 12), (ga 13), (ga 14), (ga 15), (ga 16)]))] sz) [(h0, .inr (10, [(g 0), (g 1), (g 2), .ref h3, (g 4), (g 5), (g 6), (g 7), (g 8), (g 9), (g 10), (g 11), (g 12), (g 13), (g 14), (g 15)])), (h3, .inr (5, [.int 0, (ga 1), (ga 2), (ga 3), (ga 4), (ga 5), (ga 6), (ga 7), (ga 8), (ga 9), (ga 10), (ga 11), (ga 12), (ga 13), (ga 14), (ga 15), (ga 16)]))] [] t) (va_A [(h0, .inr (10, [(g 0), (g 1), (g 2), .ref h3, (g 4), (g 5), (g 6), (g 7), (g 8), (g 9), (g 10), (g 11), (g 12), (g 13), (g 14), (g 15)])), (h3, .inr (5, [.int 0, (ga 1), (ga 2), (ga 3), (ga 4), (ga 5), (ga 6), (ga 7), (ga 8), (ga 9), (ga 10), (ga 11), (ga 12), (ga 13), (ga 14), (ga 15), (ga 16)]))] sz)) 0 0 (va_A [(h0, .inr (10, [(g 0), (g 1), (g 2), .ref h3, (g 4), (g 5), (g 6), (g 7), (g 8), (g 9), (g 10), (g 11), (g 12), (g 13), (g 14), (g 15)])), (h3, .inr (5, [.int 0, (ga 1), (ga 2), (ga 3), (ga 4), (ga 5), (ga 6), (ga 7), (ga 8), (ga 9), (ga 10), (ga 11), (ga 12), (ga 13), (ga 14), (ga 15), (ga 16)]))] sz) := by
  refine Met.ofW (cc := cX10_missStep) (maxL := 5) (ret := (some .int)) (by decide) rfl ?_
  intro p e s m args below meth c s₁ B hml hv
  obtain ⟨rfl, hsz, hP, hK, hD0⟩ := hv
  have hx := B.exec
  have hb := B.bytes
  have hr := B.returns
  have hts := atoms_spec (ws := .code yX10_missStep cX10_missStep 5 (some .int) :: pw) B.pre
  have hts : ∀ w ∈ pw, w.before _ s = true := fun w h => hts w (List.mem_cons_of_mem _ h)
  have hown : s.vm.findClass RX10 = some m.cls := findClass_of_methodNamed B.named
  have hlocks := B.notSynchronized
  subst hsz
  have hD := hD0.self (sz := s.heap.size)
  generalize hAe : va_A [(h0, .inr (10, [(g 0), (g 1), (g 2), .ref h3, (g 4), (g 5), (g 6), (g 7), (g 8), (g 9), (g 10), (g 11), (g 12), (g 13), (g 14), (g 15)])), (h3, .inr (5, [.int 0, (ga 1), (ga 2), (ga 3), (ga 4), (ga 5), (ga 6), (ga 7), (ga 8), (ga 9), (ga 10), (ga 11), (ga 12), (ga 13), (ga 14), (ga 15), (ga 16)]))] s.heap.size = A at hD ⊢
  have hA : ∀ q : Nat, s.heap.size ≤ q → A q := fun q h => by rw [← hAe]; exact Or.inr h
  have hS : va_S A s.heap s.heap [] := va_S.rf
  have hP : va_P (dC, dI) vwCl [(h0, .inr (10, [(g 0), (g 1), (g 2), .ref h3, (g 4), (g 5), (g 6), (g 7), (g 8), (g 9), (g 10), (g 11), (g 12), (g 13), (g 14), (g 15)])), (h3, .inr (5, [.int 0, (ga 1), (ga 2), (ga 3), (ga 4), (ga 5), (ga 6), (ga 7), (ga 8), (ga 9), (ga 10), (ga 11), (ga 12), (ga 13), (ga 14), (ga 15), (ga 16)]))] s.heap := hP
  have hl := lv_entry ([.ref h0, .int p0, .int p1, .int p2, .int p3]) (n := 5) (Nat.le_of_ble_eq_true rfl)
  rw [lg_entry_eq]
  generalize (lg_sl ([.ref h0, .int p0, .int p1, .int p2, .int p3]) ++ List.replicate (5 - (lg_sl ([.ref h0, .int p0, .int p1, .int p2, .int p3])).length) Slot.unset).toArray = ls at hl ⊢
  have hl : lv_has ls 5 [(0, .ref h0), (1, .int p0), (2, .int p1), (3, .int p2), (4, .int p3)] := hl
  refine lv_aload_n hx hb dX10_missStep_0 rfl (lv_at hl 0 rfl) ?_
  refine lv_iload_n hx hb dX10_missStep_1 rfl (lv_at hl 1 rfl) ?_
  have hPc := hP.sub (ws' := [(h0, .inr (10, [(g 0), (g 1), (g 2), .ref h3, (g 4), (g 5), (g 6), (g 7), (g 8), (g 9), (g 10), (g 11), (g 12), (g 13), (g 14), (g 15)])), (h3, .inr (5, [.int 0, (ga 1), (ga 2), (ga 3), (ga 4), (ga 5), (ga 6), (ga 7), (ga 8), (ga 9), (ga 10), (ga 11), (ga 12), (ga 13), (ga 14), (ga 15), (ga 16)]))]) [0, 1] rfl
  have hDc := hD.sub (ws' := [(h0, .inr (10, [(g 0), (g 1), (g 2), .ref h3, (g 4), (g 5), (g 6), (g 7), (g 8), (g 9), (g 10), (g 11), (g 12), (g 13), (g 14), (g 15)])), (h3, .inr (5, [.int 0, (ga 1), (ga 2), (ga 3), (ga 4), (ga 5), (ga 6), (ga 7), (ga 8), (ga 9), (ga 10), (ga 11), (ga 12), (ga 13), (ga 14), (ga 15), (ga 16)]))]) [0, 1] (by decide) rfl
  have hKc := hK.sub (tys' := []) [] rfl
  have hFc := va_free (wc := [(h0, .inr (10, [(g 0), (g 1), (g 2), .ref h3, (g 4), (g 5), (g 6), (g 7), (g 8), (g 9), (g 10), (g 11), (g 12), (g 13), (g 14), (g 15)])), (h3, .inr (5, [.int 0, (ga 1), (ga 2), (ga 3), (ga 4), (ga 5), (ga 6), (ga 7), (ga 8), (ga 9), (ga 10), (ga 11), (ga 12), (ga 13), (ga 14), (ga 15), (ga 16)]))]) hD hS hA [0, 1] rfl
  refine va_calli (va_runV (As := [.int p0]) (rest := []) ⟨hx, hb, hml, hown, hts⟩ (c_isPlan l dC dI h0 h3 g ga p0 s.heap.size) (cwV 1 hts (gV mw_2_28 mw_2_29 mw_3_0 mw_0_14 mw_19_6) rfl rfl rfl (by decide +kernel) ⟨(Nat.le_of_ble_eq_true rfl), (Nat.le_of_ble_eq_true rfl)⟩) (vV (ci := 10) (q0 := 0) hKc hPc hDc rfl rfl) rfl rfl hl.1 rfl (lv_room (Nat.le_of_ble_eq_true rfl)) dX10_missStep_2 ⟨(Nat.le_of_ble_eq_true rfl), (Nat.le_of_ble_eq_true rfl)⟩) hS (fun q _ h => hFc q h) hFc (fun r_1 u t H1 locs ht hvm hw hB hz1 hk1 hS => ?_)
  obtain ⟨hP1, hK1, hD1⟩ := hB
  rw [ht] at hP1
  have hK1 := va_K.moved hvm.symm hK1
  obtain ⟨hP, hD⟩ := va_join (wr := []) (w1 := [(h0, .inr (10, [(g 0), (g 1), (g 2), .ref h3, (g 4), (g 5), (g 6), (g 7), (g 8), (g 9), (g 10), (g 11), (g 12), (g 13), (g 14), (g 15)])), (h3, .inr (5, [.int 0, (ga 1), (ga 2), (ga 3), (ga 4), (ga 5), (ga 6), (ga 7), (ga 8), (ga 9), (ga 10), (ga 11), (ga 12), (ga 13), (ga 14), (ga 15), (ga 16)]))]) hP hD [0, 1] [] rfl rfl (by decide) (by decide) hk1 hFc hP1 hD1
  clear hPc hDc hKc hP1 hK1 hD1 hFc hk1 hz1
  generalize H1 = H at hP hS ⊢
  have hP : va_P (dC, dI) vwCl [(h0, .inr (10, [(g 0), (g 1), (g 2), .ref h3, (g 4), (g 5), (g 6), (g 7), (g 8), (g 9), (g 10), (g 11), (g 12), (g 13), (g 14), (g 15)])), (h3, .inr (5, [.int 0, (ga 1), (ga 2), (ga 3), (ga 4), (ga 5), (ga 6), (ga 7), (ga 8), (ga 9), (ga 10), (ga 11), (ga 12), (ga 13), (ga 14), (ga 15), (ga 16)]))] H := hP
  have hD : va_D A [(h0, .inr (10, [(g 0), (g 1), (g 2), .ref h3, (g 4), (g 5), (g 6), (g 7), (g 8), (g 9), (g 10), (g 11), (g 12), (g 13), (g 14), (g 15)])), (h3, .inr (5, [.int 0, (ga 1), (ga 2), (ga 3), (ga 4), (ga 5), (ga 6), (ga 7), (ga 8), (ga 9), (ga 10), (ga 11), (ga 12), (ga 13), (ga 14), (ga 15), (ga 16)]))] := hD
  obtain rfl : r_1 = 0 := hw
  refine lv_if_eq (tgt := 16) hx hb dX10_missStep_5 (by decide) (fun _ => ?_) (fun h => absurd (by decide) h)
  refine lv_iconst (v := (-1)) hx hb dX10_missStep_16 (by decide) ?_
  have hP9 := hP.sub (ws' := [(h0, .inr (10, [(g 0), (g 1), (g 2), .ref h3, (g 4), (g 5), (g 6), (g 7), (g 8), (g 9), (g 10), (g 11), (g 12), (g 13), (g 14), (g 15)])), (h3, .inr (5, [.int 0, (ga 1), (ga 2), (ga 3), (ga 4), (ga 5), (ga 6), (ga 7), (ga 8), (ga 9), (ga 10), (ga 11), (ga 12), (ga 13), (ga 14), (ga 15), (ga 16)]))]) [0, 1] rfl
  have hD9 := hD.sub (ws' := [(h0, .inr (10, [(g 0), (g 1), (g 2), .ref h3, (g 4), (g 5), (g 6), (g 7), (g 8), (g 9), (g 10), (g 11), (g 12), (g 13), (g 14), (g 15)])), (h3, .inr (5, [.int 0, (ga 1), (ga 2), (ga 3), (ga 4), (ga 5), (ga 6), (ga 7), (ga 8), (ga 9), (ga 10), (ga 11), (ga 12), (ga 13), (ga 14), (ga 15), (ga 16)]))]) [0, 1] (by decide) rfl
  have hK9 := hK.sub (tys' := []) [] rfl
  refine W.widen (k := 0) (n := 0) (Nat.le_of_ble_eq_true rfl) (Nat.le_of_ble_eq_true rfl) ?_
  exact W.iret (v := (-1)) hx hb hr (fun t ht hW => ⟨⟨(-1), (), rfl, rfl, by rw [ht]; exact hP9, va_K.moved hW.alike hK9, hD9⟩, hS.F ht⟩) hS.2.2 dX10_missStep_17

set_option maxRecDepth 100000 in
set_option maxHeartbeats 4000000 in
theorem c_readers (l : Launch) (dC : Nat → ClassId) (dI : Nat → Nat → Nat) (h0 : Nat) (h3 : Nat) (g : Nat → Value) (ga : Nat → Value) (p0 : Int32) (p1 : Int32) (sz : Nat) : Met l yX10_readers (.code yX10_readers cX10_readers 5 (some .int) :: pw) ({ frames := 1, cells := 0, slots := 0, locals := 21 }) (va_Pc [.ref h0, .int p0, .int p1] (vPre dC dI [(h0, .inr (10, [(g 0), (g 1), (g 2), .ref h3, (g 4), (g 5), (g 6), (g 7), (g 8), (g 9), (g 10), (g 11), (g 12), (g 13), (g 14), (g 15)])), (h3, .inr (5, [.int 0, (ga 1), (ga 2), (ga 3), (ga 4), (ga 5), (ga 6), (ga 7), (ga 8), (ga 9), (ga 10), (ga 11), (ga 12), (ga 13), (ga 14), (ga 15), (ga 16)]))] [] sz)) (va_Qi (fun (r : Int32) (_ : Unit) => r = (-1)) (fun (_ : Unit) t => vPst dC dI (va_A [(h0, .inr (10, [(g 0), (g 1), (g 2), .ref h3, (g 4), (g 5), (g 6), (g 7), (g 8), (g 9), (g 10), (g 11), (g 12), (g 13), (g 14), (g 15)])), (h3, .inr (5, [.int 0, (ga 1), (ga 2), (ga 3), (ga 4), (ga 5), (ga 6), (ga 7), (ga 8), (ga 9), (ga 10), (ga 11), (ga 12), (ga 13), (ga 14), (ga 15), (ga 16)]))] sz) [(h0, .inr (10, [(g 0), (g 1), (g 2), .ref h3, (g 4), (g 5), (g 6), (g 7), (g 8), (g 9), (g 10), (g 11), (g 12), (g 13), (g 14), (g 15)])), (h3, .inr (5, [.int 0, (ga 1), (ga 2), (ga 3), (ga 4), (ga 5), (ga 6), (ga 7), (ga 8), (ga 9), (ga 10), (ga 11), (ga 12), (ga 13), (ga 14), (ga 15), (ga 16)]))] [] t) (va_A [(h0, .inr (10, [(g 0), (g 1), (g 2), .ref h3, (g 4), (g 5), (g 6), (g 7), (g 8), (g 9), (g 10), (g 11), (g 12), (g 13), (g 14), (g 15)])), (h3, .inr (5, [.int 0, (ga 1), (ga 2), (ga 3), (ga 4), (ga 5), (ga 6), (ga 7), (ga 8), (ga 9), (ga 10), (ga 11), (ga 12), (ga 13), (ga 14), (ga 15), (ga 16)]))] sz)) 0 0 (va_A [(h0, .inr (10, [(g 0), (g 1), (g 2), .ref h3, (g 4), (g 5), (g 6), (g 7), (g 8), (g 9), (g 10), (g 11), (g 12), (g 13), (g 14), (g 15)])), (h3, .inr (5, [.int 0, (ga 1), (ga 2), (ga 3), (ga 4), (ga 5), (ga 6), (ga 7), (ga 8), (ga 9), (ga 10), (ga 11), (ga 12), (ga 13), (ga 14), (ga 15), (ga 16)]))] sz) := by
  refine Met.ofW (cc := cX10_readers) (maxL := 5) (ret := (some .int)) (by decide) rfl ?_
  intro p e s m args below meth c s₁ B hml hv
  obtain ⟨rfl, hsz, hP, hK, hD0⟩ := hv
  have hx := B.exec
  have hb := B.bytes
  have hr := B.returns
  have hts := atoms_spec (ws := .code yX10_readers cX10_readers 5 (some .int) :: pw) B.pre
  have hts : ∀ w ∈ pw, w.before _ s = true := fun w h => hts w (List.mem_cons_of_mem _ h)
  have hown : s.vm.findClass RX10 = some m.cls := findClass_of_methodNamed B.named
  have hlocks := B.notSynchronized
  subst hsz
  have hD := hD0.self (sz := s.heap.size)
  generalize hAe : va_A [(h0, .inr (10, [(g 0), (g 1), (g 2), .ref h3, (g 4), (g 5), (g 6), (g 7), (g 8), (g 9), (g 10), (g 11), (g 12), (g 13), (g 14), (g 15)])), (h3, .inr (5, [.int 0, (ga 1), (ga 2), (ga 3), (ga 4), (ga 5), (ga 6), (ga 7), (ga 8), (ga 9), (ga 10), (ga 11), (ga 12), (ga 13), (ga 14), (ga 15), (ga 16)]))] s.heap.size = A at hD ⊢
  have hA : ∀ q : Nat, s.heap.size ≤ q → A q := fun q h => by rw [← hAe]; exact Or.inr h
  have hS : va_S A s.heap s.heap [] := va_S.rf
  have hP : va_P (dC, dI) vwCl [(h0, .inr (10, [(g 0), (g 1), (g 2), .ref h3, (g 4), (g 5), (g 6), (g 7), (g 8), (g 9), (g 10), (g 11), (g 12), (g 13), (g 14), (g 15)])), (h3, .inr (5, [.int 0, (ga 1), (ga 2), (ga 3), (ga 4), (ga 5), (ga 6), (ga 7), (ga 8), (ga 9), (ga 10), (ga 11), (ga 12), (ga 13), (ga 14), (ga 15), (ga 16)]))] s.heap := hP
  have hl := lv_entry ([.ref h0, .int p0, .int p1]) (n := 5) (Nat.le_of_ble_eq_true rfl)
  rw [lg_entry_eq]
  generalize (lg_sl ([.ref h0, .int p0, .int p1]) ++ List.replicate (5 - (lg_sl ([.ref h0, .int p0, .int p1])).length) Slot.unset).toArray = ls at hl ⊢
  have hl : lv_has ls 5 [(0, .ref h0), (1, .int p0), (2, .int p1)] := hl
  refine lv_aload_n hx hb dX10_readers_0 rfl (lv_at hl 0 rfl) ?_
  refine lv_iload_n hx hb dX10_readers_1 rfl (lv_at hl 1 rfl) ?_
  have hPc := hP.sub (ws' := [(h0, .inr (10, [(g 0), (g 1), (g 2), .ref h3, (g 4), (g 5), (g 6), (g 7), (g 8), (g 9), (g 10), (g 11), (g 12), (g 13), (g 14), (g 15)])), (h3, .inr (5, [.int 0, (ga 1), (ga 2), (ga 3), (ga 4), (ga 5), (ga 6), (ga 7), (ga 8), (ga 9), (ga 10), (ga 11), (ga 12), (ga 13), (ga 14), (ga 15), (ga 16)]))]) [0, 1] rfl
  have hDc := hD.sub (ws' := [(h0, .inr (10, [(g 0), (g 1), (g 2), .ref h3, (g 4), (g 5), (g 6), (g 7), (g 8), (g 9), (g 10), (g 11), (g 12), (g 13), (g 14), (g 15)])), (h3, .inr (5, [.int 0, (ga 1), (ga 2), (ga 3), (ga 4), (ga 5), (ga 6), (ga 7), (ga 8), (ga 9), (ga 10), (ga 11), (ga 12), (ga 13), (ga 14), (ga 15), (ga 16)]))]) [0, 1] (by decide) rfl
  have hKc := hK.sub (tys' := []) [] rfl
  have hFc := va_free (wc := [(h0, .inr (10, [(g 0), (g 1), (g 2), .ref h3, (g 4), (g 5), (g 6), (g 7), (g 8), (g 9), (g 10), (g 11), (g 12), (g 13), (g 14), (g 15)])), (h3, .inr (5, [.int 0, (ga 1), (ga 2), (ga 3), (ga 4), (ga 5), (ga 6), (ga 7), (ga 8), (ga 9), (ga 10), (ga 11), (ga 12), (ga 13), (ga 14), (ga 15), (ga 16)]))]) hD hS hA [0, 1] rfl
  refine va_calli (va_runV (As := [.int p0]) (rest := []) ⟨hx, hb, hml, hown, hts⟩ (c_isPlan l dC dI h0 h3 g ga p0 s.heap.size) (cwV 1 hts (gV mw_2_28 mw_2_29 mw_3_0 mw_0_14 mw_19_6) rfl rfl rfl (by decide +kernel) ⟨(Nat.le_of_ble_eq_true rfl), (Nat.le_of_ble_eq_true rfl)⟩) (vV (ci := 10) (q0 := 0) hKc hPc hDc rfl rfl) rfl rfl hl.1 rfl (lv_room (Nat.le_of_ble_eq_true rfl)) dX10_readers_2 ⟨(Nat.le_of_ble_eq_true rfl), (Nat.le_of_ble_eq_true rfl)⟩) hS (fun q _ h => hFc q h) hFc (fun r_1 u t H1 locs ht hvm hw hB hz1 hk1 hS => ?_)
  obtain ⟨hP1, hK1, hD1⟩ := hB
  rw [ht] at hP1
  have hK1 := va_K.moved hvm.symm hK1
  obtain ⟨hP, hD⟩ := va_join (wr := []) (w1 := [(h0, .inr (10, [(g 0), (g 1), (g 2), .ref h3, (g 4), (g 5), (g 6), (g 7), (g 8), (g 9), (g 10), (g 11), (g 12), (g 13), (g 14), (g 15)])), (h3, .inr (5, [.int 0, (ga 1), (ga 2), (ga 3), (ga 4), (ga 5), (ga 6), (ga 7), (ga 8), (ga 9), (ga 10), (ga 11), (ga 12), (ga 13), (ga 14), (ga 15), (ga 16)]))]) hP hD [0, 1] [] rfl rfl (by decide) (by decide) hk1 hFc hP1 hD1
  clear hPc hDc hKc hP1 hK1 hD1 hFc hk1 hz1
  generalize H1 = H at hP hS ⊢
  have hP : va_P (dC, dI) vwCl [(h0, .inr (10, [(g 0), (g 1), (g 2), .ref h3, (g 4), (g 5), (g 6), (g 7), (g 8), (g 9), (g 10), (g 11), (g 12), (g 13), (g 14), (g 15)])), (h3, .inr (5, [.int 0, (ga 1), (ga 2), (ga 3), (ga 4), (ga 5), (ga 6), (ga 7), (ga 8), (ga 9), (ga 10), (ga 11), (ga 12), (ga 13), (ga 14), (ga 15), (ga 16)]))] H := hP
  have hD : va_D A [(h0, .inr (10, [(g 0), (g 1), (g 2), .ref h3, (g 4), (g 5), (g 6), (g 7), (g 8), (g 9), (g 10), (g 11), (g 12), (g 13), (g 14), (g 15)])), (h3, .inr (5, [.int 0, (ga 1), (ga 2), (ga 3), (ga 4), (ga 5), (ga 6), (ga 7), (ga 8), (ga 9), (ga 10), (ga 11), (ga 12), (ga 13), (ga 14), (ga 15), (ga 16)]))] := hD
  obtain rfl : r_1 = 0 := hw
  refine lv_if_eq (tgt := 17) hx hb dX10_readers_5 (by decide) (fun _ => ?_) (fun h => absurd (by decide) h)
  refine lv_iconst (v := (-1)) hx hb dX10_readers_17 (by decide) ?_
  have hP9 := hP.sub (ws' := [(h0, .inr (10, [(g 0), (g 1), (g 2), .ref h3, (g 4), (g 5), (g 6), (g 7), (g 8), (g 9), (g 10), (g 11), (g 12), (g 13), (g 14), (g 15)])), (h3, .inr (5, [.int 0, (ga 1), (ga 2), (ga 3), (ga 4), (ga 5), (ga 6), (ga 7), (ga 8), (ga 9), (ga 10), (ga 11), (ga 12), (ga 13), (ga 14), (ga 15), (ga 16)]))]) [0, 1] rfl
  have hD9 := hD.sub (ws' := [(h0, .inr (10, [(g 0), (g 1), (g 2), .ref h3, (g 4), (g 5), (g 6), (g 7), (g 8), (g 9), (g 10), (g 11), (g 12), (g 13), (g 14), (g 15)])), (h3, .inr (5, [.int 0, (ga 1), (ga 2), (ga 3), (ga 4), (ga 5), (ga 6), (ga 7), (ga 8), (ga 9), (ga 10), (ga 11), (ga 12), (ga 13), (ga 14), (ga 15), (ga 16)]))]) [0, 1] (by decide) rfl
  have hK9 := hK.sub (tys' := []) [] rfl
  refine W.widen (k := 0) (n := 0) (Nat.le_of_ble_eq_true rfl) (Nat.le_of_ble_eq_true rfl) ?_
  exact W.iret (v := (-1)) hx hb hr (fun t ht hW => ⟨⟨(-1), (), rfl, rfl, by rw [ht]; exact hP9, va_K.moved hW.alike hK9, hD9⟩, hS.F ht⟩) hS.2.2 dX10_readers_18

set_option maxRecDepth 100000 in
set_option maxHeartbeats 4000000 in
theorem c_message (l : Launch) (dC : Nat → ClassId) (dI : Nat → Nat → Nat) (h0 : Nat) (h6 : Nat) (h7 : Nat) (cA : ClassId) (g : Nat → Value) (gm : Nat → Value) (p0 : Int32) (p1 : Int32) (sz : Nat) : Met l yX10_message (.code yX10_message cX10_message 3 (some .int) :: pw) ({ frames := 2, cells := 0, slots := 0, locals := 42 }) (va_Pc [.ref h0, .int p0, .int p1] (vPre dC dI [(h0, .inr (10, [(g 0), (g 1), (g 2), (g 3), (g 4), (g 5), .ref h6, (g 7), (g 8), (g 9), (g 10), (g 11), (g 12), (g 13), (g 14), (g 15)])), (h6, .inr (1, [(gm 0), (gm 1), .ref h7])), (h7, .inl (cA, 4, .inl (fun _ => (-1))))] [(cA, .int)] sz)) (va_Qi (fun (r : Int32) (_ : Unit) => r = (-1)) (fun (_ : Unit) t => vPst dC dI (va_A [(h0, .inr (10, [(g 0), (g 1), (g 2), (g 3), (g 4), (g 5), .ref h6, (g 7), (g 8), (g 9), (g 10), (g 11), (g 12), (g 13), (g 14), (g 15)])), (h6, .inr (1, [(gm 0), (gm 1), .ref h7])), (h7, .inl (cA, 4, .inl (fun _ => (-1))))] sz) [(h0, .inr (10, [(g 0), (g 1), (g 2), (g 3), (g 4), (g 5), .ref h6, (g 7), (g 8), (g 9), (g 10), (g 11), (g 12), (g 13), (g 14), (g 15)])), (h6, .inr (1, [(gm 0), (gm 1), .ref h7])), (h7, .inl (cA, 4, .inl (fun _ => (-1))))] [(cA, .int)] t) (va_A [(h0, .inr (10, [(g 0), (g 1), (g 2), (g 3), (g 4), (g 5), .ref h6, (g 7), (g 8), (g 9), (g 10), (g 11), (g 12), (g 13), (g 14), (g 15)])), (h6, .inr (1, [(gm 0), (gm 1), .ref h7])), (h7, .inl (cA, 4, .inl (fun _ => (-1))))] sz)) 0 0 (va_A [(h0, .inr (10, [(g 0), (g 1), (g 2), (g 3), (g 4), (g 5), .ref h6, (g 7), (g 8), (g 9), (g 10), (g 11), (g 12), (g 13), (g 14), (g 15)])), (h6, .inr (1, [(gm 0), (gm 1), .ref h7])), (h7, .inl (cA, 4, .inl (fun _ => (-1))))] sz) := by
  refine Met.ofW (cc := cX10_message) (maxL := 3) (ret := (some .int)) (by decide) rfl ?_
  intro p e s m args below meth c s₁ B hml hv
  obtain ⟨rfl, hsz, hP, hK, hD0⟩ := hv
  have hx := B.exec
  have hb := B.bytes
  have hr := B.returns
  have hts := atoms_spec (ws := .code yX10_message cX10_message 3 (some .int) :: pw) B.pre
  have hts : ∀ w ∈ pw, w.before _ s = true := fun w h => hts w (List.mem_cons_of_mem _ h)
  have hown : s.vm.findClass RX10 = some m.cls := findClass_of_methodNamed B.named
  have hlocks := B.notSynchronized
  subst hsz
  have hD := hD0.self (sz := s.heap.size)
  generalize hAe : va_A [(h0, .inr (10, [(g 0), (g 1), (g 2), (g 3), (g 4), (g 5), .ref h6, (g 7), (g 8), (g 9), (g 10), (g 11), (g 12), (g 13), (g 14), (g 15)])), (h6, .inr (1, [(gm 0), (gm 1), .ref h7])), (h7, .inl (cA, 4, .inl (fun _ => (-1))))] s.heap.size = A at hD ⊢
  have hA : ∀ q : Nat, s.heap.size ≤ q → A q := fun q h => by rw [← hAe]; exact Or.inr h
  have hS : va_S A s.heap s.heap [] := va_S.rf
  have hP : va_P (dC, dI) vwCl [(h0, .inr (10, [(g 0), (g 1), (g 2), (g 3), (g 4), (g 5), .ref h6, (g 7), (g 8), (g 9), (g 10), (g 11), (g 12), (g 13), (g 14), (g 15)])), (h6, .inr (1, [(gm 0), (gm 1), .ref h7])), (h7, .inl (cA, 4, .inl (fun _ => (-1))))] s.heap := hP
  have hl := lv_entry ([.ref h0, .int p0, .int p1]) (n := 3) (Nat.le_of_ble_eq_true rfl)
  rw [lg_entry_eq]
  generalize (lg_sl ([.ref h0, .int p0, .int p1]) ++ List.replicate (3 - (lg_sl ([.ref h0, .int p0, .int p1])).length) Slot.unset).toArray = ls at hl ⊢
  have hl : lv_has ls 3 [(0, .ref h0), (1, .int p0), (2, .int p1)] := hl
  refine lv_aload_n hx hb dX10_message_0 rfl (lv_at hl 0 rfl) ?_
  refine va_get (D := (dC, dI)) (ci := 10) (v := .ref h6) (C := RX10) (T := TX10) (N := 16) hx hb hts inlX10 hown hK hP 0 rfl rfl 6 (by decide) (hts (.fieldLink RX10 48 "ShapeReader" "messages" "LShapeReader$Messages;") mw_1_9) (fun _ h9 => h9) rfl dX10_message_1 ?_
  refine lv_iload_n hx hb dX10_message_4 rfl (lv_at hl 1 rfl) ?_
  have hPc := hP.sub (ws' := [(h6, .inr (1, [(gm 0), (gm 1), .ref h7])), (h7, .inl (cA, 4, .inl (fun _ => (-1))))]) [1, 2] rfl
  have hDc := hD.sub (ws' := [(h6, .inr (1, [(gm 0), (gm 1), .ref h7])), (h7, .inl (cA, 4, .inl (fun _ => (-1))))]) [1, 2] (by decide) rfl
  have hKc := hK.sub (tys' := [(cA, .int)]) [0] rfl
  have hFc := va_free (wc := [(h6, .inr (1, [(gm 0), (gm 1), .ref h7])), (h7, .inl (cA, 4, .inl (fun _ => (-1))))]) hD hS hA [1, 2] rfl
  refine va_calli (va_runV (As := [.int p0]) (rest := []) ⟨hx, hb, hml, hown, hts⟩ (c_isWritten l dC dI h6 h7 cA gm p0 s.heap.size) (cwV 1 hts (gV mw_3_8 mw_3_9 mw_3_10 mw_0_5 mw_20_12) rfl rfl rfl (by decide +kernel) ⟨(Nat.le_of_ble_eq_true rfl), (Nat.le_of_ble_eq_true rfl)⟩) (vV (ci := 1) (q0 := 0) hKc hPc hDc rfl rfl) rfl rfl hl.1 rfl (lv_room (Nat.le_of_ble_eq_true rfl)) dX10_message_5 ⟨(Nat.le_of_ble_eq_true rfl), (Nat.le_of_ble_eq_true rfl)⟩) hS (fun q _ h => hFc q h) hFc (fun r_1 u t H1 locs ht hvm hw hB hz1 hk1 hS => ?_)
  obtain ⟨hP1, hK1, hD1⟩ := hB
  rw [ht] at hP1
  have hK1 := va_K.moved hvm.symm hK1
  obtain ⟨hP, hD⟩ := va_join (wr := [(h0, .inr (10, [(g 0), (g 1), (g 2), (g 3), (g 4), (g 5), .ref h6, (g 7), (g 8), (g 9), (g 10), (g 11), (g 12), (g 13), (g 14), (g 15)]))]) (w1 := [(h6, .inr (1, [(gm 0), (gm 1), .ref h7])), (h7, .inl (cA, 4, .inl (fun _ => (-1))))]) hP hD [1, 2] [0] rfl rfl (by decide) (by decide) hk1 hFc hP1 hD1
  clear hPc hDc hKc hP1 hK1 hD1 hFc hk1 hz1
  generalize H1 = H at hP hS ⊢
  have hP : va_P (dC, dI) vwCl [(h0, .inr (10, [(g 0), (g 1), (g 2), (g 3), (g 4), (g 5), .ref h6, (g 7), (g 8), (g 9), (g 10), (g 11), (g 12), (g 13), (g 14), (g 15)])), (h6, .inr (1, [(gm 0), (gm 1), .ref h7])), (h7, .inl (cA, 4, .inl (fun _ => (-1))))] H := hP
  have hD : va_D A [(h0, .inr (10, [(g 0), (g 1), (g 2), (g 3), (g 4), (g 5), .ref h6, (g 7), (g 8), (g 9), (g 10), (g 11), (g 12), (g 13), (g 14), (g 15)])), (h6, .inr (1, [(gm 0), (gm 1), .ref h7])), (h7, .inl (cA, 4, .inl (fun _ => (-1))))] := hD
  obtain rfl : r_1 = 0 := hw
  refine lv_if_ne (tgt := 13) hx hb dX10_message_8 (by decide) (fun h => absurd rfl h) (fun _ => ?_)
  refine lv_iconst (v := (-1)) hx hb dX10_message_11 (by decide) ?_
  have hP9 := hP.sub (ws' := [(h0, .inr (10, [(g 0), (g 1), (g 2), (g 3), (g 4), (g 5), .ref h6, (g 7), (g 8), (g 9), (g 10), (g 11), (g 12), (g 13), (g 14), (g 15)])), (h6, .inr (1, [(gm 0), (gm 1), .ref h7])), (h7, .inl (cA, 4, .inl (fun _ => (-1))))]) [0, 1, 2] rfl
  have hD9 := hD.sub (ws' := [(h0, .inr (10, [(g 0), (g 1), (g 2), (g 3), (g 4), (g 5), .ref h6, (g 7), (g 8), (g 9), (g 10), (g 11), (g 12), (g 13), (g 14), (g 15)])), (h6, .inr (1, [(gm 0), (gm 1), .ref h7])), (h7, .inl (cA, 4, .inl (fun _ => (-1))))]) [0, 1, 2] (by decide) rfl
  have hK9 := hK.sub (tys' := [(cA, .int)]) [0] rfl
  refine W.widen (k := 0) (n := 0) (Nat.le_of_ble_eq_true rfl) (Nat.le_of_ble_eq_true rfl) ?_
  exact W.iret (v := (-1)) hx hb hr (fun t ht hW => ⟨⟨(-1), (), rfl, rfl, by rw [ht]; exact hP9, va_K.moved hW.alike hK9, hD9⟩, hS.F ht⟩) hS.2.2 dX10_message_12

set_option maxRecDepth 100000 in
set_option maxHeartbeats 4000000 in
theorem c_spoil (l : Launch) (dC : Nat → ClassId) (dI : Nat → Nat → Nat) (h0 : Nat) (h6 : Nat) (h7 : Nat) (cA : ClassId) (g : Nat → Value) (gm : Nat → Value) (p0 : Int32) (p1 : Int32) (p2 : Int32) (sz : Nat) : Met l yX10_spoil (.code yX10_spoil cX10_spoil 4 (some .int) :: pw) ({ frames := 3, cells := 0, slots := 0, locals := 64 }) (va_Pc [.ref h0, .int p0, .int p1, .int p2] (vPre dC dI [(h0, .inr (10, [(g 0), (g 1), (g 2), (g 3), (g 4), (g 5), .ref h6, (g 7), (g 8), (g 9), (g 10), (g 11), (g 12), (g 13), (g 14), (g 15)])), (h6, .inr (1, [(gm 0), (gm 1), .ref h7])), (h7, .inl (cA, 4, .inl (fun _ => (-1))))] [(cA, .int)] sz)) (va_Qi (fun (r : Int32) (_ : Unit) => r = (-1)) (fun (_ : Unit) t => vPst dC dI (va_A [(h0, .inr (10, [(g 0), (g 1), (g 2), (g 3), (g 4), (g 5), .ref h6, (g 7), (g 8), (g 9), (g 10), (g 11), (g 12), (g 13), (g 14), (g 15)])), (h6, .inr (1, [(gm 0), (gm 1), .ref h7])), (h7, .inl (cA, 4, .inl (fun _ => (-1))))] sz) [(h0, .inr (10, [(g 0), (g 1), (g 2), (g 3), (g 4), (g 5), .ref h6, (g 7), (g 8), (g 9), (g 10), (g 11), (g 12), (g 13), (g 14), (g 15)])), (h6, .inr (1, [(gm 0), (gm 1), .ref h7])), (h7, .inl (cA, 4, .inl (fun _ => (-1))))] [(cA, .int)] t) (va_A [(h0, .inr (10, [(g 0), (g 1), (g 2), (g 3), (g 4), (g 5), .ref h6, (g 7), (g 8), (g 9), (g 10), (g 11), (g 12), (g 13), (g 14), (g 15)])), (h6, .inr (1, [(gm 0), (gm 1), .ref h7])), (h7, .inl (cA, 4, .inl (fun _ => (-1))))] sz)) 0 0 (va_A [(h0, .inr (10, [(g 0), (g 1), (g 2), (g 3), (g 4), (g 5), .ref h6, (g 7), (g 8), (g 9), (g 10), (g 11), (g 12), (g 13), (g 14), (g 15)])), (h6, .inr (1, [(gm 0), (gm 1), .ref h7])), (h7, .inl (cA, 4, .inl (fun _ => (-1))))] sz) := by
  refine Met.ofW (cc := cX10_spoil) (maxL := 4) (ret := (some .int)) (by decide) rfl ?_
  intro p e s m args below meth c s₁ B hml hv
  obtain ⟨rfl, hsz, hP, hK, hD0⟩ := hv
  have hx := B.exec
  have hb := B.bytes
  have hr := B.returns
  have hts := atoms_spec (ws := .code yX10_spoil cX10_spoil 4 (some .int) :: pw) B.pre
  have hts : ∀ w ∈ pw, w.before _ s = true := fun w h => hts w (List.mem_cons_of_mem _ h)
  have hown : s.vm.findClass RX10 = some m.cls := findClass_of_methodNamed B.named
  have hlocks := B.notSynchronized
  subst hsz
  have hD := hD0.self (sz := s.heap.size)
  generalize hAe : va_A [(h0, .inr (10, [(g 0), (g 1), (g 2), (g 3), (g 4), (g 5), .ref h6, (g 7), (g 8), (g 9), (g 10), (g 11), (g 12), (g 13), (g 14), (g 15)])), (h6, .inr (1, [(gm 0), (gm 1), .ref h7])), (h7, .inl (cA, 4, .inl (fun _ => (-1))))] s.heap.size = A at hD ⊢
  have hA : ∀ q : Nat, s.heap.size ≤ q → A q := fun q h => by rw [← hAe]; exact Or.inr h
  have hS : va_S A s.heap s.heap [] := va_S.rf
  have hP : va_P (dC, dI) vwCl [(h0, .inr (10, [(g 0), (g 1), (g 2), (g 3), (g 4), (g 5), .ref h6, (g 7), (g 8), (g 9), (g 10), (g 11), (g 12), (g 13), (g 14), (g 15)])), (h6, .inr (1, [(gm 0), (gm 1), .ref h7])), (h7, .inl (cA, 4, .inl (fun _ => (-1))))] s.heap := hP
  have hl := lv_entry ([.ref h0, .int p0, .int p1, .int p2]) (n := 4) (Nat.le_of_ble_eq_true rfl)
  rw [lg_entry_eq]
  generalize (lg_sl ([.ref h0, .int p0, .int p1, .int p2]) ++ List.replicate (4 - (lg_sl ([.ref h0, .int p0, .int p1, .int p2])).length) Slot.unset).toArray = ls at hl ⊢
  have hl : lv_has ls 4 [(0, .ref h0), (1, .int p0), (2, .int p1), (3, .int p2)] := hl
  refine lv_aload_n hx hb dX10_spoil_0 rfl (lv_at hl 0 rfl) ?_
  refine va_get (D := (dC, dI)) (ci := 10) (v := .ref h6) (C := RX10) (T := TX10) (N := 16) hx hb hts inlX10 hown hK hP 0 rfl rfl 6 (by decide) (hts (.fieldLink RX10 48 "ShapeReader" "messages" "LShapeReader$Messages;") mw_1_9) (fun _ h9 => h9) rfl dX10_spoil_1 ?_
  refine lv_iload_n hx hb dX10_spoil_4 rfl (lv_at hl 1 rfl) ?_
  refine lv_iload_n hx hb dX10_spoil_5 rfl (lv_at hl 2 rfl) ?_
  have hPc := hP.sub (ws' := [(h6, .inr (1, [(gm 0), (gm 1), .ref h7])), (h7, .inl (cA, 4, .inl (fun _ => (-1))))]) [1, 2] rfl
  have hDc := hD.sub (ws' := [(h6, .inr (1, [(gm 0), (gm 1), .ref h7])), (h7, .inl (cA, 4, .inl (fun _ => (-1))))]) [1, 2] (by decide) rfl
  have hKc := hK.sub (tys' := [(cA, .int)]) [0] rfl
  have hFc := va_free (wc := [(h6, .inr (1, [(gm 0), (gm 1), .ref h7])), (h7, .inl (cA, 4, .inl (fun _ => (-1))))]) hD hS hA [1, 2] rfl
  refine va_calli (va_runV (As := [.int p0, .int p1]) (rest := []) ⟨hx, hb, hml, hown, hts⟩ (c_hasByte l dC dI h6 h7 cA gm p0 p1 s.heap.size) (cwV 2 hts (gV mw_3_11 mw_3_12 mw_3_13 mw_0_5 mw_20_13) rfl rfl rfl (by decide +kernel) ⟨(Nat.le_of_ble_eq_true rfl), (Nat.le_of_ble_eq_true rfl)⟩) (vV (ci := 1) (q0 := 0) hKc hPc hDc rfl rfl) rfl rfl hl.1 rfl (lv_room (Nat.le_of_ble_eq_true rfl)) dX10_spoil_6 ⟨(Nat.le_of_ble_eq_true rfl), (Nat.le_of_ble_eq_true rfl)⟩) hS (fun q _ h => hFc q h) hFc (fun r_1 u t H1 locs ht hvm hw hB hz1 hk1 hS => ?_)
  obtain ⟨hP1, hK1, hD1⟩ := hB
  rw [ht] at hP1
  have hK1 := va_K.moved hvm.symm hK1
  obtain ⟨hP, hD⟩ := va_join (wr := [(h0, .inr (10, [(g 0), (g 1), (g 2), (g 3), (g 4), (g 5), .ref h6, (g 7), (g 8), (g 9), (g 10), (g 11), (g 12), (g 13), (g 14), (g 15)]))]) (w1 := [(h6, .inr (1, [(gm 0), (gm 1), .ref h7])), (h7, .inl (cA, 4, .inl (fun _ => (-1))))]) hP hD [1, 2] [0] rfl rfl (by decide) (by decide) hk1 hFc hP1 hD1
  clear hPc hDc hKc hP1 hK1 hD1 hFc hk1 hz1
  generalize H1 = H at hP hS ⊢
  have hP : va_P (dC, dI) vwCl [(h0, .inr (10, [(g 0), (g 1), (g 2), (g 3), (g 4), (g 5), .ref h6, (g 7), (g 8), (g 9), (g 10), (g 11), (g 12), (g 13), (g 14), (g 15)])), (h6, .inr (1, [(gm 0), (gm 1), .ref h7])), (h7, .inl (cA, 4, .inl (fun _ => (-1))))] H := hP
  have hD : va_D A [(h0, .inr (10, [(g 0), (g 1), (g 2), (g 3), (g 4), (g 5), .ref h6, (g 7), (g 8), (g 9), (g 10), (g 11), (g 12), (g 13), (g 14), (g 15)])), (h6, .inr (1, [(gm 0), (gm 1), .ref h7])), (h7, .inl (cA, 4, .inl (fun _ => (-1))))] := hD
  obtain rfl : r_1 = 0 := hw
  refine lv_if_ne (tgt := 14) hx hb dX10_spoil_9 (by decide) (fun h => absurd rfl h) (fun _ => ?_)
  refine lv_iconst (v := (-1)) hx hb dX10_spoil_12 (by decide) ?_
  have hP9 := hP.sub (ws' := [(h0, .inr (10, [(g 0), (g 1), (g 2), (g 3), (g 4), (g 5), .ref h6, (g 7), (g 8), (g 9), (g 10), (g 11), (g 12), (g 13), (g 14), (g 15)])), (h6, .inr (1, [(gm 0), (gm 1), .ref h7])), (h7, .inl (cA, 4, .inl (fun _ => (-1))))]) [0, 1, 2] rfl
  have hD9 := hD.sub (ws' := [(h0, .inr (10, [(g 0), (g 1), (g 2), (g 3), (g 4), (g 5), .ref h6, (g 7), (g 8), (g 9), (g 10), (g 11), (g 12), (g 13), (g 14), (g 15)])), (h6, .inr (1, [(gm 0), (gm 1), .ref h7])), (h7, .inl (cA, 4, .inl (fun _ => (-1))))]) [0, 1, 2] (by decide) rfl
  have hK9 := hK.sub (tys' := [(cA, .int)]) [0] rfl
  refine W.widen (k := 0) (n := 0) (Nat.le_of_ble_eq_true rfl) (Nat.le_of_ble_eq_true rfl) ?_
  exact W.iret (v := (-1)) hx hb hr (fun t ht hW => ⟨⟨(-1), (), rfl, rfl, by rw [ht]; exact hP9, va_K.moved hW.alike hK9, hD9⟩, hS.F ht⟩) hS.2.2 dX10_spoil_13

set_option maxRecDepth 100000 in
set_option maxHeartbeats 4000000 in
theorem c_cut (l : Launch) (dC : Nat → ClassId) (dI : Nat → Nat → Nat) (h0 : Nat) (h6 : Nat) (h7 : Nat) (cA : ClassId) (g : Nat → Value) (gm : Nat → Value) (p0 : Int32) (p1 : Int32) (sz : Nat) : Met l yX10_cut (.code yX10_cut cX10_cut 3 (some .int) :: pw) ({ frames := 2, cells := 0, slots := 0, locals := 42 }) (va_Pc [.ref h0, .int p0, .int p1] (vPre dC dI [(h0, .inr (10, [(g 0), (g 1), (g 2), (g 3), (g 4), (g 5), .ref h6, (g 7), (g 8), (g 9), (g 10), (g 11), (g 12), (g 13), (g 14), (g 15)])), (h6, .inr (1, [(gm 0), (gm 1), .ref h7])), (h7, .inl (cA, 4, .inl (fun _ => (-1))))] [(cA, .int)] sz)) (va_Qi (fun (r : Int32) (_ : Unit) => r = (-1)) (fun (_ : Unit) t => vPst dC dI (va_A [(h0, .inr (10, [(g 0), (g 1), (g 2), (g 3), (g 4), (g 5), .ref h6, (g 7), (g 8), (g 9), (g 10), (g 11), (g 12), (g 13), (g 14), (g 15)])), (h6, .inr (1, [(gm 0), (gm 1), .ref h7])), (h7, .inl (cA, 4, .inl (fun _ => (-1))))] sz) [(h0, .inr (10, [(g 0), (g 1), (g 2), (g 3), (g 4), (g 5), .ref h6, (g 7), (g 8), (g 9), (g 10), (g 11), (g 12), (g 13), (g 14), (g 15)])), (h6, .inr (1, [(gm 0), (gm 1), .ref h7])), (h7, .inl (cA, 4, .inl (fun _ => (-1))))] [(cA, .int)] t) (va_A [(h0, .inr (10, [(g 0), (g 1), (g 2), (g 3), (g 4), (g 5), .ref h6, (g 7), (g 8), (g 9), (g 10), (g 11), (g 12), (g 13), (g 14), (g 15)])), (h6, .inr (1, [(gm 0), (gm 1), .ref h7])), (h7, .inl (cA, 4, .inl (fun _ => (-1))))] sz)) 0 0 (va_A [(h0, .inr (10, [(g 0), (g 1), (g 2), (g 3), (g 4), (g 5), .ref h6, (g 7), (g 8), (g 9), (g 10), (g 11), (g 12), (g 13), (g 14), (g 15)])), (h6, .inr (1, [(gm 0), (gm 1), .ref h7])), (h7, .inl (cA, 4, .inl (fun _ => (-1))))] sz) := by
  refine Met.ofW (cc := cX10_cut) (maxL := 3) (ret := (some .int)) (by decide) rfl ?_
  intro p e s m args below meth c s₁ B hml hv
  obtain ⟨rfl, hsz, hP, hK, hD0⟩ := hv
  have hx := B.exec
  have hb := B.bytes
  have hr := B.returns
  have hts := atoms_spec (ws := .code yX10_cut cX10_cut 3 (some .int) :: pw) B.pre
  have hts : ∀ w ∈ pw, w.before _ s = true := fun w h => hts w (List.mem_cons_of_mem _ h)
  have hown : s.vm.findClass RX10 = some m.cls := findClass_of_methodNamed B.named
  have hlocks := B.notSynchronized
  subst hsz
  have hD := hD0.self (sz := s.heap.size)
  generalize hAe : va_A [(h0, .inr (10, [(g 0), (g 1), (g 2), (g 3), (g 4), (g 5), .ref h6, (g 7), (g 8), (g 9), (g 10), (g 11), (g 12), (g 13), (g 14), (g 15)])), (h6, .inr (1, [(gm 0), (gm 1), .ref h7])), (h7, .inl (cA, 4, .inl (fun _ => (-1))))] s.heap.size = A at hD ⊢
  have hA : ∀ q : Nat, s.heap.size ≤ q → A q := fun q h => by rw [← hAe]; exact Or.inr h
  have hS : va_S A s.heap s.heap [] := va_S.rf
  have hP : va_P (dC, dI) vwCl [(h0, .inr (10, [(g 0), (g 1), (g 2), (g 3), (g 4), (g 5), .ref h6, (g 7), (g 8), (g 9), (g 10), (g 11), (g 12), (g 13), (g 14), (g 15)])), (h6, .inr (1, [(gm 0), (gm 1), .ref h7])), (h7, .inl (cA, 4, .inl (fun _ => (-1))))] s.heap := hP
  have hl := lv_entry ([.ref h0, .int p0, .int p1]) (n := 3) (Nat.le_of_ble_eq_true rfl)
  rw [lg_entry_eq]
  generalize (lg_sl ([.ref h0, .int p0, .int p1]) ++ List.replicate (3 - (lg_sl ([.ref h0, .int p0, .int p1])).length) Slot.unset).toArray = ls at hl ⊢
  have hl : lv_has ls 3 [(0, .ref h0), (1, .int p0), (2, .int p1)] := hl
  refine lv_aload_n hx hb dX10_cut_0 rfl (lv_at hl 0 rfl) ?_
  refine va_get (D := (dC, dI)) (ci := 10) (v := .ref h6) (C := RX10) (T := TX10) (N := 16) hx hb hts inlX10 hown hK hP 0 rfl rfl 6 (by decide) (hts (.fieldLink RX10 48 "ShapeReader" "messages" "LShapeReader$Messages;") mw_1_9) (fun _ h9 => h9) rfl dX10_cut_1 ?_
  refine lv_iload_n hx hb dX10_cut_4 rfl (lv_at hl 1 rfl) ?_
  have hPc := hP.sub (ws' := [(h6, .inr (1, [(gm 0), (gm 1), .ref h7])), (h7, .inl (cA, 4, .inl (fun _ => (-1))))]) [1, 2] rfl
  have hDc := hD.sub (ws' := [(h6, .inr (1, [(gm 0), (gm 1), .ref h7])), (h7, .inl (cA, 4, .inl (fun _ => (-1))))]) [1, 2] (by decide) rfl
  have hKc := hK.sub (tys' := [(cA, .int)]) [0] rfl
  have hFc := va_free (wc := [(h6, .inr (1, [(gm 0), (gm 1), .ref h7])), (h7, .inl (cA, 4, .inl (fun _ => (-1))))]) hD hS hA [1, 2] rfl
  refine va_calli (va_runV (As := [.int p0]) (rest := []) ⟨hx, hb, hml, hown, hts⟩ (c_isWritten l dC dI h6 h7 cA gm p0 s.heap.size) (cwV 1 hts (gV mw_3_8 mw_3_9 mw_3_10 mw_0_5 mw_20_12) rfl rfl rfl (by decide +kernel) ⟨(Nat.le_of_ble_eq_true rfl), (Nat.le_of_ble_eq_true rfl)⟩) (vV (ci := 1) (q0 := 0) hKc hPc hDc rfl rfl) rfl rfl hl.1 rfl (lv_room (Nat.le_of_ble_eq_true rfl)) dX10_cut_5 ⟨(Nat.le_of_ble_eq_true rfl), (Nat.le_of_ble_eq_true rfl)⟩) hS (fun q _ h => hFc q h) hFc (fun r_1 u t H1 locs ht hvm hw hB hz1 hk1 hS => ?_)
  obtain ⟨hP1, hK1, hD1⟩ := hB
  rw [ht] at hP1
  have hK1 := va_K.moved hvm.symm hK1
  obtain ⟨hP, hD⟩ := va_join (wr := [(h0, .inr (10, [(g 0), (g 1), (g 2), (g 3), (g 4), (g 5), .ref h6, (g 7), (g 8), (g 9), (g 10), (g 11), (g 12), (g 13), (g 14), (g 15)]))]) (w1 := [(h6, .inr (1, [(gm 0), (gm 1), .ref h7])), (h7, .inl (cA, 4, .inl (fun _ => (-1))))]) hP hD [1, 2] [0] rfl rfl (by decide) (by decide) hk1 hFc hP1 hD1
  clear hPc hDc hKc hP1 hK1 hD1 hFc hk1 hz1
  generalize H1 = H at hP hS ⊢
  have hP : va_P (dC, dI) vwCl [(h0, .inr (10, [(g 0), (g 1), (g 2), (g 3), (g 4), (g 5), .ref h6, (g 7), (g 8), (g 9), (g 10), (g 11), (g 12), (g 13), (g 14), (g 15)])), (h6, .inr (1, [(gm 0), (gm 1), .ref h7])), (h7, .inl (cA, 4, .inl (fun _ => (-1))))] H := hP
  have hD : va_D A [(h0, .inr (10, [(g 0), (g 1), (g 2), (g 3), (g 4), (g 5), .ref h6, (g 7), (g 8), (g 9), (g 10), (g 11), (g 12), (g 13), (g 14), (g 15)])), (h6, .inr (1, [(gm 0), (gm 1), .ref h7])), (h7, .inl (cA, 4, .inl (fun _ => (-1))))] := hD
  obtain rfl : r_1 = 0 := hw
  refine lv_if_eq (tgt := 27) hx hb dX10_cut_8 (by decide) (fun _ => ?_) (fun h => absurd (by decide) h)
  refine lv_iconst (v := (-1)) hx hb dX10_cut_27 (by decide) ?_
  have hP9 := hP.sub (ws' := [(h0, .inr (10, [(g 0), (g 1), (g 2), (g 3), (g 4), (g 5), .ref h6, (g 7), (g 8), (g 9), (g 10), (g 11), (g 12), (g 13), (g 14), (g 15)])), (h6, .inr (1, [(gm 0), (gm 1), .ref h7])), (h7, .inl (cA, 4, .inl (fun _ => (-1))))]) [0, 1, 2] rfl
  have hD9 := hD.sub (ws' := [(h0, .inr (10, [(g 0), (g 1), (g 2), (g 3), (g 4), (g 5), .ref h6, (g 7), (g 8), (g 9), (g 10), (g 11), (g 12), (g 13), (g 14), (g 15)])), (h6, .inr (1, [(gm 0), (gm 1), .ref h7])), (h7, .inl (cA, 4, .inl (fun _ => (-1))))]) [0, 1, 2] (by decide) rfl
  have hK9 := hK.sub (tys' := [(cA, .int)]) [0] rfl
  refine W.widen (k := 0) (n := 0) (Nat.le_of_ble_eq_true rfl) (Nat.le_of_ble_eq_true rfl) ?_
  exact W.iret (v := (-1)) hx hb hr (fun t ht hW => ⟨⟨(-1), (), rfl, rfl, by rw [ht]; exact hP9, va_K.moved hW.alike hK9, hD9⟩, hS.F ht⟩) hS.2.2 dX10_cut_28

set_option maxRecDepth 100000 in
set_option maxHeartbeats 4000000 in
theorem c_read (l : Launch) (dC : Nat → ClassId) (dI : Nat → Nat → Nat) (h0 : Nat) (h6 : Nat) (h7 : Nat) (cA : ClassId) (g : Nat → Value) (gm : Nat → Value) (p0 : Int32) (p1 : Int32) (sz : Nat) : Met l yX10_read (.code yX10_read cX10_read 3 (some .int) :: pw) ({ frames := 2, cells := 0, slots := 0, locals := 42 }) (va_Pc [.ref h0, .int p0, .int p1] (vPre dC dI [(h0, .inr (10, [(g 0), (g 1), (g 2), (g 3), (g 4), (g 5), .ref h6, (g 7), (g 8), (g 9), (g 10), (g 11), (g 12), (g 13), (g 14), (g 15)])), (h6, .inr (1, [(gm 0), (gm 1), .ref h7])), (h7, .inl (cA, 4, .inl (fun _ => (-1))))] [(cA, .int)] sz)) (va_Qi (fun (r : Int32) (_ : Unit) => r = (-1)) (fun (_ : Unit) t => vPst dC dI (va_A [(h0, .inr (10, [(g 0), (g 1), (g 2), (g 3), (g 4), (g 5), .ref h6, (g 7), (g 8), (g 9), (g 10), (g 11), (g 12), (g 13), (g 14), (g 15)])), (h6, .inr (1, [(gm 0), (gm 1), .ref h7])), (h7, .inl (cA, 4, .inl (fun _ => (-1))))] sz) [(h0, .inr (10, [(g 0), (g 1), (g 2), (g 3), (g 4), (g 5), .ref h6, (g 7), (g 8), (g 9), (g 10), (g 11), (g 12), (g 13), (g 14), (g 15)])), (h6, .inr (1, [(gm 0), (gm 1), .ref h7])), (h7, .inl (cA, 4, .inl (fun _ => (-1))))] [(cA, .int)] t) (va_A [(h0, .inr (10, [(g 0), (g 1), (g 2), (g 3), (g 4), (g 5), .ref h6, (g 7), (g 8), (g 9), (g 10), (g 11), (g 12), (g 13), (g 14), (g 15)])), (h6, .inr (1, [(gm 0), (gm 1), .ref h7])), (h7, .inl (cA, 4, .inl (fun _ => (-1))))] sz)) 0 0 (va_A [(h0, .inr (10, [(g 0), (g 1), (g 2), (g 3), (g 4), (g 5), .ref h6, (g 7), (g 8), (g 9), (g 10), (g 11), (g 12), (g 13), (g 14), (g 15)])), (h6, .inr (1, [(gm 0), (gm 1), .ref h7])), (h7, .inl (cA, 4, .inl (fun _ => (-1))))] sz) := by
  refine Met.ofW (cc := cX10_read) (maxL := 3) (ret := (some .int)) (by decide) rfl ?_
  intro p e s m args below meth c s₁ B hml hv
  obtain ⟨rfl, hsz, hP, hK, hD0⟩ := hv
  have hx := B.exec
  have hb := B.bytes
  have hr := B.returns
  have hts := atoms_spec (ws := .code yX10_read cX10_read 3 (some .int) :: pw) B.pre
  have hts : ∀ w ∈ pw, w.before _ s = true := fun w h => hts w (List.mem_cons_of_mem _ h)
  have hown : s.vm.findClass RX10 = some m.cls := findClass_of_methodNamed B.named
  have hlocks := B.notSynchronized
  subst hsz
  have hD := hD0.self (sz := s.heap.size)
  generalize hAe : va_A [(h0, .inr (10, [(g 0), (g 1), (g 2), (g 3), (g 4), (g 5), .ref h6, (g 7), (g 8), (g 9), (g 10), (g 11), (g 12), (g 13), (g 14), (g 15)])), (h6, .inr (1, [(gm 0), (gm 1), .ref h7])), (h7, .inl (cA, 4, .inl (fun _ => (-1))))] s.heap.size = A at hD ⊢
  have hA : ∀ q : Nat, s.heap.size ≤ q → A q := fun q h => by rw [← hAe]; exact Or.inr h
  have hS : va_S A s.heap s.heap [] := va_S.rf
  have hP : va_P (dC, dI) vwCl [(h0, .inr (10, [(g 0), (g 1), (g 2), (g 3), (g 4), (g 5), .ref h6, (g 7), (g 8), (g 9), (g 10), (g 11), (g 12), (g 13), (g 14), (g 15)])), (h6, .inr (1, [(gm 0), (gm 1), .ref h7])), (h7, .inl (cA, 4, .inl (fun _ => (-1))))] s.heap := hP
  have hl := lv_entry ([.ref h0, .int p0, .int p1]) (n := 3) (Nat.le_of_ble_eq_true rfl)
  rw [lg_entry_eq]
  generalize (lg_sl ([.ref h0, .int p0, .int p1]) ++ List.replicate (3 - (lg_sl ([.ref h0, .int p0, .int p1])).length) Slot.unset).toArray = ls at hl ⊢
  have hl : lv_has ls 3 [(0, .ref h0), (1, .int p0), (2, .int p1)] := hl
  refine lv_aload_n hx hb dX10_read_0 rfl (lv_at hl 0 rfl) ?_
  refine va_get (D := (dC, dI)) (ci := 10) (v := .ref h6) (C := RX10) (T := TX10) (N := 16) hx hb hts inlX10 hown hK hP 0 rfl rfl 6 (by decide) (hts (.fieldLink RX10 48 "ShapeReader" "messages" "LShapeReader$Messages;") mw_1_9) (fun _ h9 => h9) rfl dX10_read_1 ?_
  refine lv_iload_n hx hb dX10_read_4 rfl (lv_at hl 1 rfl) ?_
  have hPc := hP.sub (ws' := [(h6, .inr (1, [(gm 0), (gm 1), .ref h7])), (h7, .inl (cA, 4, .inl (fun _ => (-1))))]) [1, 2] rfl
  have hDc := hD.sub (ws' := [(h6, .inr (1, [(gm 0), (gm 1), .ref h7])), (h7, .inl (cA, 4, .inl (fun _ => (-1))))]) [1, 2] (by decide) rfl
  have hKc := hK.sub (tys' := [(cA, .int)]) [0] rfl
  have hFc := va_free (wc := [(h6, .inr (1, [(gm 0), (gm 1), .ref h7])), (h7, .inl (cA, 4, .inl (fun _ => (-1))))]) hD hS hA [1, 2] rfl
  refine va_calli (va_runV (As := [.int p0]) (rest := []) ⟨hx, hb, hml, hown, hts⟩ (c_isWritten l dC dI h6 h7 cA gm p0 s.heap.size) (cwV 1 hts (gV mw_3_8 mw_3_9 mw_3_10 mw_0_5 mw_20_12) rfl rfl rfl (by decide +kernel) ⟨(Nat.le_of_ble_eq_true rfl), (Nat.le_of_ble_eq_true rfl)⟩) (vV (ci := 1) (q0 := 0) hKc hPc hDc rfl rfl) rfl rfl hl.1 rfl (lv_room (Nat.le_of_ble_eq_true rfl)) dX10_read_5 ⟨(Nat.le_of_ble_eq_true rfl), (Nat.le_of_ble_eq_true rfl)⟩) hS (fun q _ h => hFc q h) hFc (fun r_1 u t H1 locs ht hvm hw hB hz1 hk1 hS => ?_)
  obtain ⟨hP1, hK1, hD1⟩ := hB
  rw [ht] at hP1
  have hK1 := va_K.moved hvm.symm hK1
  obtain ⟨hP, hD⟩ := va_join (wr := [(h0, .inr (10, [(g 0), (g 1), (g 2), (g 3), (g 4), (g 5), .ref h6, (g 7), (g 8), (g 9), (g 10), (g 11), (g 12), (g 13), (g 14), (g 15)]))]) (w1 := [(h6, .inr (1, [(gm 0), (gm 1), .ref h7])), (h7, .inl (cA, 4, .inl (fun _ => (-1))))]) hP hD [1, 2] [0] rfl rfl (by decide) (by decide) hk1 hFc hP1 hD1
  clear hPc hDc hKc hP1 hK1 hD1 hFc hk1 hz1
  generalize H1 = H at hP hS ⊢
  have hP : va_P (dC, dI) vwCl [(h0, .inr (10, [(g 0), (g 1), (g 2), (g 3), (g 4), (g 5), .ref h6, (g 7), (g 8), (g 9), (g 10), (g 11), (g 12), (g 13), (g 14), (g 15)])), (h6, .inr (1, [(gm 0), (gm 1), .ref h7])), (h7, .inl (cA, 4, .inl (fun _ => (-1))))] H := hP
  have hD : va_D A [(h0, .inr (10, [(g 0), (g 1), (g 2), (g 3), (g 4), (g 5), .ref h6, (g 7), (g 8), (g 9), (g 10), (g 11), (g 12), (g 13), (g 14), (g 15)])), (h6, .inr (1, [(gm 0), (gm 1), .ref h7])), (h7, .inl (cA, 4, .inl (fun _ => (-1))))] := hD
  obtain rfl : r_1 = 0 := hw
  refine lv_if_eq (tgt := 19) hx hb dX10_read_8 (by decide) (fun _ => ?_) (fun h => absurd (by decide) h)
  refine lv_iconst (v := (-1)) hx hb dX10_read_19 (by decide) ?_
  have hP9 := hP.sub (ws' := [(h0, .inr (10, [(g 0), (g 1), (g 2), (g 3), (g 4), (g 5), .ref h6, (g 7), (g 8), (g 9), (g 10), (g 11), (g 12), (g 13), (g 14), (g 15)])), (h6, .inr (1, [(gm 0), (gm 1), .ref h7])), (h7, .inl (cA, 4, .inl (fun _ => (-1))))]) [0, 1, 2] rfl
  have hD9 := hD.sub (ws' := [(h0, .inr (10, [(g 0), (g 1), (g 2), (g 3), (g 4), (g 5), .ref h6, (g 7), (g 8), (g 9), (g 10), (g 11), (g 12), (g 13), (g 14), (g 15)])), (h6, .inr (1, [(gm 0), (gm 1), .ref h7])), (h7, .inl (cA, 4, .inl (fun _ => (-1))))]) [0, 1, 2] (by decide) rfl
  have hK9 := hK.sub (tys' := [(cA, .int)]) [0] rfl
  refine W.widen (k := 0) (n := 0) (Nat.le_of_ble_eq_true rfl) (Nat.le_of_ble_eq_true rfl) ?_
  exact W.iret (v := (-1)) hx hb hr (fun t ht hW => ⟨⟨(-1), (), rfl, rfl, by rw [ht]; exact hP9, va_K.moved hW.alike hK9, hD9⟩, hS.F ht⟩) hS.2.2 dX10_read_20

set_option maxRecDepth 100000 in
set_option maxHeartbeats 4000000 in
theorem c_convert (l : Launch) (dC : Nat → ClassId) (dI : Nat → Nat → Nat) (h0 : Nat) (h6 : Nat) (h7 : Nat) (cA : ClassId) (g : Nat → Value) (gm : Nat → Value) (p0 : Int32) (p1 : Int32) (p2 : Int32) (sz : Nat) : Met l yX10_convert (.code yX10_convert cX10_convert 5 (some .int) :: pw) ({ frames := 2, cells := 0, slots := 0, locals := 42 }) (va_Pc [.ref h0, .int p0, .int p1, .int p2] (vPre dC dI [(h0, .inr (10, [(g 0), (g 1), (g 2), (g 3), (g 4), (g 5), .ref h6, (g 7), (g 8), (g 9), (g 10), (g 11), (g 12), (g 13), (g 14), (g 15)])), (h6, .inr (1, [(gm 0), (gm 1), .ref h7])), (h7, .inl (cA, 4, .inl (fun _ => (-1))))] [(cA, .int)] sz)) (va_Qi (fun (r : Int32) (_ : Unit) => r = (-1)) (fun (_ : Unit) t => vPst dC dI (va_A [(h0, .inr (10, [(g 0), (g 1), (g 2), (g 3), (g 4), (g 5), .ref h6, (g 7), (g 8), (g 9), (g 10), (g 11), (g 12), (g 13), (g 14), (g 15)])), (h6, .inr (1, [(gm 0), (gm 1), .ref h7])), (h7, .inl (cA, 4, .inl (fun _ => (-1))))] sz) [(h0, .inr (10, [(g 0), (g 1), (g 2), (g 3), (g 4), (g 5), .ref h6, (g 7), (g 8), (g 9), (g 10), (g 11), (g 12), (g 13), (g 14), (g 15)])), (h6, .inr (1, [(gm 0), (gm 1), .ref h7])), (h7, .inl (cA, 4, .inl (fun _ => (-1))))] [(cA, .int)] t) (va_A [(h0, .inr (10, [(g 0), (g 1), (g 2), (g 3), (g 4), (g 5), .ref h6, (g 7), (g 8), (g 9), (g 10), (g 11), (g 12), (g 13), (g 14), (g 15)])), (h6, .inr (1, [(gm 0), (gm 1), .ref h7])), (h7, .inl (cA, 4, .inl (fun _ => (-1))))] sz)) 0 0 (va_A [(h0, .inr (10, [(g 0), (g 1), (g 2), (g 3), (g 4), (g 5), .ref h6, (g 7), (g 8), (g 9), (g 10), (g 11), (g 12), (g 13), (g 14), (g 15)])), (h6, .inr (1, [(gm 0), (gm 1), .ref h7])), (h7, .inl (cA, 4, .inl (fun _ => (-1))))] sz) := by
  refine Met.ofW (cc := cX10_convert) (maxL := 5) (ret := (some .int)) (by decide) rfl ?_
  intro p e s m args below meth c s₁ B hml hv
  obtain ⟨rfl, hsz, hP, hK, hD0⟩ := hv
  have hx := B.exec
  have hb := B.bytes
  have hr := B.returns
  have hts := atoms_spec (ws := .code yX10_convert cX10_convert 5 (some .int) :: pw) B.pre
  have hts : ∀ w ∈ pw, w.before _ s = true := fun w h => hts w (List.mem_cons_of_mem _ h)
  have hown : s.vm.findClass RX10 = some m.cls := findClass_of_methodNamed B.named
  have hlocks := B.notSynchronized
  subst hsz
  have hD := hD0.self (sz := s.heap.size)
  generalize hAe : va_A [(h0, .inr (10, [(g 0), (g 1), (g 2), (g 3), (g 4), (g 5), .ref h6, (g 7), (g 8), (g 9), (g 10), (g 11), (g 12), (g 13), (g 14), (g 15)])), (h6, .inr (1, [(gm 0), (gm 1), .ref h7])), (h7, .inl (cA, 4, .inl (fun _ => (-1))))] s.heap.size = A at hD ⊢
  have hA : ∀ q : Nat, s.heap.size ≤ q → A q := fun q h => by rw [← hAe]; exact Or.inr h
  have hS : va_S A s.heap s.heap [] := va_S.rf
  have hP : va_P (dC, dI) vwCl [(h0, .inr (10, [(g 0), (g 1), (g 2), (g 3), (g 4), (g 5), .ref h6, (g 7), (g 8), (g 9), (g 10), (g 11), (g 12), (g 13), (g 14), (g 15)])), (h6, .inr (1, [(gm 0), (gm 1), .ref h7])), (h7, .inl (cA, 4, .inl (fun _ => (-1))))] s.heap := hP
  have hl := lv_entry ([.ref h0, .int p0, .int p1, .int p2]) (n := 5) (Nat.le_of_ble_eq_true rfl)
  rw [lg_entry_eq]
  generalize (lg_sl ([.ref h0, .int p0, .int p1, .int p2]) ++ List.replicate (5 - (lg_sl ([.ref h0, .int p0, .int p1, .int p2])).length) Slot.unset).toArray = ls at hl ⊢
  have hl : lv_has ls 5 [(0, .ref h0), (1, .int p0), (2, .int p1), (3, .int p2)] := hl
  refine lv_aload_n hx hb dX10_convert_0 rfl (lv_at hl 0 rfl) ?_
  refine va_get (D := (dC, dI)) (ci := 10) (v := .ref h6) (C := RX10) (T := TX10) (N := 16) hx hb hts inlX10 hown hK hP 0 rfl rfl 6 (by decide) (hts (.fieldLink RX10 48 "ShapeReader" "messages" "LShapeReader$Messages;") mw_1_9) (fun _ h9 => h9) rfl dX10_convert_1 ?_
  refine lv_iload_n hx hb dX10_convert_4 rfl (lv_at hl 1 rfl) ?_
  have hPc := hP.sub (ws' := [(h6, .inr (1, [(gm 0), (gm 1), .ref h7])), (h7, .inl (cA, 4, .inl (fun _ => (-1))))]) [1, 2] rfl
  have hDc := hD.sub (ws' := [(h6, .inr (1, [(gm 0), (gm 1), .ref h7])), (h7, .inl (cA, 4, .inl (fun _ => (-1))))]) [1, 2] (by decide) rfl
  have hKc := hK.sub (tys' := [(cA, .int)]) [0] rfl
  have hFc := va_free (wc := [(h6, .inr (1, [(gm 0), (gm 1), .ref h7])), (h7, .inl (cA, 4, .inl (fun _ => (-1))))]) hD hS hA [1, 2] rfl
  refine va_calli (va_runV (As := [.int p0]) (rest := []) ⟨hx, hb, hml, hown, hts⟩ (c_isWritten l dC dI h6 h7 cA gm p0 s.heap.size) (cwV 1 hts (gV mw_3_8 mw_3_9 mw_3_10 mw_0_5 mw_20_12) rfl rfl rfl (by decide +kernel) ⟨(Nat.le_of_ble_eq_true rfl), (Nat.le_of_ble_eq_true rfl)⟩) (vV (ci := 1) (q0 := 0) hKc hPc hDc rfl rfl) rfl rfl hl.1 rfl (lv_room (Nat.le_of_ble_eq_true rfl)) dX10_convert_5 ⟨(Nat.le_of_ble_eq_true rfl), (Nat.le_of_ble_eq_true rfl)⟩) hS (fun q _ h => hFc q h) hFc (fun r_1 u t H1 locs ht hvm hw hB hz1 hk1 hS => ?_)
  obtain ⟨hP1, hK1, hD1⟩ := hB
  rw [ht] at hP1
  have hK1 := va_K.moved hvm.symm hK1
  obtain ⟨hP, hD⟩ := va_join (wr := [(h0, .inr (10, [(g 0), (g 1), (g 2), (g 3), (g 4), (g 5), .ref h6, (g 7), (g 8), (g 9), (g 10), (g 11), (g 12), (g 13), (g 14), (g 15)]))]) (w1 := [(h6, .inr (1, [(gm 0), (gm 1), .ref h7])), (h7, .inl (cA, 4, .inl (fun _ => (-1))))]) hP hD [1, 2] [0] rfl rfl (by decide) (by decide) hk1 hFc hP1 hD1
  clear hPc hDc hKc hP1 hK1 hD1 hFc hk1 hz1
  generalize H1 = H at hP hS ⊢
  have hP : va_P (dC, dI) vwCl [(h0, .inr (10, [(g 0), (g 1), (g 2), (g 3), (g 4), (g 5), .ref h6, (g 7), (g 8), (g 9), (g 10), (g 11), (g 12), (g 13), (g 14), (g 15)])), (h6, .inr (1, [(gm 0), (gm 1), .ref h7])), (h7, .inl (cA, 4, .inl (fun _ => (-1))))] H := hP
  have hD : va_D A [(h0, .inr (10, [(g 0), (g 1), (g 2), (g 3), (g 4), (g 5), .ref h6, (g 7), (g 8), (g 9), (g 10), (g 11), (g 12), (g 13), (g 14), (g 15)])), (h6, .inr (1, [(gm 0), (gm 1), .ref h7])), (h7, .inl (cA, 4, .inl (fun _ => (-1))))] := hD
  obtain rfl : r_1 = 0 := hw
  refine lv_if_eq (tgt := 30) hx hb dX10_convert_8 (by decide) (fun _ => ?_) (fun h => absurd (by decide) h)
  refine lv_iconst (v := (-1)) hx hb dX10_convert_30 (by decide) ?_
  have hP9 := hP.sub (ws' := [(h0, .inr (10, [(g 0), (g 1), (g 2), (g 3), (g 4), (g 5), .ref h6, (g 7), (g 8), (g 9), (g 10), (g 11), (g 12), (g 13), (g 14), (g 15)])), (h6, .inr (1, [(gm 0), (gm 1), .ref h7])), (h7, .inl (cA, 4, .inl (fun _ => (-1))))]) [0, 1, 2] rfl
  have hD9 := hD.sub (ws' := [(h0, .inr (10, [(g 0), (g 1), (g 2), (g 3), (g 4), (g 5), .ref h6, (g 7), (g 8), (g 9), (g 10), (g 11), (g 12), (g 13), (g 14), (g 15)])), (h6, .inr (1, [(gm 0), (gm 1), .ref h7])), (h7, .inl (cA, 4, .inl (fun _ => (-1))))]) [0, 1, 2] (by decide) rfl
  have hK9 := hK.sub (tys' := [(cA, .int)]) [0] rfl
  refine W.widen (k := 0) (n := 0) (Nat.le_of_ble_eq_true rfl) (Nat.le_of_ble_eq_true rfl) ?_
  exact W.iret (v := (-1)) hx hb hr (fun t ht hW => ⟨⟨(-1), (), rfl, rfl, by rw [ht]; exact hP9, va_K.moved hW.alike hK9, hD9⟩, hS.F ht⟩) hS.2.2 dX10_convert_31

set_option maxRecDepth 100000 in
set_option maxHeartbeats 4000000 in
theorem c_alike (l : Launch) (dC : Nat → ClassId) (dI : Nat → Nat → Nat) (h0 : Nat) (h6 : Nat) (h7 : Nat) (cA : ClassId) (g : Nat → Value) (gm : Nat → Value) (p0 : Int32) (p1 : Int32) (p2 : Int32) (sz : Nat) : Met l yX10_alike (.code yX10_alike cX10_alike 6 (some .int) :: pw) ({ frames := 2, cells := 0, slots := 0, locals := 42 }) (va_Pc [.ref h0, .int p0, .int p1, .int p2] (vPre dC dI [(h0, .inr (10, [(g 0), (g 1), (g 2), (g 3), (g 4), (g 5), .ref h6, (g 7), (g 8), (g 9), (g 10), (g 11), (g 12), (g 13), (g 14), (g 15)])), (h6, .inr (1, [(gm 0), (gm 1), .ref h7])), (h7, .inl (cA, 4, .inl (fun _ => (-1))))] [(cA, .int)] sz)) (va_Qi (fun (r : Int32) (_ : Unit) => r = (-1)) (fun (_ : Unit) t => vPst dC dI (va_A [(h0, .inr (10, [(g 0), (g 1), (g 2), (g 3), (g 4), (g 5), .ref h6, (g 7), (g 8), (g 9), (g 10), (g 11), (g 12), (g 13), (g 14), (g 15)])), (h6, .inr (1, [(gm 0), (gm 1), .ref h7])), (h7, .inl (cA, 4, .inl (fun _ => (-1))))] sz) [(h0, .inr (10, [(g 0), (g 1), (g 2), (g 3), (g 4), (g 5), .ref h6, (g 7), (g 8), (g 9), (g 10), (g 11), (g 12), (g 13), (g 14), (g 15)])), (h6, .inr (1, [(gm 0), (gm 1), .ref h7])), (h7, .inl (cA, 4, .inl (fun _ => (-1))))] [(cA, .int)] t) (va_A [(h0, .inr (10, [(g 0), (g 1), (g 2), (g 3), (g 4), (g 5), .ref h6, (g 7), (g 8), (g 9), (g 10), (g 11), (g 12), (g 13), (g 14), (g 15)])), (h6, .inr (1, [(gm 0), (gm 1), .ref h7])), (h7, .inl (cA, 4, .inl (fun _ => (-1))))] sz)) 0 0 (va_A [(h0, .inr (10, [(g 0), (g 1), (g 2), (g 3), (g 4), (g 5), .ref h6, (g 7), (g 8), (g 9), (g 10), (g 11), (g 12), (g 13), (g 14), (g 15)])), (h6, .inr (1, [(gm 0), (gm 1), .ref h7])), (h7, .inl (cA, 4, .inl (fun _ => (-1))))] sz) := by
  refine Met.ofW (cc := cX10_alike) (maxL := 6) (ret := (some .int)) (by decide) rfl ?_
  intro p e s m args below meth c s₁ B hml hv
  obtain ⟨rfl, hsz, hP, hK, hD0⟩ := hv
  have hx := B.exec
  have hb := B.bytes
  have hr := B.returns
  have hts := atoms_spec (ws := .code yX10_alike cX10_alike 6 (some .int) :: pw) B.pre
  have hts : ∀ w ∈ pw, w.before _ s = true := fun w h => hts w (List.mem_cons_of_mem _ h)
  have hown : s.vm.findClass RX10 = some m.cls := findClass_of_methodNamed B.named
  have hlocks := B.notSynchronized
  subst hsz
  have hD := hD0.self (sz := s.heap.size)
  generalize hAe : va_A [(h0, .inr (10, [(g 0), (g 1), (g 2), (g 3), (g 4), (g 5), .ref h6, (g 7), (g 8), (g 9), (g 10), (g 11), (g 12), (g 13), (g 14), (g 15)])), (h6, .inr (1, [(gm 0), (gm 1), .ref h7])), (h7, .inl (cA, 4, .inl (fun _ => (-1))))] s.heap.size = A at hD ⊢
  have hA : ∀ q : Nat, s.heap.size ≤ q → A q := fun q h => by rw [← hAe]; exact Or.inr h
  have hS : va_S A s.heap s.heap [] := va_S.rf
  have hP : va_P (dC, dI) vwCl [(h0, .inr (10, [(g 0), (g 1), (g 2), (g 3), (g 4), (g 5), .ref h6, (g 7), (g 8), (g 9), (g 10), (g 11), (g 12), (g 13), (g 14), (g 15)])), (h6, .inr (1, [(gm 0), (gm 1), .ref h7])), (h7, .inl (cA, 4, .inl (fun _ => (-1))))] s.heap := hP
  have hl := lv_entry ([.ref h0, .int p0, .int p1, .int p2]) (n := 6) (Nat.le_of_ble_eq_true rfl)
  rw [lg_entry_eq]
  generalize (lg_sl ([.ref h0, .int p0, .int p1, .int p2]) ++ List.replicate (6 - (lg_sl ([.ref h0, .int p0, .int p1, .int p2])).length) Slot.unset).toArray = ls at hl ⊢
  have hl : lv_has ls 6 [(0, .ref h0), (1, .int p0), (2, .int p1), (3, .int p2)] := hl
  refine lv_aload_n hx hb dX10_alike_0 rfl (lv_at hl 0 rfl) ?_
  refine va_get (D := (dC, dI)) (ci := 10) (v := .ref h6) (C := RX10) (T := TX10) (N := 16) hx hb hts inlX10 hown hK hP 0 rfl rfl 6 (by decide) (hts (.fieldLink RX10 48 "ShapeReader" "messages" "LShapeReader$Messages;") mw_1_9) (fun _ h9 => h9) rfl dX10_alike_1 ?_
  refine lv_iload_n hx hb dX10_alike_4 rfl (lv_at hl 1 rfl) ?_
  have hPc := hP.sub (ws' := [(h6, .inr (1, [(gm 0), (gm 1), .ref h7])), (h7, .inl (cA, 4, .inl (fun _ => (-1))))]) [1, 2] rfl
  have hDc := hD.sub (ws' := [(h6, .inr (1, [(gm 0), (gm 1), .ref h7])), (h7, .inl (cA, 4, .inl (fun _ => (-1))))]) [1, 2] (by decide) rfl
  have hKc := hK.sub (tys' := [(cA, .int)]) [0] rfl
  have hFc := va_free (wc := [(h6, .inr (1, [(gm 0), (gm 1), .ref h7])), (h7, .inl (cA, 4, .inl (fun _ => (-1))))]) hD hS hA [1, 2] rfl
  refine va_calli (va_runV (As := [.int p0]) (rest := []) ⟨hx, hb, hml, hown, hts⟩ (c_isWritten l dC dI h6 h7 cA gm p0 s.heap.size) (cwV 1 hts (gV mw_3_8 mw_3_9 mw_3_10 mw_0_5 mw_20_12) rfl rfl rfl (by decide +kernel) ⟨(Nat.le_of_ble_eq_true rfl), (Nat.le_of_ble_eq_true rfl)⟩) (vV (ci := 1) (q0 := 0) hKc hPc hDc rfl rfl) rfl rfl hl.1 rfl (lv_room (Nat.le_of_ble_eq_true rfl)) dX10_alike_5 ⟨(Nat.le_of_ble_eq_true rfl), (Nat.le_of_ble_eq_true rfl)⟩) hS (fun q _ h => hFc q h) hFc (fun r_1 u t H1 locs ht hvm hw hB hz1 hk1 hS => ?_)
  obtain ⟨hP1, hK1, hD1⟩ := hB
  rw [ht] at hP1
  have hK1 := va_K.moved hvm.symm hK1
  obtain ⟨hP, hD⟩ := va_join (wr := [(h0, .inr (10, [(g 0), (g 1), (g 2), (g 3), (g 4), (g 5), .ref h6, (g 7), (g 8), (g 9), (g 10), (g 11), (g 12), (g 13), (g 14), (g 15)]))]) (w1 := [(h6, .inr (1, [(gm 0), (gm 1), .ref h7])), (h7, .inl (cA, 4, .inl (fun _ => (-1))))]) hP hD [1, 2] [0] rfl rfl (by decide) (by decide) hk1 hFc hP1 hD1
  clear hPc hDc hKc hP1 hK1 hD1 hFc hk1 hz1
  generalize H1 = H at hP hS ⊢
  have hP : va_P (dC, dI) vwCl [(h0, .inr (10, [(g 0), (g 1), (g 2), (g 3), (g 4), (g 5), .ref h6, (g 7), (g 8), (g 9), (g 10), (g 11), (g 12), (g 13), (g 14), (g 15)])), (h6, .inr (1, [(gm 0), (gm 1), .ref h7])), (h7, .inl (cA, 4, .inl (fun _ => (-1))))] H := hP
  have hD : va_D A [(h0, .inr (10, [(g 0), (g 1), (g 2), (g 3), (g 4), (g 5), .ref h6, (g 7), (g 8), (g 9), (g 10), (g 11), (g 12), (g 13), (g 14), (g 15)])), (h6, .inr (1, [(gm 0), (gm 1), .ref h7])), (h7, .inl (cA, 4, .inl (fun _ => (-1))))] := hD
  obtain rfl : r_1 = 0 := hw
  refine lv_if_eq (tgt := 30) hx hb dX10_alike_8 (by decide) (fun _ => ?_) (fun h => absurd (by decide) h)
  refine lv_iconst (v := (-1)) hx hb dX10_alike_30 (by decide) ?_
  have hP9 := hP.sub (ws' := [(h0, .inr (10, [(g 0), (g 1), (g 2), (g 3), (g 4), (g 5), .ref h6, (g 7), (g 8), (g 9), (g 10), (g 11), (g 12), (g 13), (g 14), (g 15)])), (h6, .inr (1, [(gm 0), (gm 1), .ref h7])), (h7, .inl (cA, 4, .inl (fun _ => (-1))))]) [0, 1, 2] rfl
  have hD9 := hD.sub (ws' := [(h0, .inr (10, [(g 0), (g 1), (g 2), (g 3), (g 4), (g 5), .ref h6, (g 7), (g 8), (g 9), (g 10), (g 11), (g 12), (g 13), (g 14), (g 15)])), (h6, .inr (1, [(gm 0), (gm 1), .ref h7])), (h7, .inl (cA, 4, .inl (fun _ => (-1))))]) [0, 1, 2] (by decide) rfl
  have hK9 := hK.sub (tys' := [(cA, .int)]) [0] rfl
  refine W.widen (k := 0) (n := 0) (Nat.le_of_ble_eq_true rfl) (Nat.le_of_ble_eq_true rfl) ?_
  exact W.iret (v := (-1)) hx hb hr (fun t ht hW => ⟨⟨(-1), (), rfl, rfl, by rw [ht]; exact hP9, va_K.moved hW.alike hK9, hD9⟩, hS.F ht⟩) hS.2.2 dX10_alike_31

set_option maxRecDepth 100000 in
set_option maxHeartbeats 4000000 in
theorem c_write (l : Launch) (dC : Nat → ClassId) (dI : Nat → Nat → Nat) (h3 : Nat) (ga : Nat → Value) (h0 : Nat) (h6 : Nat) (h7 : Nat) (cA : ClassId) (g : Nat → Value) (gm : Nat → Value) (p0 : Int32) (p1 : Int32) (p2 : Int32) (sz : Nat) : Met l yX10_write (.code yX10_write cX10_write 4 (some .int) :: pw) ({ frames := 1, cells := 0, slots := 0, locals := 21 }) (va_Pc [.ref h0, .int p0, .int p1, .int p2] (vPre dC dI [(h0, .inr (10, [(g 0), (g 1), (g 2), .ref h3, (g 4), (g 5), .ref h6, (g 7), (g 8), (g 9), (g 10), (g 11), (g 12), (g 13), (g 14), (g 15)])), (h6, .inr (1, [(gm 0), (gm 1), .ref h7])), (h7, .inl (cA, 4, .inl (fun _ => (-1)))), (h3, .inr (5, [.int 0, (ga 1), (ga 2), (ga 3), (ga 4), (ga 5), (ga 6), (ga 7), (ga 8), (ga 9), (ga 10), (ga 11), (ga 12), (ga 13), (ga 14), (ga 15), (ga 16)]))] [(cA, .int)] sz)) (va_Qi (fun (r : Int32) (_ : Unit) => r = (-1)) (fun (_ : Unit) t => vPst dC dI (va_A [(h0, .inr (10, [(g 0), (g 1), (g 2), .ref h3, (g 4), (g 5), .ref h6, (g 7), (g 8), (g 9), (g 10), (g 11), (g 12), (g 13), (g 14), (g 15)])), (h6, .inr (1, [(gm 0), (gm 1), .ref h7])), (h7, .inl (cA, 4, .inl (fun _ => (-1)))), (h3, .inr (5, [.int 0, (ga 1), (ga 2), (ga 3), (ga 4), (ga 5), (ga 6), (ga 7), (ga 8), (ga 9), (ga 10), (ga 11), (ga 12), (ga 13), (ga 14), (ga 15), (ga 16)]))] sz) [(h0, .inr (10, [(g 0), (g 1), (g 2), .ref h3, (g 4), (g 5), .ref h6, (g 7), (g 8), (g 9), (g 10), (g 11), (g 12), (g 13), (g 14), (g 15)])), (h6, .inr (1, [(gm 0), (gm 1), .ref h7])), (h7, .inl (cA, 4, .inl (fun _ => (-1)))), (h3, .inr (5, [.int 0, (ga 1), (ga 2), (ga 3), (ga 4), (ga 5), (ga 6), (ga 7), (ga 8), (ga 9), (ga 10), (ga 11), (ga 12), (ga 13), (ga 14), (ga 15), (ga 16)]))] [(cA, .int)] t) (va_A [(h0, .inr (10, [(g 0), (g 1), (g 2), .ref h3, (g 4), (g 5), .ref h6, (g 7), (g 8), (g 9), (g 10), (g 11), (g 12), (g 13), (g 14), (g 15)])), (h6, .inr (1, [(gm 0), (gm 1), .ref h7])), (h7, .inl (cA, 4, .inl (fun _ => (-1)))), (h3, .inr (5, [.int 0, (ga 1), (ga 2), (ga 3), (ga 4), (ga 5), (ga 6), (ga 7), (ga 8), (ga 9), (ga 10), (ga 11), (ga 12), (ga 13), (ga 14), (ga 15), (ga 16)]))] sz)) 0 0 (va_A [(h0, .inr (10, [(g 0), (g 1), (g 2), .ref h3, (g 4), (g 5), .ref h6, (g 7), (g 8), (g 9), (g 10), (g 11), (g 12), (g 13), (g 14), (g 15)])), (h6, .inr (1, [(gm 0), (gm 1), .ref h7])), (h7, .inl (cA, 4, .inl (fun _ => (-1)))), (h3, .inr (5, [.int 0, (ga 1), (ga 2), (ga 3), (ga 4), (ga 5), (ga 6), (ga 7), (ga 8), (ga 9), (ga 10), (ga 11), (ga 12), (ga 13), (ga 14), (ga 15), (ga 16)]))] sz) := by
  refine Met.ofW (cc := cX10_write) (maxL := 4) (ret := (some .int)) (by decide) rfl ?_
  intro p e s m args below meth c s₁ B hml hv
  obtain ⟨rfl, hsz, hP, hK, hD0⟩ := hv
  have hx := B.exec
  have hb := B.bytes
  have hr := B.returns
  have hts := atoms_spec (ws := .code yX10_write cX10_write 4 (some .int) :: pw) B.pre
  have hts : ∀ w ∈ pw, w.before _ s = true := fun w h => hts w (List.mem_cons_of_mem _ h)
  have hown : s.vm.findClass RX10 = some m.cls := findClass_of_methodNamed B.named
  have hlocks := B.notSynchronized
  subst hsz
  have hD := hD0.self (sz := s.heap.size)
  generalize hAe : va_A [(h0, .inr (10, [(g 0), (g 1), (g 2), .ref h3, (g 4), (g 5), .ref h6, (g 7), (g 8), (g 9), (g 10), (g 11), (g 12), (g 13), (g 14), (g 15)])), (h6, .inr (1, [(gm 0), (gm 1), .ref h7])), (h7, .inl (cA, 4, .inl (fun _ => (-1)))), (h3, .inr (5, [.int 0, (ga 1), (ga 2), (ga 3), (ga 4), (ga 5), (ga 6), (ga 7), (ga 8), (ga 9), (ga 10), (ga 11), (ga 12), (ga 13), (ga 14), (ga 15), (ga 16)]))] s.heap.size = A at hD ⊢
  have hA : ∀ q : Nat, s.heap.size ≤ q → A q := fun q h => by rw [← hAe]; exact Or.inr h
  have hS : va_S A s.heap s.heap [] := va_S.rf
  have hP : va_P (dC, dI) vwCl [(h0, .inr (10, [(g 0), (g 1), (g 2), .ref h3, (g 4), (g 5), .ref h6, (g 7), (g 8), (g 9), (g 10), (g 11), (g 12), (g 13), (g 14), (g 15)])), (h6, .inr (1, [(gm 0), (gm 1), .ref h7])), (h7, .inl (cA, 4, .inl (fun _ => (-1)))), (h3, .inr (5, [.int 0, (ga 1), (ga 2), (ga 3), (ga 4), (ga 5), (ga 6), (ga 7), (ga 8), (ga 9), (ga 10), (ga 11), (ga 12), (ga 13), (ga 14), (ga 15), (ga 16)]))] s.heap := hP
  have hl := lv_entry ([.ref h0, .int p0, .int p1, .int p2]) (n := 4) (Nat.le_of_ble_eq_true rfl)
  rw [lg_entry_eq]
  generalize (lg_sl ([.ref h0, .int p0, .int p1, .int p2]) ++ List.replicate (4 - (lg_sl ([.ref h0, .int p0, .int p1, .int p2])).length) Slot.unset).toArray = ls at hl ⊢
  have hl : lv_has ls 4 [(0, .ref h0), (1, .int p0), (2, .int p1), (3, .int p2)] := hl
  refine lv_aload_n hx hb dX10_write_0 rfl (lv_at hl 0 rfl) ?_
  refine va_get (D := (dC, dI)) (ci := 10) (v := .ref h6) (C := RX10) (T := TX10) (N := 16) hx hb hts inlX10 hown hK hP 0 rfl rfl 6 (by decide) (hts (.fieldLink RX10 48 "ShapeReader" "messages" "LShapeReader$Messages;") mw_1_9) (fun _ h9 => h9) rfl dX10_write_1 ?_
  refine lv_iload_n hx hb dX10_write_4 rfl (lv_at hl 1 rfl) ?_
  have hPc := hP.sub (ws' := [(h6, .inr (1, [(gm 0), (gm 1), .ref h7]))]) [1] rfl
  have hDc := hD.sub (ws' := [(h6, .inr (1, [(gm 0), (gm 1), .ref h7]))]) [1] (by decide) rfl
  have hKc := hK.sub (tys' := []) [] rfl
  have hFc := va_free (wc := [(h6, .inr (1, [(gm 0), (gm 1), .ref h7]))]) hD hS hA [1] rfl
  refine va_calli (va_runV (As := [.int p0]) (rest := []) ⟨hx, hb, hml, hown, hts⟩ (c_isNumber l dC dI h6 (fun k => (cond (Nat.beq k 2) (.ref h7) (gm k))) p0 s.heap.size) (cwV 1 hts (gV mw_2_25 mw_2_26 mw_2_27 mw_0_5 mw_20_11) rfl rfl rfl (by decide +kernel) ⟨(Nat.le_of_ble_eq_true rfl), (Nat.le_of_ble_eq_true rfl)⟩) (vV (ci := 1) (q0 := 0) hKc hPc hDc rfl rfl) rfl rfl hl.1 rfl (lv_room (Nat.le_of_ble_eq_true rfl)) dX10_write_5 ⟨(Nat.le_of_ble_eq_true rfl), (Nat.le_of_ble_eq_true rfl)⟩) hS (fun q _ h => hFc q h) hFc (fun r_1 u t H1 locs ht hvm hw hB hz1 hk1 hS => ?_)
  obtain ⟨hP1, hK1, hD1⟩ := hB
  rw [ht] at hP1
  have hK1 := va_K.moved hvm.symm hK1
  obtain ⟨hP, hD⟩ := va_join (wr := [(h0, .inr (10, [(g 0), (g 1), (g 2), .ref h3, (g 4), (g 5), .ref h6, (g 7), (g 8), (g 9), (g 10), (g 11), (g 12), (g 13), (g 14), (g 15)])), (h7, .inl (cA, 4, .inl (fun _ => (-1)))), (h3, .inr (5, [.int 0, (ga 1), (ga 2), (ga 3), (ga 4), (ga 5), (ga 6), (ga 7), (ga 8), (ga 9), (ga 10), (ga 11), (ga 12), (ga 13), (ga 14), (ga 15), (ga 16)]))]) (w1 := [(h6, .inr (1, [(gm 0), (gm 1), .ref h7]))]) hP hD [1] [0, 2, 3] rfl rfl (by decide) (by decide) hk1 hFc hP1 hD1
  clear hPc hDc hKc hP1 hK1 hD1 hFc hk1 hz1
  generalize H1 = H at hP hS ⊢
  have hP : va_P (dC, dI) vwCl [(h0, .inr (10, [(g 0), (g 1), (g 2), .ref h3, (g 4), (g 5), .ref h6, (g 7), (g 8), (g 9), (g 10), (g 11), (g 12), (g 13), (g 14), (g 15)])), (h7, .inl (cA, 4, .inl (fun _ => (-1)))), (h3, .inr (5, [.int 0, (ga 1), (ga 2), (ga 3), (ga 4), (ga 5), (ga 6), (ga 7), (ga 8), (ga 9), (ga 10), (ga 11), (ga 12), (ga 13), (ga 14), (ga 15), (ga 16)])), (h6, .inr (1, [(gm 0), (gm 1), .ref h7]))] H := hP
  have hD : va_D A [(h0, .inr (10, [(g 0), (g 1), (g 2), .ref h3, (g 4), (g 5), .ref h6, (g 7), (g 8), (g 9), (g 10), (g 11), (g 12), (g 13), (g 14), (g 15)])), (h7, .inl (cA, 4, .inl (fun _ => (-1)))), (h3, .inr (5, [.int 0, (ga 1), (ga 2), (ga 3), (ga 4), (ga 5), (ga 6), (ga 7), (ga 8), (ga 9), (ga 10), (ga 11), (ga 12), (ga 13), (ga 14), (ga 15), (ga 16)])), (h6, .inr (1, [(gm 0), (gm 1), .ref h7]))] := hD
  rcases hw with ⟨rfl, g_2, g_3⟩ | rfl
  · refine lv_if_eq (tgt := 31) hx hb dX10_write_8 (by decide) (fun h => absurd h (by decide)) (fun _ => ?_)
    refine lv_aload_n hx hb dX10_write_11 rfl (lv_at hl 0 rfl) ?_
    refine lv_iload_n hx hb dX10_write_12 rfl (lv_at hl 2 rfl) ?_
    have hPc := hP.sub (ws' := [(h0, .inr (10, [(g 0), (g 1), (g 2), .ref h3, (g 4), (g 5), .ref h6, (g 7), (g 8), (g 9), (g 10), (g 11), (g 12), (g 13), (g 14), (g 15)])), (h3, .inr (5, [.int 0, (ga 1), (ga 2), (ga 3), (ga 4), (ga 5), (ga 6), (ga 7), (ga 8), (ga 9), (ga 10), (ga 11), (ga 12), (ga 13), (ga 14), (ga 15), (ga 16)]))]) [0, 2] rfl
    have hDc := hD.sub (ws' := [(h0, .inr (10, [(g 0), (g 1), (g 2), .ref h3, (g 4), (g 5), .ref h6, (g 7), (g 8), (g 9), (g 10), (g 11), (g 12), (g 13), (g 14), (g 15)])), (h3, .inr (5, [.int 0, (ga 1), (ga 2), (ga 3), (ga 4), (ga 5), (ga 6), (ga 7), (ga 8), (ga 9), (ga 10), (ga 11), (ga 12), (ga 13), (ga 14), (ga 15), (ga 16)]))]) [0, 2] (by decide) rfl
    have hKc := hK.sub (tys' := []) [] rfl
    have hFc := va_free (wc := [(h0, .inr (10, [(g 0), (g 1), (g 2), .ref h3, (g 4), (g 5), .ref h6, (g 7), (g 8), (g 9), (g 10), (g 11), (g 12), (g 13), (g 14), (g 15)])), (h3, .inr (5, [.int 0, (ga 1), (ga 2), (ga 3), (ga 4), (ga 5), (ga 6), (ga 7), (ga 8), (ga 9), (ga 10), (ga 11), (ga 12), (ga 13), (ga 14), (ga 15), (ga 16)]))]) hD hS hA [0, 2] rfl
    refine va_calli (va_runV (As := [.int p1]) (rest := []) ⟨hx, hb, hml, hown, hts⟩ (c_isPlan l dC dI h0 h3 (fun k => (cond (Nat.beq k 6) (.ref h6) (g k))) ga p1 H.size) (cwV 1 hts (gV mw_2_28 mw_2_29 mw_3_0 mw_0_14 mw_19_6) rfl rfl rfl (by decide +kernel) ⟨(Nat.le_of_ble_eq_true rfl), (Nat.le_of_ble_eq_true rfl)⟩) (vV (ci := 10) (q0 := 0) hKc hPc hDc rfl rfl) rfl rfl hl.1 rfl (lv_room (Nat.le_of_ble_eq_true rfl)) dX10_write_13 ⟨(Nat.le_of_ble_eq_true rfl), (Nat.le_of_ble_eq_true rfl)⟩) hS (fun q _ h => hFc q h) hFc (fun r_5 u t H1 locs ht hvm hw hB hz1 hk1 hS => ?_)
    obtain ⟨hP1, hK1, hD1⟩ := hB
    rw [ht] at hP1
    have hK1 := va_K.moved hvm.symm hK1
    obtain ⟨hP, hD⟩ := va_join (wr := [(h7, .inl (cA, 4, .inl (fun _ => (-1)))), (h6, .inr (1, [(gm 0), (gm 1), .ref h7]))]) (w1 := [(h0, .inr (10, [(g 0), (g 1), (g 2), .ref h3, (g 4), (g 5), .ref h6, (g 7), (g 8), (g 9), (g 10), (g 11), (g 12), (g 13), (g 14), (g 15)])), (h3, .inr (5, [.int 0, (ga 1), (ga 2), (ga 3), (ga 4), (ga 5), (ga 6), (ga 7), (ga 8), (ga 9), (ga 10), (ga 11), (ga 12), (ga 13), (ga 14), (ga 15), (ga 16)]))]) hP hD [0, 2] [1, 3] rfl rfl (by decide) (by decide) hk1 hFc hP1 hD1
    clear hPc hDc hKc hP1 hK1 hD1 hFc hk1 hz1
    generalize H1 = H at hP hS ⊢
    have hP : va_P (dC, dI) vwCl [(h7, .inl (cA, 4, .inl (fun _ => (-1)))), (h6, .inr (1, [(gm 0), (gm 1), .ref h7])), (h0, .inr (10, [(g 0), (g 1), (g 2), .ref h3, (g 4), (g 5), .ref h6, (g 7), (g 8), (g 9), (g 10), (g 11), (g 12), (g 13), (g 14), (g 15)])), (h3, .inr (5, [.int 0, (ga 1), (ga 2), (ga 3), (ga 4), (ga 5), (ga 6), (ga 7), (ga 8), (ga 9), (ga 10), (ga 11), (ga 12), (ga 13), (ga 14), (ga 15), (ga 16)]))] H := hP
    have hD : va_D A [(h7, .inl (cA, 4, .inl (fun _ => (-1)))), (h6, .inr (1, [(gm 0), (gm 1), .ref h7])), (h0, .inr (10, [(g 0), (g 1), (g 2), .ref h3, (g 4), (g 5), .ref h6, (g 7), (g 8), (g 9), (g 10), (g 11), (g 12), (g 13), (g 14), (g 15)])), (h3, .inr (5, [.int 0, (ga 1), (ga 2), (ga 3), (ga 4), (ga 5), (ga 6), (ga 7), (ga 8), (ga 9), (ga 10), (ga 11), (ga 12), (ga 13), (ga 14), (ga 15), (ga 16)]))] := hD
    obtain rfl : r_5 = 0 := hw
    refine lv_if_eq (tgt := 31) hx hb dX10_write_16 (by decide) (fun _ => ?_) (fun h => absurd (by decide) h)
    refine lv_iconst (v := (-1)) hx hb dX10_write_31 (by decide) ?_
    have hP9 := hP.sub (ws' := [(h0, .inr (10, [(g 0), (g 1), (g 2), .ref h3, (g 4), (g 5), .ref h6, (g 7), (g 8), (g 9), (g 10), (g 11), (g 12), (g 13), (g 14), (g 15)])), (h6, .inr (1, [(gm 0), (gm 1), .ref h7])), (h7, .inl (cA, 4, .inl (fun _ => (-1)))), (h3, .inr (5, [.int 0, (ga 1), (ga 2), (ga 3), (ga 4), (ga 5), (ga 6), (ga 7), (ga 8), (ga 9), (ga 10), (ga 11), (ga 12), (ga 13), (ga 14), (ga 15), (ga 16)]))]) [2, 1, 0, 3] rfl
    have hD9 := hD.sub (ws' := [(h0, .inr (10, [(g 0), (g 1), (g 2), .ref h3, (g 4), (g 5), .ref h6, (g 7), (g 8), (g 9), (g 10), (g 11), (g 12), (g 13), (g 14), (g 15)])), (h6, .inr (1, [(gm 0), (gm 1), .ref h7])), (h7, .inl (cA, 4, .inl (fun _ => (-1)))), (h3, .inr (5, [.int 0, (ga 1), (ga 2), (ga 3), (ga 4), (ga 5), (ga 6), (ga 7), (ga 8), (ga 9), (ga 10), (ga 11), (ga 12), (ga 13), (ga 14), (ga 15), (ga 16)]))]) [2, 1, 0, 3] (by decide) rfl
    have hK9 := hK.sub (tys' := [(cA, .int)]) [0] rfl
    refine W.widen (k := 0) (n := 0) (Nat.le_of_ble_eq_true rfl) (Nat.le_of_ble_eq_true rfl) ?_
    exact W.iret (v := (-1)) hx hb hr (fun t ht hW => ⟨⟨(-1), (), rfl, rfl, by rw [ht]; exact hP9, va_K.moved hW.alike hK9, hD9⟩, hS.F ht⟩) hS.2.2 dX10_write_32
  · refine lv_if_eq (tgt := 31) hx hb dX10_write_8 (by decide) (fun _ => ?_) (fun h => absurd (by decide) h)
    refine lv_iconst (v := (-1)) hx hb dX10_write_31 (by decide) ?_
    have hP9 := hP.sub (ws' := [(h0, .inr (10, [(g 0), (g 1), (g 2), .ref h3, (g 4), (g 5), .ref h6, (g 7), (g 8), (g 9), (g 10), (g 11), (g 12), (g 13), (g 14), (g 15)])), (h6, .inr (1, [(gm 0), (gm 1), .ref h7])), (h7, .inl (cA, 4, .inl (fun _ => (-1)))), (h3, .inr (5, [.int 0, (ga 1), (ga 2), (ga 3), (ga 4), (ga 5), (ga 6), (ga 7), (ga 8), (ga 9), (ga 10), (ga 11), (ga 12), (ga 13), (ga 14), (ga 15), (ga 16)]))]) [0, 3, 1, 2] rfl
    have hD9 := hD.sub (ws' := [(h0, .inr (10, [(g 0), (g 1), (g 2), .ref h3, (g 4), (g 5), .ref h6, (g 7), (g 8), (g 9), (g 10), (g 11), (g 12), (g 13), (g 14), (g 15)])), (h6, .inr (1, [(gm 0), (gm 1), .ref h7])), (h7, .inl (cA, 4, .inl (fun _ => (-1)))), (h3, .inr (5, [.int 0, (ga 1), (ga 2), (ga 3), (ga 4), (ga 5), (ga 6), (ga 7), (ga 8), (ga 9), (ga 10), (ga 11), (ga 12), (ga 13), (ga 14), (ga 15), (ga 16)]))]) [0, 3, 1, 2] (by decide) rfl
    have hK9 := hK.sub (tys' := [(cA, .int)]) [0] rfl
    refine W.widen (k := 0) (n := 0) (Nat.le_of_ble_eq_true rfl) (Nat.le_of_ble_eq_true rfl) ?_
    exact W.iret (v := (-1)) hx hb hr (fun t ht hW => ⟨⟨(-1), (), rfl, rfl, by rw [ht]; exact hP9, va_K.moved hW.alike hK9, hD9⟩, hS.F ht⟩) hS.2.2 dX10_write_32

set_option maxRecDepth 100000 in
set_option maxHeartbeats 4000000 in
theorem c_failure (l : Launch) (dC : Nat → ClassId) (dI : Nat → Nat → Nat) (h0 : Nat) (h10 : Nat) (g : Nat → Value) (gr : Nat → Value) (p0 : Int32) (sz : Nat) : Met l yX10_failure (.code yX10_failure cX10_failure 2 (some .int) :: pw) ({ frames := 0, cells := 0, slots := 0, locals := 0 }) (va_Pc [.ref h0, .int p0] (vPre dC dI [(h0, .inr (10, [(g 0), (g 1), (g 2), (g 3), (g 4), (g 5), (g 6), (g 7), (g 8), (g 9), (g 10), (g 11), (g 12), (g 13), .ref h10, (g 15)])), (h10, .inr (4, [(gr 0), (gr 1), (gr 2), (gr 3), (gr 4), (gr 5), (gr 6), .int 0, (gr 8), (gr 9), (gr 10), (gr 11)]))] [] sz)) (va_Qi (fun (r : Int32) (_ : Unit) => r = (-1)) (fun (_ : Unit) t => vPst dC dI (va_A [(h0, .inr (10, [(g 0), (g 1), (g 2), (g 3), (g 4), (g 5), (g 6), (g 7), (g 8), (g 9), (g 10), (g 11), (g 12), (g 13), .ref h10, (g 15)])), (h10, .inr (4, [(gr 0), (gr 1), (gr 2), (gr 3), (gr 4), (gr 5), (gr 6), .int 0, (gr 8), (gr 9), (gr 10), (gr 11)]))] sz) [(h0, .inr (10, [(g 0), (g 1), (g 2), (g 3), (g 4), (g 5), (g 6), (g 7), (g 8), (g 9), (g 10), (g 11), (g 12), (g 13), .ref h10, (g 15)])), (h10, .inr (4, [(gr 0), (gr 1), (gr 2), (gr 3), (gr 4), (gr 5), (gr 6), .int 0, (gr 8), (gr 9), (gr 10), (gr 11)]))] [] t) (va_A [(h0, .inr (10, [(g 0), (g 1), (g 2), (g 3), (g 4), (g 5), (g 6), (g 7), (g 8), (g 9), (g 10), (g 11), (g 12), (g 13), .ref h10, (g 15)])), (h10, .inr (4, [(gr 0), (gr 1), (gr 2), (gr 3), (gr 4), (gr 5), (gr 6), .int 0, (gr 8), (gr 9), (gr 10), (gr 11)]))] sz)) 0 0 (va_A [(h0, .inr (10, [(g 0), (g 1), (g 2), (g 3), (g 4), (g 5), (g 6), (g 7), (g 8), (g 9), (g 10), (g 11), (g 12), (g 13), .ref h10, (g 15)])), (h10, .inr (4, [(gr 0), (gr 1), (gr 2), (gr 3), (gr 4), (gr 5), (gr 6), .int 0, (gr 8), (gr 9), (gr 10), (gr 11)]))] sz) := by
  refine Met.ofW (cc := cX10_failure) (maxL := 2) (ret := (some .int)) (by decide) rfl ?_
  intro p e s m args below meth c s₁ B hml hv
  obtain ⟨rfl, hsz, hP, hK, hD0⟩ := hv
  have hx := B.exec
  have hb := B.bytes
  have hr := B.returns
  have hts := atoms_spec (ws := .code yX10_failure cX10_failure 2 (some .int) :: pw) B.pre
  have hts : ∀ w ∈ pw, w.before _ s = true := fun w h => hts w (List.mem_cons_of_mem _ h)
  have hown : s.vm.findClass RX10 = some m.cls := findClass_of_methodNamed B.named
  have hlocks := B.notSynchronized
  subst hsz
  have hD := hD0.self (sz := s.heap.size)
  generalize hAe : va_A [(h0, .inr (10, [(g 0), (g 1), (g 2), (g 3), (g 4), (g 5), (g 6), (g 7), (g 8), (g 9), (g 10), (g 11), (g 12), (g 13), .ref h10, (g 15)])), (h10, .inr (4, [(gr 0), (gr 1), (gr 2), (gr 3), (gr 4), (gr 5), (gr 6), .int 0, (gr 8), (gr 9), (gr 10), (gr 11)]))] s.heap.size = A at hD ⊢
  have hA : ∀ q : Nat, s.heap.size ≤ q → A q := fun q h => by rw [← hAe]; exact Or.inr h
  have hS : va_S A s.heap s.heap [] := va_S.rf
  have hP : va_P (dC, dI) vwCl [(h0, .inr (10, [(g 0), (g 1), (g 2), (g 3), (g 4), (g 5), (g 6), (g 7), (g 8), (g 9), (g 10), (g 11), (g 12), (g 13), .ref h10, (g 15)])), (h10, .inr (4, [(gr 0), (gr 1), (gr 2), (gr 3), (gr 4), (gr 5), (gr 6), .int 0, (gr 8), (gr 9), (gr 10), (gr 11)]))] s.heap := hP
  have hl := lv_entry ([.ref h0, .int p0]) (n := 2) (Nat.le_of_ble_eq_true rfl)
  rw [lg_entry_eq]
  generalize (lg_sl ([.ref h0, .int p0]) ++ List.replicate (2 - (lg_sl ([.ref h0, .int p0])).length) Slot.unset).toArray = ls at hl ⊢
  have hl : lv_has ls 2 [(0, .ref h0), (1, .int p0)] := hl
  refine lv_aload_n hx hb dX10_failure_0 rfl (lv_at hl 0 rfl) ?_
  refine va_get (D := (dC, dI)) (ci := 10) (v := .ref h10) (C := RX10) (T := TX10) (N := 16) hx hb hts inlX10 hown hK hP 0 rfl rfl 14 (by decide) (hts (.fieldLink RX10 104 "ShapeReader" "latest" "LShapeReader$Reading;") mw_2_10) (fun _ h9 => h9) rfl dX10_failure_1 ?_
  refine va_get (D := (dC, dI)) (ci := 4) (v := .int 0) (C := RX4) (T := TX4) (N := 12) hx hb hts inlX4 hown hK hP 1 rfl rfl 7 (by decide) (hts (.fieldLink RX10 256 "ShapeReader$Reading" "failure" "I") mw_3_17) (fun _ h9 => h9) rfl dX10_failure_4 ?_
  refine lv_if_ne (tgt := 12) hx hb dX10_failure_7 (by decide) (fun h => absurd rfl h) (fun _ => ?_)
  refine lv_iconst (v := (-1)) hx hb dX10_failure_10 (by decide) ?_
  have hP9 := hP.sub (ws' := [(h0, .inr (10, [(g 0), (g 1), (g 2), (g 3), (g 4), (g 5), (g 6), (g 7), (g 8), (g 9), (g 10), (g 11), (g 12), (g 13), .ref h10, (g 15)])), (h10, .inr (4, [(gr 0), (gr 1), (gr 2), (gr 3), (gr 4), (gr 5), (gr 6), .int 0, (gr 8), (gr 9), (gr 10), (gr 11)]))]) [0, 1] rfl
  have hD9 := hD.sub (ws' := [(h0, .inr (10, [(g 0), (g 1), (g 2), (g 3), (g 4), (g 5), (g 6), (g 7), (g 8), (g 9), (g 10), (g 11), (g 12), (g 13), .ref h10, (g 15)])), (h10, .inr (4, [(gr 0), (gr 1), (gr 2), (gr 3), (gr 4), (gr 5), (gr 6), .int 0, (gr 8), (gr 9), (gr 10), (gr 11)]))]) [0, 1] (by decide) rfl
  have hK9 := hK.sub (tys' := []) [] rfl
  refine W.widen (k := 0) (n := 0) (Nat.le_of_ble_eq_true rfl) (Nat.le_of_ble_eq_true rfl) ?_
  exact W.iret (v := (-1)) hx hb hr (fun t ht hW => ⟨⟨(-1), (), rfl, rfl, by rw [ht]; exact hP9, va_K.moved hW.alike hK9, hD9⟩, hS.F ht⟩) hS.2.2 dX10_failure_11

set_option maxRecDepth 100000 in
set_option maxHeartbeats 4000000 in
theorem c_failureStep (l : Launch) (dC : Nat → ClassId) (dI : Nat → Nat → Nat) (h0 : Nat) (h10 : Nat) (g : Nat → Value) (gr : Nat → Value) (p0 : Int32) (sz : Nat) : Met l yX10_failureStep (.code yX10_failureStep cX10_failureStep 2 (some .int) :: pw) ({ frames := 0, cells := 0, slots := 0, locals := 0 }) (va_Pc [.ref h0, .int p0] (vPre dC dI [(h0, .inr (10, [(g 0), (g 1), (g 2), (g 3), (g 4), (g 5), (g 6), (g 7), (g 8), (g 9), (g 10), (g 11), (g 12), (g 13), .ref h10, (g 15)])), (h10, .inr (4, [(gr 0), (gr 1), (gr 2), (gr 3), (gr 4), (gr 5), (gr 6), .int 0, (gr 8), (gr 9), (gr 10), (gr 11)]))] [] sz)) (va_Qi (fun (r : Int32) (_ : Unit) => r = (-1)) (fun (_ : Unit) t => vPst dC dI (va_A [(h0, .inr (10, [(g 0), (g 1), (g 2), (g 3), (g 4), (g 5), (g 6), (g 7), (g 8), (g 9), (g 10), (g 11), (g 12), (g 13), .ref h10, (g 15)])), (h10, .inr (4, [(gr 0), (gr 1), (gr 2), (gr 3), (gr 4), (gr 5), (gr 6), .int 0, (gr 8), (gr 9), (gr 10), (gr 11)]))] sz) [(h0, .inr (10, [(g 0), (g 1), (g 2), (g 3), (g 4), (g 5), (g 6), (g 7), (g 8), (g 9), (g 10), (g 11), (g 12), (g 13), .ref h10, (g 15)])), (h10, .inr (4, [(gr 0), (gr 1), (gr 2), (gr 3), (gr 4), (gr 5), (gr 6), .int 0, (gr 8), (gr 9), (gr 10), (gr 11)]))] [] t) (va_A [(h0, .inr (10, [(g 0), (g 1), (g 2), (g 3), (g 4), (g 5), (g 6), (g 7), (g 8), (g 9), (g 10), (g 11), (g 12), (g 13), .ref h10, (g 15)])), (h10, .inr (4, [(gr 0), (gr 1), (gr 2), (gr 3), (gr 4), (gr 5), (gr 6), .int 0, (gr 8), (gr 9), (gr 10), (gr 11)]))] sz)) 0 0 (va_A [(h0, .inr (10, [(g 0), (g 1), (g 2), (g 3), (g 4), (g 5), (g 6), (g 7), (g 8), (g 9), (g 10), (g 11), (g 12), (g 13), .ref h10, (g 15)])), (h10, .inr (4, [(gr 0), (gr 1), (gr 2), (gr 3), (gr 4), (gr 5), (gr 6), .int 0, (gr 8), (gr 9), (gr 10), (gr 11)]))] sz) := by
  refine Met.ofW (cc := cX10_failureStep) (maxL := 2) (ret := (some .int)) (by decide) rfl ?_
  intro p e s m args below meth c s₁ B hml hv
  obtain ⟨rfl, hsz, hP, hK, hD0⟩ := hv
  have hx := B.exec
  have hb := B.bytes
  have hr := B.returns
  have hts := atoms_spec (ws := .code yX10_failureStep cX10_failureStep 2 (some .int) :: pw) B.pre
  have hts : ∀ w ∈ pw, w.before _ s = true := fun w h => hts w (List.mem_cons_of_mem _ h)
  have hown : s.vm.findClass RX10 = some m.cls := findClass_of_methodNamed B.named
  have hlocks := B.notSynchronized
  subst hsz
  have hD := hD0.self (sz := s.heap.size)
  generalize hAe : va_A [(h0, .inr (10, [(g 0), (g 1), (g 2), (g 3), (g 4), (g 5), (g 6), (g 7), (g 8), (g 9), (g 10), (g 11), (g 12), (g 13), .ref h10, (g 15)])), (h10, .inr (4, [(gr 0), (gr 1), (gr 2), (gr 3), (gr 4), (gr 5), (gr 6), .int 0, (gr 8), (gr 9), (gr 10), (gr 11)]))] s.heap.size = A at hD ⊢
  have hA : ∀ q : Nat, s.heap.size ≤ q → A q := fun q h => by rw [← hAe]; exact Or.inr h
  have hS : va_S A s.heap s.heap [] := va_S.rf
  have hP : va_P (dC, dI) vwCl [(h0, .inr (10, [(g 0), (g 1), (g 2), (g 3), (g 4), (g 5), (g 6), (g 7), (g 8), (g 9), (g 10), (g 11), (g 12), (g 13), .ref h10, (g 15)])), (h10, .inr (4, [(gr 0), (gr 1), (gr 2), (gr 3), (gr 4), (gr 5), (gr 6), .int 0, (gr 8), (gr 9), (gr 10), (gr 11)]))] s.heap := hP
  have hl := lv_entry ([.ref h0, .int p0]) (n := 2) (Nat.le_of_ble_eq_true rfl)
  rw [lg_entry_eq]
  generalize (lg_sl ([.ref h0, .int p0]) ++ List.replicate (2 - (lg_sl ([.ref h0, .int p0])).length) Slot.unset).toArray = ls at hl ⊢
  have hl : lv_has ls 2 [(0, .ref h0), (1, .int p0)] := hl
  refine lv_aload_n hx hb dX10_failureStep_0 rfl (lv_at hl 0 rfl) ?_
  refine va_get (D := (dC, dI)) (ci := 10) (v := .ref h10) (C := RX10) (T := TX10) (N := 16) hx hb hts inlX10 hown hK hP 0 rfl rfl 14 (by decide) (hts (.fieldLink RX10 104 "ShapeReader" "latest" "LShapeReader$Reading;") mw_2_10) (fun _ h9 => h9) rfl dX10_failureStep_1 ?_
  refine va_get (D := (dC, dI)) (ci := 4) (v := .int 0) (C := RX4) (T := TX4) (N := 12) hx hb hts inlX4 hown hK hP 1 rfl rfl 7 (by decide) (hts (.fieldLink RX10 256 "ShapeReader$Reading" "failure" "I") mw_3_17) (fun _ h9 => h9) rfl dX10_failureStep_4 ?_
  refine lv_if_ne (tgt := 14) hx hb dX10_failureStep_7 (by decide) (fun h => absurd rfl h) (fun _ => ?_)
  refine lv_iconst (v := (-1)) hx hb dX10_failureStep_10 (by decide) ?_
  refine lv_goto (tgt := 22) hx hb dX10_failureStep_11 (by decide) ?_
  have hP9 := hP.sub (ws' := [(h0, .inr (10, [(g 0), (g 1), (g 2), (g 3), (g 4), (g 5), (g 6), (g 7), (g 8), (g 9), (g 10), (g 11), (g 12), (g 13), .ref h10, (g 15)])), (h10, .inr (4, [(gr 0), (gr 1), (gr 2), (gr 3), (gr 4), (gr 5), (gr 6), .int 0, (gr 8), (gr 9), (gr 10), (gr 11)]))]) [0, 1] rfl
  have hD9 := hD.sub (ws' := [(h0, .inr (10, [(g 0), (g 1), (g 2), (g 3), (g 4), (g 5), (g 6), (g 7), (g 8), (g 9), (g 10), (g 11), (g 12), (g 13), .ref h10, (g 15)])), (h10, .inr (4, [(gr 0), (gr 1), (gr 2), (gr 3), (gr 4), (gr 5), (gr 6), .int 0, (gr 8), (gr 9), (gr 10), (gr 11)]))]) [0, 1] (by decide) rfl
  have hK9 := hK.sub (tys' := []) [] rfl
  refine W.widen (k := 0) (n := 0) (Nat.le_of_ble_eq_true rfl) (Nat.le_of_ble_eq_true rfl) ?_
  exact W.iret (v := (-1)) hx hb hr (fun t ht hW => ⟨⟨(-1), (), rfl, rfl, by rw [ht]; exact hP9, va_K.moved hW.alike hK9, hD9⟩, hS.F ht⟩) hS.2.2 dX10_failureStep_22

set_option maxRecDepth 100000 in
set_option maxHeartbeats 4000000 in
theorem c_pairAt (l : Launch) (dC : Nat → ClassId) (dI : Nat → Nat → Nat) (h8 : Nat) (gw : Nat → Value) (p0 : Int32) (sz : Nat) : Met l yX9_pairAt (.code yX9_pairAt cX9_pairAt 2 (some .int) :: pw) ({ frames := 0, cells := 0, slots := 0, locals := 0 }) (va_Pc [.ref h8, .int p0] (vPre dC dI [(h8, .inr (9, [(gw 0), .int 0, .int 0, .int 0]))] [] sz)) (va_Qi (fun (r : Int32) (_ : Unit) => r = (-1)) (fun (_ : Unit) t => vPst dC dI (va_A [(h8, .inr (9, [(gw 0), .int 0, .int 0, .int 0]))] sz) [(h8, .inr (9, [(gw 0), .int 0, .int 0, .int 0]))] [] t) (va_A [(h8, .inr (9, [(gw 0), .int 0, .int 0, .int 0]))] sz)) 0 0 (va_A [(h8, .inr (9, [(gw 0), .int 0, .int 0, .int 0]))] sz) := by
  refine Met.ofW (cc := cX9_pairAt) (maxL := 2) (ret := (some .int)) (by decide) rfl ?_
  intro p e s m args below meth c s₁ B hml hv
  obtain ⟨rfl, hsz, hP, hK, hD0⟩ := hv
  have hx := B.exec
  have hb := B.bytes
  have hr := B.returns
  have hts := atoms_spec (ws := .code yX9_pairAt cX9_pairAt 2 (some .int) :: pw) B.pre
  have hts : ∀ w ∈ pw, w.before _ s = true := fun w h => hts w (List.mem_cons_of_mem _ h)
  have hown : s.vm.findClass RX9 = some m.cls := findClass_of_methodNamed B.named
  have hlocks := B.notSynchronized
  subst hsz
  have hD := hD0.self (sz := s.heap.size)
  generalize hAe : va_A [(h8, .inr (9, [(gw 0), .int 0, .int 0, .int 0]))] s.heap.size = A at hD ⊢
  have hA : ∀ q : Nat, s.heap.size ≤ q → A q := fun q h => by rw [← hAe]; exact Or.inr h
  have hS : va_S A s.heap s.heap [] := va_S.rf
  have hP : va_P (dC, dI) vwCl [(h8, .inr (9, [(gw 0), .int 0, .int 0, .int 0]))] s.heap := hP
  have hl := lv_entry ([.ref h8, .int p0]) (n := 2) (Nat.le_of_ble_eq_true rfl)
  rw [lg_entry_eq]
  generalize (lg_sl ([.ref h8, .int p0]) ++ List.replicate (2 - (lg_sl ([.ref h8, .int p0])).length) Slot.unset).toArray = ls at hl ⊢
  have hl : lv_has ls 2 [(0, .ref h8), (1, .int p0)] := hl
  refine lv_iload_n hx hb dX9_pairAt_0 rfl (lv_at hl 1 rfl) ?_
  refine lv_if_lt (tgt := 26) hx hb dX9_pairAt_1 (by decide) (fun c_1 => ?_) (fun c_1 => ?_)
  · refine lv_iconst (v := (-1)) hx hb dX9_pairAt_26 (by decide) ?_
    have hP9 := hP.sub (ws' := [(h8, .inr (9, [(gw 0), .int 0, .int 0, .int 0]))]) [0] rfl
    have hD9 := hD.sub (ws' := [(h8, .inr (9, [(gw 0), .int 0, .int 0, .int 0]))]) [0] (by decide) rfl
    have hK9 := hK.sub (tys' := []) [] rfl
    refine W.widen (k := 0) (n := 0) (Nat.le_of_ble_eq_true rfl) (Nat.le_of_ble_eq_true rfl) ?_
    exact W.iret (v := (-1)) hx hb hr (fun t ht hW => ⟨⟨(-1), (), rfl, rfl, by rw [ht]; exact hP9, va_K.moved hW.alike hK9, hD9⟩, hS.F ht⟩) hS.2.2 dX9_pairAt_27
  · refine lv_iload_n hx hb dX9_pairAt_4 rfl (lv_at hl 1 rfl) ?_
    refine lv_aload_n hx hb dX9_pairAt_5 rfl (lv_at hl 0 rfl) ?_
    refine va_get (D := (dC, dI)) (ci := 9) (v := .int 0) (C := RX9) (T := TX9) (N := 4) hx hb hts inlX9 hown hK hP 0 rfl rfl 1 (by decide) (hts (.fieldLink RX9 15 "ShapeReader$Ways" "size" "I") mw_7_0) (fun _ h9 => h9) rfl dX9_pairAt_6 ?_
    refine lv_icmp_ge (tgt := 26) hx hb dX9_pairAt_9 (by decide) (fun c_2 => ?_) (fun c_2 => False.elim (by have a0 := il_nlt c_1; have a1 := il_nle c_2; have e0 : (0 : Int32).toInt = 0 := (by decide); omega))
    refine lv_iconst (v := (-1)) hx hb dX9_pairAt_26 (by decide) ?_
    have hP9 := hP.sub (ws' := [(h8, .inr (9, [(gw 0), .int 0, .int 0, .int 0]))]) [0] rfl
    have hD9 := hD.sub (ws' := [(h8, .inr (9, [(gw 0), .int 0, .int 0, .int 0]))]) [0] (by decide) rfl
    have hK9 := hK.sub (tys' := []) [] rfl
    refine W.widen (k := 0) (n := 0) (Nat.le_of_ble_eq_true rfl) (Nat.le_of_ble_eq_true rfl) ?_
    exact W.iret (v := (-1)) hx hb hr (fun t ht hW => ⟨⟨(-1), (), rfl, rfl, by rw [ht]; exact hP9, va_K.moved hW.alike hK9, hD9⟩, hS.F ht⟩) hS.2.2 dX9_pairAt_27

set_option maxRecDepth 100000 in
set_option maxHeartbeats 4000000 in
theorem c_kept0 (l : Launch) (dC : Nat → ClassId) (dI : Nat → Nat → Nat) (h0 : Nat) (h8 : Nat) (g : Nat → Value) (gw : Nat → Value) (sz : Nat) : Met l yX10_kept (.code yX10_kept cX10_kept 2 (some .int) :: pw) ({ frames := 0, cells := 0, slots := 0, locals := 0 }) (va_Pc [.ref h0, .int (-1)] (vPre dC dI [(h0, .inr (10, [(g 0), (g 1), (g 2), (g 3), (g 4), (g 5), (g 6), (g 7), .ref h8, (g 9), (g 10), (g 11), (g 12), (g 13), (g 14), (g 15)])), (h8, .inr (9, [(gw 0), .int 0, .int 0, .int 0]))] [] sz)) (va_Qi (fun (r : Int32) (_ : Unit) => r = 0) (fun (_ : Unit) t => vPst dC dI (va_A [(h0, .inr (10, [(g 0), (g 1), (g 2), (g 3), (g 4), (g 5), (g 6), (g 7), .ref h8, (g 9), (g 10), (g 11), (g 12), (g 13), (g 14), (g 15)])), (h8, .inr (9, [(gw 0), .int 0, .int 0, .int 0]))] sz) [(h0, .inr (10, [(g 0), (g 1), (g 2), (g 3), (g 4), (g 5), (g 6), (g 7), .ref h8, (g 9), (g 10), (g 11), (g 12), (g 13), (g 14), (g 15)])), (h8, .inr (9, [(gw 0), .int 0, .int 0, .int 0]))] [] t) (va_A [(h0, .inr (10, [(g 0), (g 1), (g 2), (g 3), (g 4), (g 5), (g 6), (g 7), .ref h8, (g 9), (g 10), (g 11), (g 12), (g 13), (g 14), (g 15)])), (h8, .inr (9, [(gw 0), .int 0, .int 0, .int 0]))] sz)) 0 0 (va_A [(h0, .inr (10, [(g 0), (g 1), (g 2), (g 3), (g 4), (g 5), (g 6), (g 7), .ref h8, (g 9), (g 10), (g 11), (g 12), (g 13), (g 14), (g 15)])), (h8, .inr (9, [(gw 0), .int 0, .int 0, .int 0]))] sz) := by
  refine Met.ofW (cc := cX10_kept) (maxL := 2) (ret := (some .int)) (by decide) rfl ?_
  intro p e s m args below meth c s₁ B hml hv
  obtain ⟨rfl, hsz, hP, hK, hD0⟩ := hv
  have hx := B.exec
  have hb := B.bytes
  have hr := B.returns
  have hts := atoms_spec (ws := .code yX10_kept cX10_kept 2 (some .int) :: pw) B.pre
  have hts : ∀ w ∈ pw, w.before _ s = true := fun w h => hts w (List.mem_cons_of_mem _ h)
  have hown : s.vm.findClass RX10 = some m.cls := findClass_of_methodNamed B.named
  have hlocks := B.notSynchronized
  subst hsz
  have hD := hD0.self (sz := s.heap.size)
  generalize hAe : va_A [(h0, .inr (10, [(g 0), (g 1), (g 2), (g 3), (g 4), (g 5), (g 6), (g 7), .ref h8, (g 9), (g 10), (g 11), (g 12), (g 13), (g 14), (g 15)])), (h8, .inr (9, [(gw 0), .int 0, .int 0, .int 0]))] s.heap.size = A at hD ⊢
  have hA : ∀ q : Nat, s.heap.size ≤ q → A q := fun q h => by rw [← hAe]; exact Or.inr h
  have hS : va_S A s.heap s.heap [] := va_S.rf
  have hP : va_P (dC, dI) vwCl [(h0, .inr (10, [(g 0), (g 1), (g 2), (g 3), (g 4), (g 5), (g 6), (g 7), .ref h8, (g 9), (g 10), (g 11), (g 12), (g 13), (g 14), (g 15)])), (h8, .inr (9, [(gw 0), .int 0, .int 0, .int 0]))] s.heap := hP
  have hl := lv_entry ([.ref h0, .int (-1)]) (n := 2) (Nat.le_of_ble_eq_true rfl)
  rw [lg_entry_eq]
  generalize (lg_sl ([.ref h0, .int (-1)]) ++ List.replicate (2 - (lg_sl ([.ref h0, .int (-1)])).length) Slot.unset).toArray = ls at hl ⊢
  have hl : lv_has ls 2 [(0, .ref h0), (1, .int (-1))] := hl
  refine lv_iload_n hx hb dX10_kept_0 rfl (lv_at hl 1 rfl) ?_
  refine lv_iconst (v := (-1)) hx hb dX10_kept_1 (by decide) ?_
  refine lv_icmp_ne (tgt := 15) hx hb dX10_kept_2 (by decide) (fun h => absurd rfl h) (fun _ => ?_)
  refine lv_aload_n hx hb dX10_kept_5 rfl (lv_at hl 0 rfl) ?_
  refine va_get (D := (dC, dI)) (ci := 10) (v := .ref h8) (C := RX10) (T := TX10) (N := 16) hx hb hts inlX10 hown hK hP 0 rfl rfl 8 (by decide) (hts (.fieldLink RX10 64 "ShapeReader" "ways" "LShapeReader$Ways;") mw_1_18) (fun _ h9 => h9) rfl dX10_kept_6 ?_
  refine va_get (D := (dC, dI)) (ci := 9) (v := .int 0) (C := RX9) (T := TX9) (N := 4) hx hb hts inlX9 hown hK hP 1 rfl rfl 1 (by decide) (hts (.fieldLink RX10 298 "ShapeReader$Ways" "size" "I") mw_3_23) (fun _ h9 => h9) rfl dX10_kept_9 ?_
  refine lv_goto (tgt := 23) hx hb dX10_kept_12 (by decide) ?_
  have hP9 := hP.sub (ws' := [(h0, .inr (10, [(g 0), (g 1), (g 2), (g 3), (g 4), (g 5), (g 6), (g 7), .ref h8, (g 9), (g 10), (g 11), (g 12), (g 13), (g 14), (g 15)])), (h8, .inr (9, [(gw 0), .int 0, .int 0, .int 0]))]) [0, 1] rfl
  have hD9 := hD.sub (ws' := [(h0, .inr (10, [(g 0), (g 1), (g 2), (g 3), (g 4), (g 5), (g 6), (g 7), .ref h8, (g 9), (g 10), (g 11), (g 12), (g 13), (g 14), (g 15)])), (h8, .inr (9, [(gw 0), .int 0, .int 0, .int 0]))]) [0, 1] (by decide) rfl
  have hK9 := hK.sub (tys' := []) [] rfl
  refine W.widen (k := 0) (n := 0) (Nat.le_of_ble_eq_true rfl) (Nat.le_of_ble_eq_true rfl) ?_
  exact W.iret (v := 0) hx hb hr (fun t ht hW => ⟨⟨0, (), rfl, rfl, by rw [ht]; exact hP9, va_K.moved hW.alike hK9, hD9⟩, hS.F ht⟩) hS.2.2 dX10_kept_23

set_option maxRecDepth 100000 in
set_option maxHeartbeats 4000000 in
theorem c_kept1 (l : Launch) (dC : Nat → ClassId) (dI : Nat → Nat → Nat) (h0 : Nat) (h8 : Nat) (g : Nat → Value) (gw : Nat → Value) (p0 : Int32) (hp : ¬ p0 = (-1)) (sz : Nat) : Met l yX10_kept (.code yX10_kept cX10_kept 2 (some .int) :: pw) ({ frames := 1, cells := 0, slots := 0, locals := 21 }) (va_Pc [.ref h0, .int p0] (vPre dC dI [(h0, .inr (10, [(g 0), (g 1), (g 2), (g 3), (g 4), (g 5), (g 6), (g 7), .ref h8, (g 9), (g 10), (g 11), (g 12), (g 13), (g 14), (g 15)])), (h8, .inr (9, [(gw 0), .int 0, .int 0, .int 0]))] [] sz)) (va_Qi (fun (r : Int32) (_ : Unit) => r = (-1)) (fun (_ : Unit) t => vPst dC dI (va_A [(h0, .inr (10, [(g 0), (g 1), (g 2), (g 3), (g 4), (g 5), (g 6), (g 7), .ref h8, (g 9), (g 10), (g 11), (g 12), (g 13), (g 14), (g 15)])), (h8, .inr (9, [(gw 0), .int 0, .int 0, .int 0]))] sz) [(h0, .inr (10, [(g 0), (g 1), (g 2), (g 3), (g 4), (g 5), (g 6), (g 7), .ref h8, (g 9), (g 10), (g 11), (g 12), (g 13), (g 14), (g 15)])), (h8, .inr (9, [(gw 0), .int 0, .int 0, .int 0]))] [] t) (va_A [(h0, .inr (10, [(g 0), (g 1), (g 2), (g 3), (g 4), (g 5), (g 6), (g 7), .ref h8, (g 9), (g 10), (g 11), (g 12), (g 13), (g 14), (g 15)])), (h8, .inr (9, [(gw 0), .int 0, .int 0, .int 0]))] sz)) 0 0 (va_A [(h0, .inr (10, [(g 0), (g 1), (g 2), (g 3), (g 4), (g 5), (g 6), (g 7), .ref h8, (g 9), (g 10), (g 11), (g 12), (g 13), (g 14), (g 15)])), (h8, .inr (9, [(gw 0), .int 0, .int 0, .int 0]))] sz) := by
  refine Met.ofW (cc := cX10_kept) (maxL := 2) (ret := (some .int)) (by decide) rfl ?_
  intro p e s m args below meth c s₁ B hml hv
  obtain ⟨rfl, hsz, hP, hK, hD0⟩ := hv
  have hx := B.exec
  have hb := B.bytes
  have hr := B.returns
  have hts := atoms_spec (ws := .code yX10_kept cX10_kept 2 (some .int) :: pw) B.pre
  have hts : ∀ w ∈ pw, w.before _ s = true := fun w h => hts w (List.mem_cons_of_mem _ h)
  have hown : s.vm.findClass RX10 = some m.cls := findClass_of_methodNamed B.named
  have hlocks := B.notSynchronized
  subst hsz
  have hD := hD0.self (sz := s.heap.size)
  generalize hAe : va_A [(h0, .inr (10, [(g 0), (g 1), (g 2), (g 3), (g 4), (g 5), (g 6), (g 7), .ref h8, (g 9), (g 10), (g 11), (g 12), (g 13), (g 14), (g 15)])), (h8, .inr (9, [(gw 0), .int 0, .int 0, .int 0]))] s.heap.size = A at hD ⊢
  have hA : ∀ q : Nat, s.heap.size ≤ q → A q := fun q h => by rw [← hAe]; exact Or.inr h
  have hS : va_S A s.heap s.heap [] := va_S.rf
  have hP : va_P (dC, dI) vwCl [(h0, .inr (10, [(g 0), (g 1), (g 2), (g 3), (g 4), (g 5), (g 6), (g 7), .ref h8, (g 9), (g 10), (g 11), (g 12), (g 13), (g 14), (g 15)])), (h8, .inr (9, [(gw 0), .int 0, .int 0, .int 0]))] s.heap := hP
  have hl := lv_entry ([.ref h0, .int p0]) (n := 2) (Nat.le_of_ble_eq_true rfl)
  rw [lg_entry_eq]
  generalize (lg_sl ([.ref h0, .int p0]) ++ List.replicate (2 - (lg_sl ([.ref h0, .int p0])).length) Slot.unset).toArray = ls at hl ⊢
  have hl : lv_has ls 2 [(0, .ref h0), (1, .int p0)] := hl
  refine lv_iload_n hx hb dX10_kept_0 rfl (lv_at hl 1 rfl) ?_
  refine lv_iconst (v := (-1)) hx hb dX10_kept_1 (by decide) ?_
  refine lv_icmp_ne (tgt := 15) hx hb dX10_kept_2 (by decide) (fun _ => ?_) (fun c_1 => absurd c_1 hp)
  refine lv_aload_n hx hb dX10_kept_15 rfl (lv_at hl 0 rfl) ?_
  refine va_get (D := (dC, dI)) (ci := 10) (v := .ref h8) (C := RX10) (T := TX10) (N := 16) hx hb hts inlX10 hown hK hP 0 rfl rfl 8 (by decide) (hts (.fieldLink RX10 64 "ShapeReader" "ways" "LShapeReader$Ways;") mw_1_18) (fun _ h9 => h9) rfl dX10_kept_16 ?_
  refine lv_iload_n hx hb dX10_kept_19 rfl (lv_at hl 1 rfl) ?_
  have hPc := hP.sub (ws' := [(h8, .inr (9, [(gw 0), .int 0, .int 0, .int 0]))]) [1] rfl
  have hDc := hD.sub (ws' := [(h8, .inr (9, [(gw 0), .int 0, .int 0, .int 0]))]) [1] (by decide) rfl
  have hKc := hK.sub (tys' := []) [] rfl
  have hFc := va_free (wc := [(h8, .inr (9, [(gw 0), .int 0, .int 0, .int 0]))]) hD hS hA [1] rfl
  refine va_calli (va_runV (As := [.int p0]) (rest := []) ⟨hx, hb, hml, hown, hts⟩ (c_pairAt l dC dI h8 gw p0 s.heap.size) (cwV 1 hts (gV mw_3_24 mw_3_25 mw_3_26 mw_0_13 mw_20_17) rfl rfl rfl (by decide +kernel) ⟨(Nat.le_of_ble_eq_true rfl), (Nat.le_of_ble_eq_true rfl)⟩) (vV (ci := 9) (q0 := 0) hKc hPc hDc rfl rfl) rfl rfl hl.1 rfl (lv_room (Nat.le_of_ble_eq_true rfl)) dX10_kept_20 ⟨(Nat.le_of_ble_eq_true rfl), (Nat.le_of_ble_eq_true rfl)⟩) hS (fun q _ h => hFc q h) hFc (fun r_2 u t H1 locs ht hvm hw hB hz1 hk1 hS => ?_)
  obtain ⟨hP1, hK1, hD1⟩ := hB
  rw [ht] at hP1
  have hK1 := va_K.moved hvm.symm hK1
  obtain ⟨hP, hD⟩ := va_join (wr := [(h0, .inr (10, [(g 0), (g 1), (g 2), (g 3), (g 4), (g 5), (g 6), (g 7), .ref h8, (g 9), (g 10), (g 11), (g 12), (g 13), (g 14), (g 15)]))]) (w1 := [(h8, .inr (9, [(gw 0), .int 0, .int 0, .int 0]))]) hP hD [1] [0] rfl rfl (by decide) (by decide) hk1 hFc hP1 hD1
  clear hPc hDc hKc hP1 hK1 hD1 hFc hk1 hz1
  generalize H1 = H at hP hS ⊢
  have hP : va_P (dC, dI) vwCl [(h0, .inr (10, [(g 0), (g 1), (g 2), (g 3), (g 4), (g 5), (g 6), (g 7), .ref h8, (g 9), (g 10), (g 11), (g 12), (g 13), (g 14), (g 15)])), (h8, .inr (9, [(gw 0), .int 0, .int 0, .int 0]))] H := hP
  have hD : va_D A [(h0, .inr (10, [(g 0), (g 1), (g 2), (g 3), (g 4), (g 5), (g 6), (g 7), .ref h8, (g 9), (g 10), (g 11), (g 12), (g 13), (g 14), (g 15)])), (h8, .inr (9, [(gw 0), .int 0, .int 0, .int 0]))] := hD
  obtain rfl : r_2 = (-1) := hw
  have hP9 := hP.sub (ws' := [(h0, .inr (10, [(g 0), (g 1), (g 2), (g 3), (g 4), (g 5), (g 6), (g 7), .ref h8, (g 9), (g 10), (g 11), (g 12), (g 13), (g 14), (g 15)])), (h8, .inr (9, [(gw 0), .int 0, .int 0, .int 0]))]) [0, 1] rfl
  have hD9 := hD.sub (ws' := [(h0, .inr (10, [(g 0), (g 1), (g 2), (g 3), (g 4), (g 5), (g 6), (g 7), .ref h8, (g 9), (g 10), (g 11), (g 12), (g 13), (g 14), (g 15)])), (h8, .inr (9, [(gw 0), .int 0, .int 0, .int 0]))]) [0, 1] (by decide) rfl
  have hK9 := hK.sub (tys' := []) [] rfl
  refine W.widen (k := 0) (n := 0) (Nat.le_of_ble_eq_true rfl) (Nat.le_of_ble_eq_true rfl) ?_
  exact W.iret (v := (-1)) hx hb hr (fun t ht hW => ⟨⟨(-1), (), rfl, rfl, by rw [ht]; exact hP9, va_K.moved hW.alike hK9, hD9⟩, hS.F ht⟩) hS.2.2 dX10_kept_23

set_option maxRecDepth 100000 in
set_option maxHeartbeats 4000000 in
theorem c_rowAt (l : Launch) (dC : Nat → ClassId) (dI : Nat → Nat → Nat) (h9 : Nat) (gt : Nat → Value) (p0 : Int32) (sz : Nat) : Met l yX7_rowAt (.code yX7_rowAt cX7_rowAt 2 (some .int) :: pw) ({ frames := 0, cells := 0, slots := 0, locals := 0 }) (va_Pc [.ref h9, .int p0] (vPre dC dI [(h9, .inr (7, [(gt 0), .int 0, (gt 2), (gt 3), (gt 4), (gt 5), (gt 6), (gt 7), (gt 8), (gt 9), (gt 10), (gt 11), (gt 12)]))] [] sz)) (va_Qi (fun (r : Int32) (_ : Unit) => r = (-1)) (fun (_ : Unit) t => vPst dC dI (va_A [(h9, .inr (7, [(gt 0), .int 0, (gt 2), (gt 3), (gt 4), (gt 5), (gt 6), (gt 7), (gt 8), (gt 9), (gt 10), (gt 11), (gt 12)]))] sz) [(h9, .inr (7, [(gt 0), .int 0, (gt 2), (gt 3), (gt 4), (gt 5), (gt 6), (gt 7), (gt 8), (gt 9), (gt 10), (gt 11), (gt 12)]))] [] t) (va_A [(h9, .inr (7, [(gt 0), .int 0, (gt 2), (gt 3), (gt 4), (gt 5), (gt 6), (gt 7), (gt 8), (gt 9), (gt 10), (gt 11), (gt 12)]))] sz)) 0 0 (va_A [(h9, .inr (7, [(gt 0), .int 0, (gt 2), (gt 3), (gt 4), (gt 5), (gt 6), (gt 7), (gt 8), (gt 9), (gt 10), (gt 11), (gt 12)]))] sz) := by
  refine Met.ofW (cc := cX7_rowAt) (maxL := 2) (ret := (some .int)) (by decide) rfl ?_
  intro p e s m args below meth c s₁ B hml hv
  obtain ⟨rfl, hsz, hP, hK, hD0⟩ := hv
  have hx := B.exec
  have hb := B.bytes
  have hr := B.returns
  have hts := atoms_spec (ws := .code yX7_rowAt cX7_rowAt 2 (some .int) :: pw) B.pre
  have hts : ∀ w ∈ pw, w.before _ s = true := fun w h => hts w (List.mem_cons_of_mem _ h)
  have hown : s.vm.findClass RX7 = some m.cls := findClass_of_methodNamed B.named
  have hlocks := B.notSynchronized
  subst hsz
  have hD := hD0.self (sz := s.heap.size)
  generalize hAe : va_A [(h9, .inr (7, [(gt 0), .int 0, (gt 2), (gt 3), (gt 4), (gt 5), (gt 6), (gt 7), (gt 8), (gt 9), (gt 10), (gt 11), (gt 12)]))] s.heap.size = A at hD ⊢
  have hA : ∀ q : Nat, s.heap.size ≤ q → A q := fun q h => by rw [← hAe]; exact Or.inr h
  have hS : va_S A s.heap s.heap [] := va_S.rf
  have hP : va_P (dC, dI) vwCl [(h9, .inr (7, [(gt 0), .int 0, (gt 2), (gt 3), (gt 4), (gt 5), (gt 6), (gt 7), (gt 8), (gt 9), (gt 10), (gt 11), (gt 12)]))] s.heap := hP
  have hl := lv_entry ([.ref h9, .int p0]) (n := 2) (Nat.le_of_ble_eq_true rfl)
  rw [lg_entry_eq]
  generalize (lg_sl ([.ref h9, .int p0]) ++ List.replicate (2 - (lg_sl ([.ref h9, .int p0])).length) Slot.unset).toArray = ls at hl ⊢
  have hl : lv_has ls 2 [(0, .ref h9), (1, .int p0)] := hl
  refine lv_iload_n hx hb dX7_rowAt_0 rfl (lv_at hl 1 rfl) ?_
  refine lv_if_lt (tgt := 29) hx hb dX7_rowAt_1 (by decide) (fun c_1 => ?_) (fun c_1 => ?_)
  · refine lv_iconst (v := (-1)) hx hb dX7_rowAt_29 (by decide) ?_
    have hP9 := hP.sub (ws' := [(h9, .inr (7, [(gt 0), .int 0, (gt 2), (gt 3), (gt 4), (gt 5), (gt 6), (gt 7), (gt 8), (gt 9), (gt 10), (gt 11), (gt 12)]))]) [0] rfl
    have hD9 := hD.sub (ws' := [(h9, .inr (7, [(gt 0), .int 0, (gt 2), (gt 3), (gt 4), (gt 5), (gt 6), (gt 7), (gt 8), (gt 9), (gt 10), (gt 11), (gt 12)]))]) [0] (by decide) rfl
    have hK9 := hK.sub (tys' := []) [] rfl
    refine W.widen (k := 0) (n := 0) (Nat.le_of_ble_eq_true rfl) (Nat.le_of_ble_eq_true rfl) ?_
    exact W.iret (v := (-1)) hx hb hr (fun t ht hW => ⟨⟨(-1), (), rfl, rfl, by rw [ht]; exact hP9, va_K.moved hW.alike hK9, hD9⟩, hS.F ht⟩) hS.2.2 dX7_rowAt_30
  · refine lv_iload_n hx hb dX7_rowAt_4 rfl (lv_at hl 1 rfl) ?_
    refine lv_aload_n hx hb dX7_rowAt_5 rfl (lv_at hl 0 rfl) ?_
    refine va_get (D := (dC, dI)) (ci := 7) (v := .int 0) (C := RX7) (T := TX7) (N := 13) hx hb hts inlX7 hown hK hP 0 rfl rfl 1 (by decide) (hts (.fieldLink RX7 9 "ShapeReader$Tree" "size" "I") mw_7_4) (fun _ h9 => h9) rfl dX7_rowAt_6 ?_
    refine lv_icmp_ge (tgt := 29) hx hb dX7_rowAt_9 (by decide) (fun c_2 => ?_) (fun c_2 => False.elim (by have a0 := il_nlt c_1; have a1 := il_nle c_2; have e0 : (0 : Int32).toInt = 0 := (by decide); omega))
    refine lv_iconst (v := (-1)) hx hb dX7_rowAt_29 (by decide) ?_
    have hP9 := hP.sub (ws' := [(h9, .inr (7, [(gt 0), .int 0, (gt 2), (gt 3), (gt 4), (gt 5), (gt 6), (gt 7), (gt 8), (gt 9), (gt 10), (gt 11), (gt 12)]))]) [0] rfl
    have hD9 := hD.sub (ws' := [(h9, .inr (7, [(gt 0), .int 0, (gt 2), (gt 3), (gt 4), (gt 5), (gt 6), (gt 7), (gt 8), (gt 9), (gt 10), (gt 11), (gt 12)]))]) [0] (by decide) rfl
    have hK9 := hK.sub (tys' := []) [] rfl
    refine W.widen (k := 0) (n := 0) (Nat.le_of_ble_eq_true rfl) (Nat.le_of_ble_eq_true rfl) ?_
    exact W.iret (v := (-1)) hx hb hr (fun t ht hW => ⟨⟨(-1), (), rfl, rfl, by rw [ht]; exact hP9, va_K.moved hW.alike hK9, hD9⟩, hS.F ht⟩) hS.2.2 dX7_rowAt_30

set_option maxRecDepth 100000 in
set_option maxHeartbeats 4000000 in
theorem c_writtenBits (l : Launch) (dC : Nat → ClassId) (dI : Nat → Nat → Nat) (h0 : Nat) (h1 : Nat) (cA : ClassId) (g : Nat → Value) (sz : Nat) : Met l yX1_writtenBits (.code yX1_writtenBits cX1_writtenBits 3 (some .int) :: pw) ({ frames := 2, cells := 0, slots := 0, locals := 42 }) (va_Pc [.ref h0] (vPre dC dI [(h0, .inr (1, [(g 0), (g 1), .ref h1])), (h1, .inl (cA, 4, .inl (fun _ => (-1))))] [(cA, .int)] sz)) (va_Qi (fun (r : Int32) (_ : Unit) => r = 0) (fun (_ : Unit) t => vPst dC dI (va_A [(h0, .inr (1, [(g 0), (g 1), .ref h1])), (h1, .inl (cA, 4, .inl (fun _ => (-1))))] sz) [(h0, .inr (1, [(g 0), (g 1), .ref h1])), (h1, .inl (cA, 4, .inl (fun _ => (-1))))] [(cA, .int)] t) (va_A [(h0, .inr (1, [(g 0), (g 1), .ref h1])), (h1, .inl (cA, 4, .inl (fun _ => (-1))))] sz)) 0 0 (va_A [(h0, .inr (1, [(g 0), (g 1), .ref h1])), (h1, .inl (cA, 4, .inl (fun _ => (-1))))] sz) := by
  refine Met.ofW (cc := cX1_writtenBits) (maxL := 3) (ret := (some .int)) (by decide) rfl ?_
  intro p e s m args below meth c s₁ B hml hv
  obtain ⟨rfl, hsz, hP, hK, hD0⟩ := hv
  have hx := B.exec
  have hb := B.bytes
  have hr := B.returns
  have hts := atoms_spec (ws := .code yX1_writtenBits cX1_writtenBits 3 (some .int) :: pw) B.pre
  have hts : ∀ w ∈ pw, w.before _ s = true := fun w h => hts w (List.mem_cons_of_mem _ h)
  have hown : s.vm.findClass RX1 = some m.cls := findClass_of_methodNamed B.named
  have hlocks := B.notSynchronized
  subst hsz
  have hD := hD0.self (sz := s.heap.size)
  generalize hAe : va_A [(h0, .inr (1, [(g 0), (g 1), .ref h1])), (h1, .inl (cA, 4, .inl (fun _ => (-1))))] s.heap.size = A at hD ⊢
  have hA : ∀ q : Nat, s.heap.size ≤ q → A q := fun q h => by rw [← hAe]; exact Or.inr h
  have hS : va_S A s.heap s.heap [] := va_S.rf
  have hP : va_P (dC, dI) vwCl [(h0, .inr (1, [(g 0), (g 1), .ref h1])), (h1, .inl (cA, 4, .inl (fun _ => (-1))))] s.heap := hP
  have hl := lv_entry ([.ref h0]) (n := 3) (Nat.le_of_ble_eq_true rfl)
  rw [lg_entry_eq]
  generalize (lg_sl ([.ref h0]) ++ List.replicate (3 - (lg_sl ([.ref h0])).length) Slot.unset).toArray = ls at hl ⊢
  have hl : lv_has ls 3 [(0, .ref h0)] := hl
  refine lv_iconst (v := 0) hx hb dX1_writtenBits_0 (by decide) ?_
  refine lv_istore_n (lv' := [(1, .int 0), (0, .ref h0)]) hx hb dX1_writtenBits_1 rfl hl (by decide) rfl (fun ls hl => ?_)
  refine lv_iconst (v := 0) hx hb dX1_writtenBits_2 (by decide) ?_
  refine lv_istore_n (lv' := [(2, .int 0), (1, .int 0), (0, .ref h0)]) hx hb dX1_writtenBits_3 rfl hl (by decide) rfl (fun ls hl => ?_)
  refine lv_iload_n hx hb dX1_writtenBits_4 rfl (lv_at hl 0 rfl) ?_
  refine lv_iconst (v := 4) hx hb dX1_writtenBits_5 (by decide) ?_
  refine lv_icmp_ge (tgt := 29) hx hb dX1_writtenBits_6 (by decide) (fun h => absurd h (by decide)) (fun _ => ?_)
  refine lv_aload_n hx hb dX1_writtenBits_9 rfl (lv_at hl 2 rfl) ?_
  refine lv_iload_n hx hb dX1_writtenBits_10 rfl (lv_at hl 0 rfl) ?_
  have hPc := hP.sub (ws' := [(h0, .inr (1, [(g 0), (g 1), .ref h1])), (h1, .inl (cA, 4, .inl (fun _ => (-1))))]) [0, 1] rfl
  have hDc := hD.sub (ws' := [(h0, .inr (1, [(g 0), (g 1), .ref h1])), (h1, .inl (cA, 4, .inl (fun _ => (-1))))]) [0, 1] (by decide) rfl
  have hKc := hK.sub (tys' := [(cA, .int)]) [0] rfl
  have hFc := va_free (wc := [(h0, .inr (1, [(g 0), (g 1), .ref h1])), (h1, .inl (cA, 4, .inl (fun _ => (-1))))]) hD hS hA [0, 1] rfl
  refine va_calli (va_runV (As := [.int 0]) (rest := []) ⟨hx, hb, hml, hown, hts⟩ (c_isWritten l dC dI h0 h1 cA g 0 s.heap.size) (cwV 1 hts (gV mw_6_12 mw_3_9 mw_3_10 mw_0_5 mw_20_12) rfl rfl rfl (by decide +kernel) ⟨(Nat.le_of_ble_eq_true rfl), (Nat.le_of_ble_eq_true rfl)⟩) (vV (ci := 1) (q0 := 0) hKc hPc hDc rfl rfl) rfl rfl hl.1 rfl (lv_room (Nat.le_of_ble_eq_true rfl)) dX1_writtenBits_11 ⟨(Nat.le_of_ble_eq_true rfl), (Nat.le_of_ble_eq_true rfl)⟩) hS (fun q _ h => hFc q h) hFc (fun r_2 u t H1 locs ht hvm hw hB hz1 hk1 hS => ?_)
  obtain ⟨hP1, hK1, hD1⟩ := hB
  rw [ht] at hP1
  have hK1 := va_K.moved hvm.symm hK1
  obtain ⟨hP, hD⟩ := va_join (wr := []) (w1 := [(h0, .inr (1, [(g 0), (g 1), .ref h1])), (h1, .inl (cA, 4, .inl (fun _ => (-1))))]) hP hD [0, 1] [] rfl rfl (by decide) (by decide) hk1 hFc hP1 hD1
  clear hPc hDc hKc hP1 hK1 hD1 hFc hk1 hz1
  generalize H1 = H at hP hS ⊢
  have hP : va_P (dC, dI) vwCl [(h0, .inr (1, [(g 0), (g 1), .ref h1])), (h1, .inl (cA, 4, .inl (fun _ => (-1))))] H := hP
  have hD : va_D A [(h0, .inr (1, [(g 0), (g 1), .ref h1])), (h1, .inl (cA, 4, .inl (fun _ => (-1))))] := hD
  obtain rfl : r_2 = 0 := hw
  refine lv_if_eq (tgt := 23) hx hb dX1_writtenBits_14 (by decide) (fun _ => ?_) (fun h => absurd (by decide) h)
  refine lv_iinc (v := 1) (lv' := [(2, .int 1), (1, .int 0), (0, .ref h0)]) hx hb dX1_writtenBits_23 hl (k := 0) rfl (by decide) (by decide) rfl (fun ls hl => ?_)
  refine lv_goto (tgt := 4) hx hb dX1_writtenBits_26 (by decide) ?_
  refine lv_iload_n hx hb dX1_writtenBits_4 rfl (lv_at hl 0 rfl) ?_
  refine lv_iconst (v := 4) hx hb dX1_writtenBits_5 (by decide) ?_
  refine lv_icmp_ge (tgt := 29) hx hb dX1_writtenBits_6 (by decide) (fun h => absurd h (by decide)) (fun _ => ?_)
  refine lv_aload_n hx hb dX1_writtenBits_9 rfl (lv_at hl 2 rfl) ?_
  refine lv_iload_n hx hb dX1_writtenBits_10 rfl (lv_at hl 0 rfl) ?_
  have hPc := hP.sub (ws' := [(h0, .inr (1, [(g 0), (g 1), .ref h1])), (h1, .inl (cA, 4, .inl (fun _ => (-1))))]) [0, 1] rfl
  have hDc := hD.sub (ws' := [(h0, .inr (1, [(g 0), (g 1), .ref h1])), (h1, .inl (cA, 4, .inl (fun _ => (-1))))]) [0, 1] (by decide) rfl
  have hKc := hK.sub (tys' := [(cA, .int)]) [0] rfl
  have hFc := va_free (wc := [(h0, .inr (1, [(g 0), (g 1), .ref h1])), (h1, .inl (cA, 4, .inl (fun _ => (-1))))]) hD hS hA [0, 1] rfl
  refine va_calli (va_runV (As := [.int 1]) (rest := []) ⟨hx, hb, hml, hown, hts⟩ (c_isWritten l dC dI h0 h1 cA g 1 H.size) (cwV 1 hts (gV mw_6_12 mw_3_9 mw_3_10 mw_0_5 mw_20_12) rfl rfl rfl (by decide +kernel) ⟨(Nat.le_of_ble_eq_true rfl), (Nat.le_of_ble_eq_true rfl)⟩) (vV (ci := 1) (q0 := 0) hKc hPc hDc rfl rfl) rfl rfl hl.1 rfl (lv_room (Nat.le_of_ble_eq_true rfl)) dX1_writtenBits_11 ⟨(Nat.le_of_ble_eq_true rfl), (Nat.le_of_ble_eq_true rfl)⟩) hS (fun q _ h => hFc q h) hFc (fun r_5 u t H1 locs ht hvm hw hB hz1 hk1 hS => ?_)
  obtain ⟨hP1, hK1, hD1⟩ := hB
  rw [ht] at hP1
  have hK1 := va_K.moved hvm.symm hK1
  obtain ⟨hP, hD⟩ := va_join (wr := []) (w1 := [(h0, .inr (1, [(g 0), (g 1), .ref h1])), (h1, .inl (cA, 4, .inl (fun _ => (-1))))]) hP hD [0, 1] [] rfl rfl (by decide) (by decide) hk1 hFc hP1 hD1
  clear hPc hDc hKc hP1 hK1 hD1 hFc hk1 hz1
  generalize H1 = H at hP hS ⊢
  have hP : va_P (dC, dI) vwCl [(h0, .inr (1, [(g 0), (g 1), .ref h1])), (h1, .inl (cA, 4, .inl (fun _ => (-1))))] H := hP
  have hD : va_D A [(h0, .inr (1, [(g 0), (g 1), .ref h1])), (h1, .inl (cA, 4, .inl (fun _ => (-1))))] := hD
  obtain rfl : r_5 = 0 := hw
  refine lv_if_eq (tgt := 23) hx hb dX1_writtenBits_14 (by decide) (fun _ => ?_) (fun h => absurd (by decide) h)
  refine lv_iinc (v := 2) (lv' := [(2, .int 2), (1, .int 0), (0, .ref h0)]) hx hb dX1_writtenBits_23 hl (k := 0) rfl (by decide) (by decide) rfl (fun ls hl => ?_)
  refine lv_goto (tgt := 4) hx hb dX1_writtenBits_26 (by decide) ?_
  refine lv_iload_n hx hb dX1_writtenBits_4 rfl (lv_at hl 0 rfl) ?_
  refine lv_iconst (v := 4) hx hb dX1_writtenBits_5 (by decide) ?_
  refine lv_icmp_ge (tgt := 29) hx hb dX1_writtenBits_6 (by decide) (fun h => absurd h (by decide)) (fun _ => ?_)
  refine lv_aload_n hx hb dX1_writtenBits_9 rfl (lv_at hl 2 rfl) ?_
  refine lv_iload_n hx hb dX1_writtenBits_10 rfl (lv_at hl 0 rfl) ?_
  have hPc := hP.sub (ws' := [(h0, .inr (1, [(g 0), (g 1), .ref h1])), (h1, .inl (cA, 4, .inl (fun _ => (-1))))]) [0, 1] rfl
  have hDc := hD.sub (ws' := [(h0, .inr (1, [(g 0), (g 1), .ref h1])), (h1, .inl (cA, 4, .inl (fun _ => (-1))))]) [0, 1] (by decide) rfl
  have hKc := hK.sub (tys' := [(cA, .int)]) [0] rfl
  have hFc := va_free (wc := [(h0, .inr (1, [(g 0), (g 1), .ref h1])), (h1, .inl (cA, 4, .inl (fun _ => (-1))))]) hD hS hA [0, 1] rfl
  refine va_calli (va_runV (As := [.int 2]) (rest := []) ⟨hx, hb, hml, hown, hts⟩ (c_isWritten l dC dI h0 h1 cA g 2 H.size) (cwV 1 hts (gV mw_6_12 mw_3_9 mw_3_10 mw_0_5 mw_20_12) rfl rfl rfl (by decide +kernel) ⟨(Nat.le_of_ble_eq_true rfl), (Nat.le_of_ble_eq_true rfl)⟩) (vV (ci := 1) (q0 := 0) hKc hPc hDc rfl rfl) rfl rfl hl.1 rfl (lv_room (Nat.le_of_ble_eq_true rfl)) dX1_writtenBits_11 ⟨(Nat.le_of_ble_eq_true rfl), (Nat.le_of_ble_eq_true rfl)⟩) hS (fun q _ h => hFc q h) hFc (fun r_8 u t H1 locs ht hvm hw hB hz1 hk1 hS => ?_)
  obtain ⟨hP1, hK1, hD1⟩ := hB
  rw [ht] at hP1
  have hK1 := va_K.moved hvm.symm hK1
  obtain ⟨hP, hD⟩ := va_join (wr := []) (w1 := [(h0, .inr (1, [(g 0), (g 1), .ref h1])), (h1, .inl (cA, 4, .inl (fun _ => (-1))))]) hP hD [0, 1] [] rfl rfl (by decide) (by decide) hk1 hFc hP1 hD1
  clear hPc hDc hKc hP1 hK1 hD1 hFc hk1 hz1
  generalize H1 = H at hP hS ⊢
  have hP : va_P (dC, dI) vwCl [(h0, .inr (1, [(g 0), (g 1), .ref h1])), (h1, .inl (cA, 4, .inl (fun _ => (-1))))] H := hP
  have hD : va_D A [(h0, .inr (1, [(g 0), (g 1), .ref h1])), (h1, .inl (cA, 4, .inl (fun _ => (-1))))] := hD
  obtain rfl : r_8 = 0 := hw
  refine lv_if_eq (tgt := 23) hx hb dX1_writtenBits_14 (by decide) (fun _ => ?_) (fun h => absurd (by decide) h)
  refine lv_iinc (v := 3) (lv' := [(2, .int 3), (1, .int 0), (0, .ref h0)]) hx hb dX1_writtenBits_23 hl (k := 0) rfl (by decide) (by decide) rfl (fun ls hl => ?_)
  refine lv_goto (tgt := 4) hx hb dX1_writtenBits_26 (by decide) ?_
  refine lv_iload_n hx hb dX1_writtenBits_4 rfl (lv_at hl 0 rfl) ?_
  refine lv_iconst (v := 4) hx hb dX1_writtenBits_5 (by decide) ?_
  refine lv_icmp_ge (tgt := 29) hx hb dX1_writtenBits_6 (by decide) (fun h => absurd h (by decide)) (fun _ => ?_)
  refine lv_aload_n hx hb dX1_writtenBits_9 rfl (lv_at hl 2 rfl) ?_
  refine lv_iload_n hx hb dX1_writtenBits_10 rfl (lv_at hl 0 rfl) ?_
  have hPc := hP.sub (ws' := [(h0, .inr (1, [(g 0), (g 1), .ref h1])), (h1, .inl (cA, 4, .inl (fun _ => (-1))))]) [0, 1] rfl
  have hDc := hD.sub (ws' := [(h0, .inr (1, [(g 0), (g 1), .ref h1])), (h1, .inl (cA, 4, .inl (fun _ => (-1))))]) [0, 1] (by decide) rfl
  have hKc := hK.sub (tys' := [(cA, .int)]) [0] rfl
  have hFc := va_free (wc := [(h0, .inr (1, [(g 0), (g 1), .ref h1])), (h1, .inl (cA, 4, .inl (fun _ => (-1))))]) hD hS hA [0, 1] rfl
  refine va_calli (va_runV (As := [.int 3]) (rest := []) ⟨hx, hb, hml, hown, hts⟩ (c_isWritten l dC dI h0 h1 cA g 3 H.size) (cwV 1 hts (gV mw_6_12 mw_3_9 mw_3_10 mw_0_5 mw_20_12) rfl rfl rfl (by decide +kernel) ⟨(Nat.le_of_ble_eq_true rfl), (Nat.le_of_ble_eq_true rfl)⟩) (vV (ci := 1) (q0 := 0) hKc hPc hDc rfl rfl) rfl rfl hl.1 rfl (lv_room (Nat.le_of_ble_eq_true rfl)) dX1_writtenBits_11 ⟨(Nat.le_of_ble_eq_true rfl), (Nat.le_of_ble_eq_true rfl)⟩) hS (fun q _ h => hFc q h) hFc (fun r_11 u t H1 locs ht hvm hw hB hz1 hk1 hS => ?_)
  obtain ⟨hP1, hK1, hD1⟩ := hB
  rw [ht] at hP1
  have hK1 := va_K.moved hvm.symm hK1
  obtain ⟨hP, hD⟩ := va_join (wr := []) (w1 := [(h0, .inr (1, [(g 0), (g 1), .ref h1])), (h1, .inl (cA, 4, .inl (fun _ => (-1))))]) hP hD [0, 1] [] rfl rfl (by decide) (by decide) hk1 hFc hP1 hD1
  clear hPc hDc hKc hP1 hK1 hD1 hFc hk1 hz1
  generalize H1 = H at hP hS ⊢
  have hP : va_P (dC, dI) vwCl [(h0, .inr (1, [(g 0), (g 1), .ref h1])), (h1, .inl (cA, 4, .inl (fun _ => (-1))))] H := hP
  have hD : va_D A [(h0, .inr (1, [(g 0), (g 1), .ref h1])), (h1, .inl (cA, 4, .inl (fun _ => (-1))))] := hD
  obtain rfl : r_11 = 0 := hw
  refine lv_if_eq (tgt := 23) hx hb dX1_writtenBits_14 (by decide) (fun _ => ?_) (fun h => absurd (by decide) h)
  refine lv_iinc (v := 4) (lv' := [(2, .int 4), (1, .int 0), (0, .ref h0)]) hx hb dX1_writtenBits_23 hl (k := 0) rfl (by decide) (by decide) rfl (fun ls hl => ?_)
  refine lv_goto (tgt := 4) hx hb dX1_writtenBits_26 (by decide) ?_
  refine lv_iload_n hx hb dX1_writtenBits_4 rfl (lv_at hl 0 rfl) ?_
  refine lv_iconst (v := 4) hx hb dX1_writtenBits_5 (by decide) ?_
  refine lv_icmp_ge (tgt := 29) hx hb dX1_writtenBits_6 (by decide) (fun _ => ?_) (fun h => absurd (by decide) h)
  refine lv_iload_n hx hb dX1_writtenBits_29 rfl (lv_at hl 1 rfl) ?_
  have hP9 := hP.sub (ws' := [(h0, .inr (1, [(g 0), (g 1), .ref h1])), (h1, .inl (cA, 4, .inl (fun _ => (-1))))]) [0, 1] rfl
  have hD9 := hD.sub (ws' := [(h0, .inr (1, [(g 0), (g 1), .ref h1])), (h1, .inl (cA, 4, .inl (fun _ => (-1))))]) [0, 1] (by decide) rfl
  have hK9 := hK.sub (tys' := [(cA, .int)]) [0] rfl
  refine W.widen (k := 0) (n := 0) (Nat.le_of_ble_eq_true rfl) (Nat.le_of_ble_eq_true rfl) ?_
  exact W.iret (v := 0) hx hb hr (fun t ht hW => ⟨⟨0, (), rfl, rfl, by rw [ht]; exact hP9, va_K.moved hW.alike hK9, hD9⟩, hS.F ht⟩) hS.2.2 dX1_writtenBits_30

set_option maxRecDepth 100000 in
set_option maxHeartbeats 4000000 in
theorem c_count0 (l : Launch) (dC : Nat → ClassId) (dI : Nat → Nat → Nat) (h0 : Nat) (h3 : Nat) (h6 : Nat) (h7 : Nat) (h8 : Nat) (h9 : Nat) (cA : ClassId) (g : Nat → Value) (ga : Nat → Value) (gm : Nat → Value) (gw : Nat → Value) (gt : Nat → Value) (sz : Nat) : Met l yX10_count (.code yX10_count cX10_count 2 (some .int) :: pw) ({ frames := 0, cells := 0, slots := 0, locals := 0 }) (va_Pc [.ref h0, .int 0] (vPre dC dI [(h0, .inr (10, [(g 0), .int 0, (g 2), .ref h3, (g 4), (g 5), .ref h6, (g 7), .ref h8, .ref h9, (g 10), (g 11), (g 12), (g 13), (g 14), (g 15)])), (h3, .inr (5, [.int 0, (ga 1), (ga 2), (ga 3), (ga 4), (ga 5), (ga 6), (ga 7), (ga 8), (ga 9), (ga 10), (ga 11), (ga 12), (ga 13), (ga 14), (ga 15), (ga 16)])), (h6, .inr (1, [(gm 0), (gm 1), .ref h7])), (h7, .inl (cA, 4, .inl (fun _ => (-1)))), (h8, .inr (9, [(gw 0), .int 0, .int 0, .int 0])), (h9, .inr (7, [(gt 0), .int 0, (gt 2), (gt 3), (gt 4), (gt 5), (gt 6), (gt 7), (gt 8), (gt 9), (gt 10), (gt 11), (gt 12)]))] [(cA, .int)] sz)) (va_Qi (fun (r : Int32) (_ : Unit) => r = 0) (fun (_ : Unit) t => vPst dC dI (va_A [(h0, .inr (10, [(g 0), .int 0, (g 2), .ref h3, (g 4), (g 5), .ref h6, (g 7), .ref h8, .ref h9, (g 10), (g 11), (g 12), (g 13), (g 14), (g 15)])), (h3, .inr (5, [.int 0, (ga 1), (ga 2), (ga 3), (ga 4), (ga 5), (ga 6), (ga 7), (ga 8), (ga 9), (ga 10), (ga 11), (ga 12), (ga 13), (ga 14), (ga 15), (ga 16)])), (h6, .inr (1, [(gm 0), (gm 1), .ref h7])), (h7, .inl (cA, 4, .inl (fun _ => (-1)))), (h8, .inr (9, [(gw 0), .int 0, .int 0, .int 0])), (h9, .inr (7, [(gt 0), .int 0, (gt 2), (gt 3), (gt 4), (gt 5), (gt 6), (gt 7), (gt 8), (gt 9), (gt 10), (gt 11), (gt 12)]))] sz) [(h0, .inr (10, [(g 0), .int 0, (g 2), .ref h3, (g 4), (g 5), .ref h6, (g 7), .ref h8, .ref h9, (g 10), (g 11), (g 12), (g 13), (g 14), (g 15)])), (h3, .inr (5, [.int 0, (ga 1), (ga 2), (ga 3), (ga 4), (ga 5), (ga 6), (ga 7), (ga 8), (ga 9), (ga 10), (ga 11), (ga 12), (ga 13), (ga 14), (ga 15), (ga 16)])), (h6, .inr (1, [(gm 0), (gm 1), .ref h7])), (h7, .inl (cA, 4, .inl (fun _ => (-1)))), (h8, .inr (9, [(gw 0), .int 0, .int 0, .int 0])), (h9, .inr (7, [(gt 0), .int 0, (gt 2), (gt 3), (gt 4), (gt 5), (gt 6), (gt 7), (gt 8), (gt 9), (gt 10), (gt 11), (gt 12)]))] [(cA, .int)] t) (va_A [(h0, .inr (10, [(g 0), .int 0, (g 2), .ref h3, (g 4), (g 5), .ref h6, (g 7), .ref h8, .ref h9, (g 10), (g 11), (g 12), (g 13), (g 14), (g 15)])), (h3, .inr (5, [.int 0, (ga 1), (ga 2), (ga 3), (ga 4), (ga 5), (ga 6), (ga 7), (ga 8), (ga 9), (ga 10), (ga 11), (ga 12), (ga 13), (ga 14), (ga 15), (ga 16)])), (h6, .inr (1, [(gm 0), (gm 1), .ref h7])), (h7, .inl (cA, 4, .inl (fun _ => (-1)))), (h8, .inr (9, [(gw 0), .int 0, .int 0, .int 0])), (h9, .inr (7, [(gt 0), .int 0, (gt 2), (gt 3), (gt 4), (gt 5), (gt 6), (gt 7), (gt 8), (gt 9), (gt 10), (gt 11), (gt 12)]))] sz)) 0 0 (va_A [(h0, .inr (10, [(g 0), .int 0, (g 2), .ref h3, (g 4), (g 5), .ref h6, (g 7), .ref h8, .ref h9, (g 10), (g 11), (g 12), (g 13), (g 14), (g 15)])), (h3, .inr (5, [.int 0, (ga 1), (ga 2), (ga 3), (ga 4), (ga 5), (ga 6), (ga 7), (ga 8), (ga 9), (ga 10), (ga 11), (ga 12), (ga 13), (ga 14), (ga 15), (ga 16)])), (h6, .inr (1, [(gm 0), (gm 1), .ref h7])), (h7, .inl (cA, 4, .inl (fun _ => (-1)))), (h8, .inr (9, [(gw 0), .int 0, .int 0, .int 0])), (h9, .inr (7, [(gt 0), .int 0, (gt 2), (gt 3), (gt 4), (gt 5), (gt 6), (gt 7), (gt 8), (gt 9), (gt 10), (gt 11), (gt 12)]))] sz) := by
  refine Met.ofW (cc := cX10_count) (maxL := 2) (ret := (some .int)) (by decide) rfl ?_
  intro p e s m args below meth c s₁ B hml hv
  obtain ⟨rfl, hsz, hP, hK, hD0⟩ := hv
  have hx := B.exec
  have hb := B.bytes
  have hr := B.returns
  have hts := atoms_spec (ws := .code yX10_count cX10_count 2 (some .int) :: pw) B.pre
  have hts : ∀ w ∈ pw, w.before _ s = true := fun w h => hts w (List.mem_cons_of_mem _ h)
  have hown : s.vm.findClass RX10 = some m.cls := findClass_of_methodNamed B.named
  have hlocks := B.notSynchronized
  subst hsz
  have hD := hD0.self (sz := s.heap.size)
  generalize hAe : va_A [(h0, .inr (10, [(g 0), .int 0, (g 2), .ref h3, (g 4), (g 5), .ref h6, (g 7), .ref h8, .ref h9, (g 10), (g 11), (g 12), (g 13), (g 14), (g 15)])), (h3, .inr (5, [.int 0, (ga 1), (ga 2), (ga 3), (ga 4), (ga 5), (ga 6), (ga 7), (ga 8), (ga 9), (ga 10), (ga 11), (ga 12), (ga 13), (ga 14), (ga 15), (ga 16)])), (h6, .inr (1, [(gm 0), (gm 1), .ref h7])), (h7, .inl (cA, 4, .inl (fun _ => (-1)))), (h8, .inr (9, [(gw 0), .int 0, .int 0, .int 0])), (h9, .inr (7, [(gt 0), .int 0, (gt 2), (gt 3), (gt 4), (gt 5), (gt 6), (gt 7), (gt 8), (gt 9), (gt 10), (gt 11), (gt 12)]))] s.heap.size = A at hD ⊢
  have hA : ∀ q : Nat, s.heap.size ≤ q → A q := fun q h => by rw [← hAe]; exact Or.inr h
  have hS : va_S A s.heap s.heap [] := va_S.rf
  have hP : va_P (dC, dI) vwCl [(h0, .inr (10, [(g 0), .int 0, (g 2), .ref h3, (g 4), (g 5), .ref h6, (g 7), .ref h8, .ref h9, (g 10), (g 11), (g 12), (g 13), (g 14), (g 15)])), (h3, .inr (5, [.int 0, (ga 1), (ga 2), (ga 3), (ga 4), (ga 5), (ga 6), (ga 7), (ga 8), (ga 9), (ga 10), (ga 11), (ga 12), (ga 13), (ga 14), (ga 15), (ga 16)])), (h6, .inr (1, [(gm 0), (gm 1), .ref h7])), (h7, .inl (cA, 4, .inl (fun _ => (-1)))), (h8, .inr (9, [(gw 0), .int 0, .int 0, .int 0])), (h9, .inr (7, [(gt 0), .int 0, (gt 2), (gt 3), (gt 4), (gt 5), (gt 6), (gt 7), (gt 8), (gt 9), (gt 10), (gt 11), (gt 12)]))] s.heap := hP
  have hl := lv_entry ([.ref h0, .int 0]) (n := 2) (Nat.le_of_ble_eq_true rfl)
  rw [lg_entry_eq]
  generalize (lg_sl ([.ref h0, .int 0]) ++ List.replicate (2 - (lg_sl ([.ref h0, .int 0])).length) Slot.unset).toArray = ls at hl ⊢
  have hl : lv_has ls 2 [(0, .ref h0), (1, .int 0)] := hl
  refine lv_iload_n hx hb dX10_count_0 rfl (lv_at hl 1 rfl) ?_
  refine lv_tableIn (off := 39) (tgt := 40) hx hb dX10_count_1 (by decide) (by decide) rfl (by decide) ?_
  refine lv_aload_n hx hb dX10_count_40 rfl (lv_at hl 0 rfl) ?_
  refine va_get (D := (dC, dI)) (ci := 10) (v := .ref h3) (C := RX10) (T := TX10) (N := 16) hx hb hts inlX10 hown hK hP 0 rfl rfl 3 (by decide) (hts (.fieldLink RX10 29 "ShapeReader" "shapes" "LShapeReader$Shapes;") mw_0_28) (fun _ h9 => h9) rfl dX10_count_41 ?_
  refine va_get (D := (dC, dI)) (ci := 5) (v := .int 0) (C := RX5) (T := TX5) (N := 17) hx hb hts inlX5 hown hK hP 1 rfl rfl 0 (by decide) (hts (.fieldLink RX10 137 "ShapeReader$Shapes" "planCount" "I") mw_2_24) (fun _ h9 => h9) rfl dX10_count_44 ?_
  have hP9 := hP.sub (ws' := [(h0, .inr (10, [(g 0), .int 0, (g 2), .ref h3, (g 4), (g 5), .ref h6, (g 7), .ref h8, .ref h9, (g 10), (g 11), (g 12), (g 13), (g 14), (g 15)])), (h3, .inr (5, [.int 0, (ga 1), (ga 2), (ga 3), (ga 4), (ga 5), (ga 6), (ga 7), (ga 8), (ga 9), (ga 10), (ga 11), (ga 12), (ga 13), (ga 14), (ga 15), (ga 16)])), (h6, .inr (1, [(gm 0), (gm 1), .ref h7])), (h7, .inl (cA, 4, .inl (fun _ => (-1)))), (h8, .inr (9, [(gw 0), .int 0, .int 0, .int 0])), (h9, .inr (7, [(gt 0), .int 0, (gt 2), (gt 3), (gt 4), (gt 5), (gt 6), (gt 7), (gt 8), (gt 9), (gt 10), (gt 11), (gt 12)]))]) [0, 1, 2, 3, 4, 5] rfl
  have hD9 := hD.sub (ws' := [(h0, .inr (10, [(g 0), .int 0, (g 2), .ref h3, (g 4), (g 5), .ref h6, (g 7), .ref h8, .ref h9, (g 10), (g 11), (g 12), (g 13), (g 14), (g 15)])), (h3, .inr (5, [.int 0, (ga 1), (ga 2), (ga 3), (ga 4), (ga 5), (ga 6), (ga 7), (ga 8), (ga 9), (ga 10), (ga 11), (ga 12), (ga 13), (ga 14), (ga 15), (ga 16)])), (h6, .inr (1, [(gm 0), (gm 1), .ref h7])), (h7, .inl (cA, 4, .inl (fun _ => (-1)))), (h8, .inr (9, [(gw 0), .int 0, .int 0, .int 0])), (h9, .inr (7, [(gt 0), .int 0, (gt 2), (gt 3), (gt 4), (gt 5), (gt 6), (gt 7), (gt 8), (gt 9), (gt 10), (gt 11), (gt 12)]))]) [0, 1, 2, 3, 4, 5] (by decide) rfl
  have hK9 := hK.sub (tys' := [(cA, .int)]) [0] rfl
  refine W.widen (k := 0) (n := 0) (Nat.le_of_ble_eq_true rfl) (Nat.le_of_ble_eq_true rfl) ?_
  exact W.iret (v := 0) hx hb hr (fun t ht hW => ⟨⟨0, (), rfl, rfl, by rw [ht]; exact hP9, va_K.moved hW.alike hK9, hD9⟩, hS.F ht⟩) hS.2.2 dX10_count_47

set_option maxRecDepth 100000 in
set_option maxHeartbeats 4000000 in
theorem c_count1 (l : Launch) (dC : Nat → ClassId) (dI : Nat → Nat → Nat) (h0 : Nat) (h3 : Nat) (h6 : Nat) (h7 : Nat) (h8 : Nat) (h9 : Nat) (cA : ClassId) (g : Nat → Value) (ga : Nat → Value) (gm : Nat → Value) (gw : Nat → Value) (gt : Nat → Value) (sz : Nat) : Met l yX10_count (.code yX10_count cX10_count 2 (some .int) :: pw) ({ frames := 3, cells := 0, slots := 0, locals := 64 }) (va_Pc [.ref h0, .int 1] (vPre dC dI [(h0, .inr (10, [(g 0), .int 0, (g 2), .ref h3, (g 4), (g 5), .ref h6, (g 7), .ref h8, .ref h9, (g 10), (g 11), (g 12), (g 13), (g 14), (g 15)])), (h3, .inr (5, [.int 0, (ga 1), (ga 2), (ga 3), (ga 4), (ga 5), (ga 6), (ga 7), (ga 8), (ga 9), (ga 10), (ga 11), (ga 12), (ga 13), (ga 14), (ga 15), (ga 16)])), (h6, .inr (1, [(gm 0), (gm 1), .ref h7])), (h7, .inl (cA, 4, .inl (fun _ => (-1)))), (h8, .inr (9, [(gw 0), .int 0, .int 0, .int 0])), (h9, .inr (7, [(gt 0), .int 0, (gt 2), (gt 3), (gt 4), (gt 5), (gt 6), (gt 7), (gt 8), (gt 9), (gt 10), (gt 11), (gt 12)]))] [(cA, .int)] sz)) (va_Qi (fun (r : Int32) (_ : Unit) => r = 0) (fun (_ : Unit) t => vPst dC dI (va_A [(h0, .inr (10, [(g 0), .int 0, (g 2), .ref h3, (g 4), (g 5), .ref h6, (g 7), .ref h8, .ref h9, (g 10), (g 11), (g 12), (g 13), (g 14), (g 15)])), (h3, .inr (5, [.int 0, (ga 1), (ga 2), (ga 3), (ga 4), (ga 5), (ga 6), (ga 7), (ga 8), (ga 9), (ga 10), (ga 11), (ga 12), (ga 13), (ga 14), (ga 15), (ga 16)])), (h6, .inr (1, [(gm 0), (gm 1), .ref h7])), (h7, .inl (cA, 4, .inl (fun _ => (-1)))), (h8, .inr (9, [(gw 0), .int 0, .int 0, .int 0])), (h9, .inr (7, [(gt 0), .int 0, (gt 2), (gt 3), (gt 4), (gt 5), (gt 6), (gt 7), (gt 8), (gt 9), (gt 10), (gt 11), (gt 12)]))] sz) [(h0, .inr (10, [(g 0), .int 0, (g 2), .ref h3, (g 4), (g 5), .ref h6, (g 7), .ref h8, .ref h9, (g 10), (g 11), (g 12), (g 13), (g 14), (g 15)])), (h3, .inr (5, [.int 0, (ga 1), (ga 2), (ga 3), (ga 4), (ga 5), (ga 6), (ga 7), (ga 8), (ga 9), (ga 10), (ga 11), (ga 12), (ga 13), (ga 14), (ga 15), (ga 16)])), (h6, .inr (1, [(gm 0), (gm 1), .ref h7])), (h7, .inl (cA, 4, .inl (fun _ => (-1)))), (h8, .inr (9, [(gw 0), .int 0, .int 0, .int 0])), (h9, .inr (7, [(gt 0), .int 0, (gt 2), (gt 3), (gt 4), (gt 5), (gt 6), (gt 7), (gt 8), (gt 9), (gt 10), (gt 11), (gt 12)]))] [(cA, .int)] t) (va_A [(h0, .inr (10, [(g 0), .int 0, (g 2), .ref h3, (g 4), (g 5), .ref h6, (g 7), .ref h8, .ref h9, (g 10), (g 11), (g 12), (g 13), (g 14), (g 15)])), (h3, .inr (5, [.int 0, (ga 1), (ga 2), (ga 3), (ga 4), (ga 5), (ga 6), (ga 7), (ga 8), (ga 9), (ga 10), (ga 11), (ga 12), (ga 13), (ga 14), (ga 15), (ga 16)])), (h6, .inr (1, [(gm 0), (gm 1), .ref h7])), (h7, .inl (cA, 4, .inl (fun _ => (-1)))), (h8, .inr (9, [(gw 0), .int 0, .int 0, .int 0])), (h9, .inr (7, [(gt 0), .int 0, (gt 2), (gt 3), (gt 4), (gt 5), (gt 6), (gt 7), (gt 8), (gt 9), (gt 10), (gt 11), (gt 12)]))] sz)) 0 0 (va_A [(h0, .inr (10, [(g 0), .int 0, (g 2), .ref h3, (g 4), (g 5), .ref h6, (g 7), .ref h8, .ref h9, (g 10), (g 11), (g 12), (g 13), (g 14), (g 15)])), (h3, .inr (5, [.int 0, (ga 1), (ga 2), (ga 3), (ga 4), (ga 5), (ga 6), (ga 7), (ga 8), (ga 9), (ga 10), (ga 11), (ga 12), (ga 13), (ga 14), (ga 15), (ga 16)])), (h6, .inr (1, [(gm 0), (gm 1), .ref h7])), (h7, .inl (cA, 4, .inl (fun _ => (-1)))), (h8, .inr (9, [(gw 0), .int 0, .int 0, .int 0])), (h9, .inr (7, [(gt 0), .int 0, (gt 2), (gt 3), (gt 4), (gt 5), (gt 6), (gt 7), (gt 8), (gt 9), (gt 10), (gt 11), (gt 12)]))] sz) := by
  refine Met.ofW (cc := cX10_count) (maxL := 2) (ret := (some .int)) (by decide) rfl ?_
  intro p e s m args below meth c s₁ B hml hv
  obtain ⟨rfl, hsz, hP, hK, hD0⟩ := hv
  have hx := B.exec
  have hb := B.bytes
  have hr := B.returns
  have hts := atoms_spec (ws := .code yX10_count cX10_count 2 (some .int) :: pw) B.pre
  have hts : ∀ w ∈ pw, w.before _ s = true := fun w h => hts w (List.mem_cons_of_mem _ h)
  have hown : s.vm.findClass RX10 = some m.cls := findClass_of_methodNamed B.named
  have hlocks := B.notSynchronized
  subst hsz
  have hD := hD0.self (sz := s.heap.size)
  generalize hAe : va_A [(h0, .inr (10, [(g 0), .int 0, (g 2), .ref h3, (g 4), (g 5), .ref h6, (g 7), .ref h8, .ref h9, (g 10), (g 11), (g 12), (g 13), (g 14), (g 15)])), (h3, .inr (5, [.int 0, (ga 1), (ga 2), (ga 3), (ga 4), (ga 5), (ga 6), (ga 7), (ga 8), (ga 9), (ga 10), (ga 11), (ga 12), (ga 13), (ga 14), (ga 15), (ga 16)])), (h6, .inr (1, [(gm 0), (gm 1), .ref h7])), (h7, .inl (cA, 4, .inl (fun _ => (-1)))), (h8, .inr (9, [(gw 0), .int 0, .int 0, .int 0])), (h9, .inr (7, [(gt 0), .int 0, (gt 2), (gt 3), (gt 4), (gt 5), (gt 6), (gt 7), (gt 8), (gt 9), (gt 10), (gt 11), (gt 12)]))] s.heap.size = A at hD ⊢
  have hA : ∀ q : Nat, s.heap.size ≤ q → A q := fun q h => by rw [← hAe]; exact Or.inr h
  have hS : va_S A s.heap s.heap [] := va_S.rf
  have hP : va_P (dC, dI) vwCl [(h0, .inr (10, [(g 0), .int 0, (g 2), .ref h3, (g 4), (g 5), .ref h6, (g 7), .ref h8, .ref h9, (g 10), (g 11), (g 12), (g 13), (g 14), (g 15)])), (h3, .inr (5, [.int 0, (ga 1), (ga 2), (ga 3), (ga 4), (ga 5), (ga 6), (ga 7), (ga 8), (ga 9), (ga 10), (ga 11), (ga 12), (ga 13), (ga 14), (ga 15), (ga 16)])), (h6, .inr (1, [(gm 0), (gm 1), .ref h7])), (h7, .inl (cA, 4, .inl (fun _ => (-1)))), (h8, .inr (9, [(gw 0), .int 0, .int 0, .int 0])), (h9, .inr (7, [(gt 0), .int 0, (gt 2), (gt 3), (gt 4), (gt 5), (gt 6), (gt 7), (gt 8), (gt 9), (gt 10), (gt 11), (gt 12)]))] s.heap := hP
  have hl := lv_entry ([.ref h0, .int 1]) (n := 2) (Nat.le_of_ble_eq_true rfl)
  rw [lg_entry_eq]
  generalize (lg_sl ([.ref h0, .int 1]) ++ List.replicate (2 - (lg_sl ([.ref h0, .int 1])).length) Slot.unset).toArray = ls at hl ⊢
  have hl : lv_has ls 2 [(0, .ref h0), (1, .int 1)] := hl
  refine lv_iload_n hx hb dX10_count_0 rfl (lv_at hl 1 rfl) ?_
  refine lv_tableIn (off := 47) (tgt := 48) hx hb dX10_count_1 (by decide) (by decide) rfl (by decide) ?_
  refine lv_aload_n hx hb dX10_count_48 rfl (lv_at hl 0 rfl) ?_
  refine va_get (D := (dC, dI)) (ci := 10) (v := .ref h6) (C := RX10) (T := TX10) (N := 16) hx hb hts inlX10 hown hK hP 0 rfl rfl 6 (by decide) (hts (.fieldLink RX10 48 "ShapeReader" "messages" "LShapeReader$Messages;") mw_1_9) (fun _ h9 => h9) rfl dX10_count_49 ?_
  have hPc := hP.sub (ws' := [(h6, .inr (1, [(gm 0), (gm 1), .ref h7])), (h7, .inl (cA, 4, .inl (fun _ => (-1))))]) [2, 3] rfl
  have hDc := hD.sub (ws' := [(h6, .inr (1, [(gm 0), (gm 1), .ref h7])), (h7, .inl (cA, 4, .inl (fun _ => (-1))))]) [2, 3] (by decide) rfl
  have hKc := hK.sub (tys' := [(cA, .int)]) [0] rfl
  have hFc := va_free (wc := [(h6, .inr (1, [(gm 0), (gm 1), .ref h7])), (h7, .inl (cA, 4, .inl (fun _ => (-1))))]) hD hS hA [2, 3] rfl
  refine va_calli (va_runV (As := []) (rest := []) ⟨hx, hb, hml, hown, hts⟩ (c_writtenBits l dC dI h6 h7 cA gm s.heap.size) (cwV 0 hts (gV mw_3_27 mw_3_28 mw_3_29 mw_0_5 mw_20_14) rfl rfl rfl (by decide +kernel) ⟨(Nat.le_of_ble_eq_true rfl), (Nat.le_of_ble_eq_true rfl)⟩) (vV (ci := 1) (q0 := 0) hKc hPc hDc rfl rfl) rfl rfl hl.1 rfl (lv_room (Nat.le_of_ble_eq_true rfl)) dX10_count_52 ⟨(Nat.le_of_ble_eq_true rfl), (Nat.le_of_ble_eq_true rfl)⟩) hS (fun q _ h => hFc q h) hFc (fun r_1 u t H1 locs ht hvm hw hB hz1 hk1 hS => ?_)
  obtain ⟨hP1, hK1, hD1⟩ := hB
  rw [ht] at hP1
  have hK1 := va_K.moved hvm.symm hK1
  obtain ⟨hP, hD⟩ := va_join (wr := [(h0, .inr (10, [(g 0), .int 0, (g 2), .ref h3, (g 4), (g 5), .ref h6, (g 7), .ref h8, .ref h9, (g 10), (g 11), (g 12), (g 13), (g 14), (g 15)])), (h3, .inr (5, [.int 0, (ga 1), (ga 2), (ga 3), (ga 4), (ga 5), (ga 6), (ga 7), (ga 8), (ga 9), (ga 10), (ga 11), (ga 12), (ga 13), (ga 14), (ga 15), (ga 16)])), (h8, .inr (9, [(gw 0), .int 0, .int 0, .int 0])), (h9, .inr (7, [(gt 0), .int 0, (gt 2), (gt 3), (gt 4), (gt 5), (gt 6), (gt 7), (gt 8), (gt 9), (gt 10), (gt 11), (gt 12)]))]) (w1 := [(h6, .inr (1, [(gm 0), (gm 1), .ref h7])), (h7, .inl (cA, 4, .inl (fun _ => (-1))))]) hP hD [2, 3] [0, 1, 4, 5] rfl rfl (by decide) (by decide) hk1 hFc hP1 hD1
  clear hPc hDc hKc hP1 hK1 hD1 hFc hk1 hz1
  generalize H1 = H at hP hS ⊢
  have hP : va_P (dC, dI) vwCl [(h0, .inr (10, [(g 0), .int 0, (g 2), .ref h3, (g 4), (g 5), .ref h6, (g 7), .ref h8, .ref h9, (g 10), (g 11), (g 12), (g 13), (g 14), (g 15)])), (h3, .inr (5, [.int 0, (ga 1), (ga 2), (ga 3), (ga 4), (ga 5), (ga 6), (ga 7), (ga 8), (ga 9), (ga 10), (ga 11), (ga 12), (ga 13), (ga 14), (ga 15), (ga 16)])), (h8, .inr (9, [(gw 0), .int 0, .int 0, .int 0])), (h9, .inr (7, [(gt 0), .int 0, (gt 2), (gt 3), (gt 4), (gt 5), (gt 6), (gt 7), (gt 8), (gt 9), (gt 10), (gt 11), (gt 12)])), (h6, .inr (1, [(gm 0), (gm 1), .ref h7])), (h7, .inl (cA, 4, .inl (fun _ => (-1))))] H := hP
  have hD : va_D A [(h0, .inr (10, [(g 0), .int 0, (g 2), .ref h3, (g 4), (g 5), .ref h6, (g 7), .ref h8, .ref h9, (g 10), (g 11), (g 12), (g 13), (g 14), (g 15)])), (h3, .inr (5, [.int 0, (ga 1), (ga 2), (ga 3), (ga 4), (ga 5), (ga 6), (ga 7), (ga 8), (ga 9), (ga 10), (ga 11), (ga 12), (ga 13), (ga 14), (ga 15), (ga 16)])), (h8, .inr (9, [(gw 0), .int 0, .int 0, .int 0])), (h9, .inr (7, [(gt 0), .int 0, (gt 2), (gt 3), (gt 4), (gt 5), (gt 6), (gt 7), (gt 8), (gt 9), (gt 10), (gt 11), (gt 12)])), (h6, .inr (1, [(gm 0), (gm 1), .ref h7])), (h7, .inl (cA, 4, .inl (fun _ => (-1))))] := hD
  obtain rfl : r_1 = 0 := hw
  have hP9 := hP.sub (ws' := [(h0, .inr (10, [(g 0), .int 0, (g 2), .ref h3, (g 4), (g 5), .ref h6, (g 7), .ref h8, .ref h9, (g 10), (g 11), (g 12), (g 13), (g 14), (g 15)])), (h3, .inr (5, [.int 0, (ga 1), (ga 2), (ga 3), (ga 4), (ga 5), (ga 6), (ga 7), (ga 8), (ga 9), (ga 10), (ga 11), (ga 12), (ga 13), (ga 14), (ga 15), (ga 16)])), (h6, .inr (1, [(gm 0), (gm 1), .ref h7])), (h7, .inl (cA, 4, .inl (fun _ => (-1)))), (h8, .inr (9, [(gw 0), .int 0, .int 0, .int 0])), (h9, .inr (7, [(gt 0), .int 0, (gt 2), (gt 3), (gt 4), (gt 5), (gt 6), (gt 7), (gt 8), (gt 9), (gt 10), (gt 11), (gt 12)]))]) [0, 1, 4, 5, 2, 3] rfl
  have hD9 := hD.sub (ws' := [(h0, .inr (10, [(g 0), .int 0, (g 2), .ref h3, (g 4), (g 5), .ref h6, (g 7), .ref h8, .ref h9, (g 10), (g 11), (g 12), (g 13), (g 14), (g 15)])), (h3, .inr (5, [.int 0, (ga 1), (ga 2), (ga 3), (ga 4), (ga 5), (ga 6), (ga 7), (ga 8), (ga 9), (ga 10), (ga 11), (ga 12), (ga 13), (ga 14), (ga 15), (ga 16)])), (h6, .inr (1, [(gm 0), (gm 1), .ref h7])), (h7, .inl (cA, 4, .inl (fun _ => (-1)))), (h8, .inr (9, [(gw 0), .int 0, .int 0, .int 0])), (h9, .inr (7, [(gt 0), .int 0, (gt 2), (gt 3), (gt 4), (gt 5), (gt 6), (gt 7), (gt 8), (gt 9), (gt 10), (gt 11), (gt 12)]))]) [0, 1, 4, 5, 2, 3] (by decide) rfl
  have hK9 := hK.sub (tys' := [(cA, .int)]) [0] rfl
  refine W.widen (k := 0) (n := 0) (Nat.le_of_ble_eq_true rfl) (Nat.le_of_ble_eq_true rfl) ?_
  exact W.iret (v := 0) hx hb hr (fun t ht hW => ⟨⟨0, (), rfl, rfl, by rw [ht]; exact hP9, va_K.moved hW.alike hK9, hD9⟩, hS.F ht⟩) hS.2.2 dX10_count_55

set_option maxRecDepth 100000 in
set_option maxHeartbeats 4000000 in
theorem c_count2 (l : Launch) (dC : Nat → ClassId) (dI : Nat → Nat → Nat) (h0 : Nat) (h3 : Nat) (h6 : Nat) (h7 : Nat) (h8 : Nat) (h9 : Nat) (cA : ClassId) (g : Nat → Value) (ga : Nat → Value) (gm : Nat → Value) (gw : Nat → Value) (gt : Nat → Value) (sz : Nat) : Met l yX10_count (.code yX10_count cX10_count 2 (some .int) :: pw) ({ frames := 0, cells := 0, slots := 0, locals := 0 }) (va_Pc [.ref h0, .int 2] (vPre dC dI [(h0, .inr (10, [(g 0), .int 0, (g 2), .ref h3, (g 4), (g 5), .ref h6, (g 7), .ref h8, .ref h9, (g 10), (g 11), (g 12), (g 13), (g 14), (g 15)])), (h3, .inr (5, [.int 0, (ga 1), (ga 2), (ga 3), (ga 4), (ga 5), (ga 6), (ga 7), (ga 8), (ga 9), (ga 10), (ga 11), (ga 12), (ga 13), (ga 14), (ga 15), (ga 16)])), (h6, .inr (1, [(gm 0), (gm 1), .ref h7])), (h7, .inl (cA, 4, .inl (fun _ => (-1)))), (h8, .inr (9, [(gw 0), .int 0, .int 0, .int 0])), (h9, .inr (7, [(gt 0), .int 0, (gt 2), (gt 3), (gt 4), (gt 5), (gt 6), (gt 7), (gt 8), (gt 9), (gt 10), (gt 11), (gt 12)]))] [(cA, .int)] sz)) (va_Qi (fun (r : Int32) (_ : Unit) => r = 0) (fun (_ : Unit) t => vPst dC dI (va_A [(h0, .inr (10, [(g 0), .int 0, (g 2), .ref h3, (g 4), (g 5), .ref h6, (g 7), .ref h8, .ref h9, (g 10), (g 11), (g 12), (g 13), (g 14), (g 15)])), (h3, .inr (5, [.int 0, (ga 1), (ga 2), (ga 3), (ga 4), (ga 5), (ga 6), (ga 7), (ga 8), (ga 9), (ga 10), (ga 11), (ga 12), (ga 13), (ga 14), (ga 15), (ga 16)])), (h6, .inr (1, [(gm 0), (gm 1), .ref h7])), (h7, .inl (cA, 4, .inl (fun _ => (-1)))), (h8, .inr (9, [(gw 0), .int 0, .int 0, .int 0])), (h9, .inr (7, [(gt 0), .int 0, (gt 2), (gt 3), (gt 4), (gt 5), (gt 6), (gt 7), (gt 8), (gt 9), (gt 10), (gt 11), (gt 12)]))] sz) [(h0, .inr (10, [(g 0), .int 0, (g 2), .ref h3, (g 4), (g 5), .ref h6, (g 7), .ref h8, .ref h9, (g 10), (g 11), (g 12), (g 13), (g 14), (g 15)])), (h3, .inr (5, [.int 0, (ga 1), (ga 2), (ga 3), (ga 4), (ga 5), (ga 6), (ga 7), (ga 8), (ga 9), (ga 10), (ga 11), (ga 12), (ga 13), (ga 14), (ga 15), (ga 16)])), (h6, .inr (1, [(gm 0), (gm 1), .ref h7])), (h7, .inl (cA, 4, .inl (fun _ => (-1)))), (h8, .inr (9, [(gw 0), .int 0, .int 0, .int 0])), (h9, .inr (7, [(gt 0), .int 0, (gt 2), (gt 3), (gt 4), (gt 5), (gt 6), (gt 7), (gt 8), (gt 9), (gt 10), (gt 11), (gt 12)]))] [(cA, .int)] t) (va_A [(h0, .inr (10, [(g 0), .int 0, (g 2), .ref h3, (g 4), (g 5), .ref h6, (g 7), .ref h8, .ref h9, (g 10), (g 11), (g 12), (g 13), (g 14), (g 15)])), (h3, .inr (5, [.int 0, (ga 1), (ga 2), (ga 3), (ga 4), (ga 5), (ga 6), (ga 7), (ga 8), (ga 9), (ga 10), (ga 11), (ga 12), (ga 13), (ga 14), (ga 15), (ga 16)])), (h6, .inr (1, [(gm 0), (gm 1), .ref h7])), (h7, .inl (cA, 4, .inl (fun _ => (-1)))), (h8, .inr (9, [(gw 0), .int 0, .int 0, .int 0])), (h9, .inr (7, [(gt 0), .int 0, (gt 2), (gt 3), (gt 4), (gt 5), (gt 6), (gt 7), (gt 8), (gt 9), (gt 10), (gt 11), (gt 12)]))] sz)) 0 0 (va_A [(h0, .inr (10, [(g 0), .int 0, (g 2), .ref h3, (g 4), (g 5), .ref h6, (g 7), .ref h8, .ref h9, (g 10), (g 11), (g 12), (g 13), (g 14), (g 15)])), (h3, .inr (5, [.int 0, (ga 1), (ga 2), (ga 3), (ga 4), (ga 5), (ga 6), (ga 7), (ga 8), (ga 9), (ga 10), (ga 11), (ga 12), (ga 13), (ga 14), (ga 15), (ga 16)])), (h6, .inr (1, [(gm 0), (gm 1), .ref h7])), (h7, .inl (cA, 4, .inl (fun _ => (-1)))), (h8, .inr (9, [(gw 0), .int 0, .int 0, .int 0])), (h9, .inr (7, [(gt 0), .int 0, (gt 2), (gt 3), (gt 4), (gt 5), (gt 6), (gt 7), (gt 8), (gt 9), (gt 10), (gt 11), (gt 12)]))] sz) := by
  refine Met.ofW (cc := cX10_count) (maxL := 2) (ret := (some .int)) (by decide) rfl ?_
  intro p e s m args below meth c s₁ B hml hv
  obtain ⟨rfl, hsz, hP, hK, hD0⟩ := hv
  have hx := B.exec
  have hb := B.bytes
  have hr := B.returns
  have hts := atoms_spec (ws := .code yX10_count cX10_count 2 (some .int) :: pw) B.pre
  have hts : ∀ w ∈ pw, w.before _ s = true := fun w h => hts w (List.mem_cons_of_mem _ h)
  have hown : s.vm.findClass RX10 = some m.cls := findClass_of_methodNamed B.named
  have hlocks := B.notSynchronized
  subst hsz
  have hD := hD0.self (sz := s.heap.size)
  generalize hAe : va_A [(h0, .inr (10, [(g 0), .int 0, (g 2), .ref h3, (g 4), (g 5), .ref h6, (g 7), .ref h8, .ref h9, (g 10), (g 11), (g 12), (g 13), (g 14), (g 15)])), (h3, .inr (5, [.int 0, (ga 1), (ga 2), (ga 3), (ga 4), (ga 5), (ga 6), (ga 7), (ga 8), (ga 9), (ga 10), (ga 11), (ga 12), (ga 13), (ga 14), (ga 15), (ga 16)])), (h6, .inr (1, [(gm 0), (gm 1), .ref h7])), (h7, .inl (cA, 4, .inl (fun _ => (-1)))), (h8, .inr (9, [(gw 0), .int 0, .int 0, .int 0])), (h9, .inr (7, [(gt 0), .int 0, (gt 2), (gt 3), (gt 4), (gt 5), (gt 6), (gt 7), (gt 8), (gt 9), (gt 10), (gt 11), (gt 12)]))] s.heap.size = A at hD ⊢
  have hA : ∀ q : Nat, s.heap.size ≤ q → A q := fun q h => by rw [← hAe]; exact Or.inr h
  have hS : va_S A s.heap s.heap [] := va_S.rf
  have hP : va_P (dC, dI) vwCl [(h0, .inr (10, [(g 0), .int 0, (g 2), .ref h3, (g 4), (g 5), .ref h6, (g 7), .ref h8, .ref h9, (g 10), (g 11), (g 12), (g 13), (g 14), (g 15)])), (h3, .inr (5, [.int 0, (ga 1), (ga 2), (ga 3), (ga 4), (ga 5), (ga 6), (ga 7), (ga 8), (ga 9), (ga 10), (ga 11), (ga 12), (ga 13), (ga 14), (ga 15), (ga 16)])), (h6, .inr (1, [(gm 0), (gm 1), .ref h7])), (h7, .inl (cA, 4, .inl (fun _ => (-1)))), (h8, .inr (9, [(gw 0), .int 0, .int 0, .int 0])), (h9, .inr (7, [(gt 0), .int 0, (gt 2), (gt 3), (gt 4), (gt 5), (gt 6), (gt 7), (gt 8), (gt 9), (gt 10), (gt 11), (gt 12)]))] s.heap := hP
  have hl := lv_entry ([.ref h0, .int 2]) (n := 2) (Nat.le_of_ble_eq_true rfl)
  rw [lg_entry_eq]
  generalize (lg_sl ([.ref h0, .int 2]) ++ List.replicate (2 - (lg_sl ([.ref h0, .int 2])).length) Slot.unset).toArray = ls at hl ⊢
  have hl : lv_has ls 2 [(0, .ref h0), (1, .int 2)] := hl
  refine lv_iload_n hx hb dX10_count_0 rfl (lv_at hl 1 rfl) ?_
  refine lv_tableIn (off := 55) (tgt := 56) hx hb dX10_count_1 (by decide) (by decide) rfl (by decide) ?_
  refine lv_aload_n hx hb dX10_count_56 rfl (lv_at hl 0 rfl) ?_
  refine va_get (D := (dC, dI)) (ci := 10) (v := .ref h9) (C := RX10) (T := TX10) (N := 16) hx hb hts inlX10 hown hK hP 0 rfl rfl 9 (by decide) (hts (.fieldLink RX10 73 "ShapeReader" "shown" "LShapeReader$Tree;") mw_1_23) (fun _ h9 => h9) rfl dX10_count_57 ?_
  refine va_get (D := (dC, dI)) (ci := 7) (v := .int 0) (C := RX7) (T := TX7) (N := 13) hx hb hts inlX7 hown hK hP 5 rfl rfl 1 (by decide) (hts (.fieldLink RX10 305 "ShapeReader$Tree" "size" "I") mw_4_0) (fun _ h9 => h9) rfl dX10_count_60 ?_
  have hP9 := hP.sub (ws' := [(h0, .inr (10, [(g 0), .int 0, (g 2), .ref h3, (g 4), (g 5), .ref h6, (g 7), .ref h8, .ref h9, (g 10), (g 11), (g 12), (g 13), (g 14), (g 15)])), (h3, .inr (5, [.int 0, (ga 1), (ga 2), (ga 3), (ga 4), (ga 5), (ga 6), (ga 7), (ga 8), (ga 9), (ga 10), (ga 11), (ga 12), (ga 13), (ga 14), (ga 15), (ga 16)])), (h6, .inr (1, [(gm 0), (gm 1), .ref h7])), (h7, .inl (cA, 4, .inl (fun _ => (-1)))), (h8, .inr (9, [(gw 0), .int 0, .int 0, .int 0])), (h9, .inr (7, [(gt 0), .int 0, (gt 2), (gt 3), (gt 4), (gt 5), (gt 6), (gt 7), (gt 8), (gt 9), (gt 10), (gt 11), (gt 12)]))]) [0, 1, 2, 3, 4, 5] rfl
  have hD9 := hD.sub (ws' := [(h0, .inr (10, [(g 0), .int 0, (g 2), .ref h3, (g 4), (g 5), .ref h6, (g 7), .ref h8, .ref h9, (g 10), (g 11), (g 12), (g 13), (g 14), (g 15)])), (h3, .inr (5, [.int 0, (ga 1), (ga 2), (ga 3), (ga 4), (ga 5), (ga 6), (ga 7), (ga 8), (ga 9), (ga 10), (ga 11), (ga 12), (ga 13), (ga 14), (ga 15), (ga 16)])), (h6, .inr (1, [(gm 0), (gm 1), .ref h7])), (h7, .inl (cA, 4, .inl (fun _ => (-1)))), (h8, .inr (9, [(gw 0), .int 0, .int 0, .int 0])), (h9, .inr (7, [(gt 0), .int 0, (gt 2), (gt 3), (gt 4), (gt 5), (gt 6), (gt 7), (gt 8), (gt 9), (gt 10), (gt 11), (gt 12)]))]) [0, 1, 2, 3, 4, 5] (by decide) rfl
  have hK9 := hK.sub (tys' := [(cA, .int)]) [0] rfl
  refine W.widen (k := 0) (n := 0) (Nat.le_of_ble_eq_true rfl) (Nat.le_of_ble_eq_true rfl) ?_
  exact W.iret (v := 0) hx hb hr (fun t ht hW => ⟨⟨0, (), rfl, rfl, by rw [ht]; exact hP9, va_K.moved hW.alike hK9, hD9⟩, hS.F ht⟩) hS.2.2 dX10_count_63

set_option maxRecDepth 100000 in
set_option maxHeartbeats 4000000 in
theorem c_count3 (l : Launch) (dC : Nat → ClassId) (dI : Nat → Nat → Nat) (h0 : Nat) (h3 : Nat) (h6 : Nat) (h7 : Nat) (h8 : Nat) (h9 : Nat) (cA : ClassId) (g : Nat → Value) (ga : Nat → Value) (gm : Nat → Value) (gw : Nat → Value) (gt : Nat → Value) (sz : Nat) : Met l yX10_count (.code yX10_count cX10_count 2 (some .int) :: pw) ({ frames := 0, cells := 0, slots := 0, locals := 0 }) (va_Pc [.ref h0, .int 3] (vPre dC dI [(h0, .inr (10, [(g 0), .int 0, (g 2), .ref h3, (g 4), (g 5), .ref h6, (g 7), .ref h8, .ref h9, (g 10), (g 11), (g 12), (g 13), (g 14), (g 15)])), (h3, .inr (5, [.int 0, (ga 1), (ga 2), (ga 3), (ga 4), (ga 5), (ga 6), (ga 7), (ga 8), (ga 9), (ga 10), (ga 11), (ga 12), (ga 13), (ga 14), (ga 15), (ga 16)])), (h6, .inr (1, [(gm 0), (gm 1), .ref h7])), (h7, .inl (cA, 4, .inl (fun _ => (-1)))), (h8, .inr (9, [(gw 0), .int 0, .int 0, .int 0])), (h9, .inr (7, [(gt 0), .int 0, (gt 2), (gt 3), (gt 4), (gt 5), (gt 6), (gt 7), (gt 8), (gt 9), (gt 10), (gt 11), (gt 12)]))] [(cA, .int)] sz)) (va_Qi (fun (r : Int32) (_ : Unit) => r = 0) (fun (_ : Unit) t => vPst dC dI (va_A [(h0, .inr (10, [(g 0), .int 0, (g 2), .ref h3, (g 4), (g 5), .ref h6, (g 7), .ref h8, .ref h9, (g 10), (g 11), (g 12), (g 13), (g 14), (g 15)])), (h3, .inr (5, [.int 0, (ga 1), (ga 2), (ga 3), (ga 4), (ga 5), (ga 6), (ga 7), (ga 8), (ga 9), (ga 10), (ga 11), (ga 12), (ga 13), (ga 14), (ga 15), (ga 16)])), (h6, .inr (1, [(gm 0), (gm 1), .ref h7])), (h7, .inl (cA, 4, .inl (fun _ => (-1)))), (h8, .inr (9, [(gw 0), .int 0, .int 0, .int 0])), (h9, .inr (7, [(gt 0), .int 0, (gt 2), (gt 3), (gt 4), (gt 5), (gt 6), (gt 7), (gt 8), (gt 9), (gt 10), (gt 11), (gt 12)]))] sz) [(h0, .inr (10, [(g 0), .int 0, (g 2), .ref h3, (g 4), (g 5), .ref h6, (g 7), .ref h8, .ref h9, (g 10), (g 11), (g 12), (g 13), (g 14), (g 15)])), (h3, .inr (5, [.int 0, (ga 1), (ga 2), (ga 3), (ga 4), (ga 5), (ga 6), (ga 7), (ga 8), (ga 9), (ga 10), (ga 11), (ga 12), (ga 13), (ga 14), (ga 15), (ga 16)])), (h6, .inr (1, [(gm 0), (gm 1), .ref h7])), (h7, .inl (cA, 4, .inl (fun _ => (-1)))), (h8, .inr (9, [(gw 0), .int 0, .int 0, .int 0])), (h9, .inr (7, [(gt 0), .int 0, (gt 2), (gt 3), (gt 4), (gt 5), (gt 6), (gt 7), (gt 8), (gt 9), (gt 10), (gt 11), (gt 12)]))] [(cA, .int)] t) (va_A [(h0, .inr (10, [(g 0), .int 0, (g 2), .ref h3, (g 4), (g 5), .ref h6, (g 7), .ref h8, .ref h9, (g 10), (g 11), (g 12), (g 13), (g 14), (g 15)])), (h3, .inr (5, [.int 0, (ga 1), (ga 2), (ga 3), (ga 4), (ga 5), (ga 6), (ga 7), (ga 8), (ga 9), (ga 10), (ga 11), (ga 12), (ga 13), (ga 14), (ga 15), (ga 16)])), (h6, .inr (1, [(gm 0), (gm 1), .ref h7])), (h7, .inl (cA, 4, .inl (fun _ => (-1)))), (h8, .inr (9, [(gw 0), .int 0, .int 0, .int 0])), (h9, .inr (7, [(gt 0), .int 0, (gt 2), (gt 3), (gt 4), (gt 5), (gt 6), (gt 7), (gt 8), (gt 9), (gt 10), (gt 11), (gt 12)]))] sz)) 0 0 (va_A [(h0, .inr (10, [(g 0), .int 0, (g 2), .ref h3, (g 4), (g 5), .ref h6, (g 7), .ref h8, .ref h9, (g 10), (g 11), (g 12), (g 13), (g 14), (g 15)])), (h3, .inr (5, [.int 0, (ga 1), (ga 2), (ga 3), (ga 4), (ga 5), (ga 6), (ga 7), (ga 8), (ga 9), (ga 10), (ga 11), (ga 12), (ga 13), (ga 14), (ga 15), (ga 16)])), (h6, .inr (1, [(gm 0), (gm 1), .ref h7])), (h7, .inl (cA, 4, .inl (fun _ => (-1)))), (h8, .inr (9, [(gw 0), .int 0, .int 0, .int 0])), (h9, .inr (7, [(gt 0), .int 0, (gt 2), (gt 3), (gt 4), (gt 5), (gt 6), (gt 7), (gt 8), (gt 9), (gt 10), (gt 11), (gt 12)]))] sz) := by
  refine Met.ofW (cc := cX10_count) (maxL := 2) (ret := (some .int)) (by decide) rfl ?_
  intro p e s m args below meth c s₁ B hml hv
  obtain ⟨rfl, hsz, hP, hK, hD0⟩ := hv
  have hx := B.exec
  have hb := B.bytes
  have hr := B.returns
  have hts := atoms_spec (ws := .code yX10_count cX10_count 2 (some .int) :: pw) B.pre
  have hts : ∀ w ∈ pw, w.before _ s = true := fun w h => hts w (List.mem_cons_of_mem _ h)
  have hown : s.vm.findClass RX10 = some m.cls := findClass_of_methodNamed B.named
  have hlocks := B.notSynchronized
  subst hsz
  have hD := hD0.self (sz := s.heap.size)
  generalize hAe : va_A [(h0, .inr (10, [(g 0), .int 0, (g 2), .ref h3, (g 4), (g 5), .ref h6, (g 7), .ref h8, .ref h9, (g 10), (g 11), (g 12), (g 13), (g 14), (g 15)])), (h3, .inr (5, [.int 0, (ga 1), (ga 2), (ga 3), (ga 4), (ga 5), (ga 6), (ga 7), (ga 8), (ga 9), (ga 10), (ga 11), (ga 12), (ga 13), (ga 14), (ga 15), (ga 16)])), (h6, .inr (1, [(gm 0), (gm 1), .ref h7])), (h7, .inl (cA, 4, .inl (fun _ => (-1)))), (h8, .inr (9, [(gw 0), .int 0, .int 0, .int 0])), (h9, .inr (7, [(gt 0), .int 0, (gt 2), (gt 3), (gt 4), (gt 5), (gt 6), (gt 7), (gt 8), (gt 9), (gt 10), (gt 11), (gt 12)]))] s.heap.size = A at hD ⊢
  have hA : ∀ q : Nat, s.heap.size ≤ q → A q := fun q h => by rw [← hAe]; exact Or.inr h
  have hS : va_S A s.heap s.heap [] := va_S.rf
  have hP : va_P (dC, dI) vwCl [(h0, .inr (10, [(g 0), .int 0, (g 2), .ref h3, (g 4), (g 5), .ref h6, (g 7), .ref h8, .ref h9, (g 10), (g 11), (g 12), (g 13), (g 14), (g 15)])), (h3, .inr (5, [.int 0, (ga 1), (ga 2), (ga 3), (ga 4), (ga 5), (ga 6), (ga 7), (ga 8), (ga 9), (ga 10), (ga 11), (ga 12), (ga 13), (ga 14), (ga 15), (ga 16)])), (h6, .inr (1, [(gm 0), (gm 1), .ref h7])), (h7, .inl (cA, 4, .inl (fun _ => (-1)))), (h8, .inr (9, [(gw 0), .int 0, .int 0, .int 0])), (h9, .inr (7, [(gt 0), .int 0, (gt 2), (gt 3), (gt 4), (gt 5), (gt 6), (gt 7), (gt 8), (gt 9), (gt 10), (gt 11), (gt 12)]))] s.heap := hP
  have hl := lv_entry ([.ref h0, .int 3]) (n := 2) (Nat.le_of_ble_eq_true rfl)
  rw [lg_entry_eq]
  generalize (lg_sl ([.ref h0, .int 3]) ++ List.replicate (2 - (lg_sl ([.ref h0, .int 3])).length) Slot.unset).toArray = ls at hl ⊢
  have hl : lv_has ls 2 [(0, .ref h0), (1, .int 3)] := hl
  refine lv_iload_n hx hb dX10_count_0 rfl (lv_at hl 1 rfl) ?_
  refine lv_tableIn (off := 63) (tgt := 64) hx hb dX10_count_1 (by decide) (by decide) rfl (by decide) ?_
  refine lv_aload_n hx hb dX10_count_64 rfl (lv_at hl 0 rfl) ?_
  refine va_get (D := (dC, dI)) (ci := 10) (v := .ref h8) (C := RX10) (T := TX10) (N := 16) hx hb hts inlX10 hown hK hP 0 rfl rfl 8 (by decide) (hts (.fieldLink RX10 64 "ShapeReader" "ways" "LShapeReader$Ways;") mw_1_18) (fun _ h9 => h9) rfl dX10_count_65 ?_
  refine va_get (D := (dC, dI)) (ci := 9) (v := .int 0) (C := RX9) (T := TX9) (N := 4) hx hb hts inlX9 hown hK hP 4 rfl rfl 2 (by decide) (hts (.fieldLink RX10 306 "ShapeReader$Ways" "found" "I") mw_4_1) (fun _ h9 => h9) rfl dX10_count_68 ?_
  have hP9 := hP.sub (ws' := [(h0, .inr (10, [(g 0), .int 0, (g 2), .ref h3, (g 4), (g 5), .ref h6, (g 7), .ref h8, .ref h9, (g 10), (g 11), (g 12), (g 13), (g 14), (g 15)])), (h3, .inr (5, [.int 0, (ga 1), (ga 2), (ga 3), (ga 4), (ga 5), (ga 6), (ga 7), (ga 8), (ga 9), (ga 10), (ga 11), (ga 12), (ga 13), (ga 14), (ga 15), (ga 16)])), (h6, .inr (1, [(gm 0), (gm 1), .ref h7])), (h7, .inl (cA, 4, .inl (fun _ => (-1)))), (h8, .inr (9, [(gw 0), .int 0, .int 0, .int 0])), (h9, .inr (7, [(gt 0), .int 0, (gt 2), (gt 3), (gt 4), (gt 5), (gt 6), (gt 7), (gt 8), (gt 9), (gt 10), (gt 11), (gt 12)]))]) [0, 1, 2, 3, 4, 5] rfl
  have hD9 := hD.sub (ws' := [(h0, .inr (10, [(g 0), .int 0, (g 2), .ref h3, (g 4), (g 5), .ref h6, (g 7), .ref h8, .ref h9, (g 10), (g 11), (g 12), (g 13), (g 14), (g 15)])), (h3, .inr (5, [.int 0, (ga 1), (ga 2), (ga 3), (ga 4), (ga 5), (ga 6), (ga 7), (ga 8), (ga 9), (ga 10), (ga 11), (ga 12), (ga 13), (ga 14), (ga 15), (ga 16)])), (h6, .inr (1, [(gm 0), (gm 1), .ref h7])), (h7, .inl (cA, 4, .inl (fun _ => (-1)))), (h8, .inr (9, [(gw 0), .int 0, .int 0, .int 0])), (h9, .inr (7, [(gt 0), .int 0, (gt 2), (gt 3), (gt 4), (gt 5), (gt 6), (gt 7), (gt 8), (gt 9), (gt 10), (gt 11), (gt 12)]))]) [0, 1, 2, 3, 4, 5] (by decide) rfl
  have hK9 := hK.sub (tys' := [(cA, .int)]) [0] rfl
  refine W.widen (k := 0) (n := 0) (Nat.le_of_ble_eq_true rfl) (Nat.le_of_ble_eq_true rfl) ?_
  exact W.iret (v := 0) hx hb hr (fun t ht hW => ⟨⟨0, (), rfl, rfl, by rw [ht]; exact hP9, va_K.moved hW.alike hK9, hD9⟩, hS.F ht⟩) hS.2.2 dX10_count_71

set_option maxRecDepth 100000 in
set_option maxHeartbeats 4000000 in
theorem c_count4 (l : Launch) (dC : Nat → ClassId) (dI : Nat → Nat → Nat) (h0 : Nat) (h3 : Nat) (h6 : Nat) (h7 : Nat) (h8 : Nat) (h9 : Nat) (cA : ClassId) (g : Nat → Value) (ga : Nat → Value) (gm : Nat → Value) (gw : Nat → Value) (gt : Nat → Value) (sz : Nat) : Met l yX10_count (.code yX10_count cX10_count 2 (some .int) :: pw) ({ frames := 0, cells := 0, slots := 0, locals := 0 }) (va_Pc [.ref h0, .int 4] (vPre dC dI [(h0, .inr (10, [(g 0), .int 0, (g 2), .ref h3, (g 4), (g 5), .ref h6, (g 7), .ref h8, .ref h9, (g 10), (g 11), (g 12), (g 13), (g 14), (g 15)])), (h3, .inr (5, [.int 0, (ga 1), (ga 2), (ga 3), (ga 4), (ga 5), (ga 6), (ga 7), (ga 8), (ga 9), (ga 10), (ga 11), (ga 12), (ga 13), (ga 14), (ga 15), (ga 16)])), (h6, .inr (1, [(gm 0), (gm 1), .ref h7])), (h7, .inl (cA, 4, .inl (fun _ => (-1)))), (h8, .inr (9, [(gw 0), .int 0, .int 0, .int 0])), (h9, .inr (7, [(gt 0), .int 0, (gt 2), (gt 3), (gt 4), (gt 5), (gt 6), (gt 7), (gt 8), (gt 9), (gt 10), (gt 11), (gt 12)]))] [(cA, .int)] sz)) (va_Qi (fun (r : Int32) (_ : Unit) => r = 0) (fun (_ : Unit) t => vPst dC dI (va_A [(h0, .inr (10, [(g 0), .int 0, (g 2), .ref h3, (g 4), (g 5), .ref h6, (g 7), .ref h8, .ref h9, (g 10), (g 11), (g 12), (g 13), (g 14), (g 15)])), (h3, .inr (5, [.int 0, (ga 1), (ga 2), (ga 3), (ga 4), (ga 5), (ga 6), (ga 7), (ga 8), (ga 9), (ga 10), (ga 11), (ga 12), (ga 13), (ga 14), (ga 15), (ga 16)])), (h6, .inr (1, [(gm 0), (gm 1), .ref h7])), (h7, .inl (cA, 4, .inl (fun _ => (-1)))), (h8, .inr (9, [(gw 0), .int 0, .int 0, .int 0])), (h9, .inr (7, [(gt 0), .int 0, (gt 2), (gt 3), (gt 4), (gt 5), (gt 6), (gt 7), (gt 8), (gt 9), (gt 10), (gt 11), (gt 12)]))] sz) [(h0, .inr (10, [(g 0), .int 0, (g 2), .ref h3, (g 4), (g 5), .ref h6, (g 7), .ref h8, .ref h9, (g 10), (g 11), (g 12), (g 13), (g 14), (g 15)])), (h3, .inr (5, [.int 0, (ga 1), (ga 2), (ga 3), (ga 4), (ga 5), (ga 6), (ga 7), (ga 8), (ga 9), (ga 10), (ga 11), (ga 12), (ga 13), (ga 14), (ga 15), (ga 16)])), (h6, .inr (1, [(gm 0), (gm 1), .ref h7])), (h7, .inl (cA, 4, .inl (fun _ => (-1)))), (h8, .inr (9, [(gw 0), .int 0, .int 0, .int 0])), (h9, .inr (7, [(gt 0), .int 0, (gt 2), (gt 3), (gt 4), (gt 5), (gt 6), (gt 7), (gt 8), (gt 9), (gt 10), (gt 11), (gt 12)]))] [(cA, .int)] t) (va_A [(h0, .inr (10, [(g 0), .int 0, (g 2), .ref h3, (g 4), (g 5), .ref h6, (g 7), .ref h8, .ref h9, (g 10), (g 11), (g 12), (g 13), (g 14), (g 15)])), (h3, .inr (5, [.int 0, (ga 1), (ga 2), (ga 3), (ga 4), (ga 5), (ga 6), (ga 7), (ga 8), (ga 9), (ga 10), (ga 11), (ga 12), (ga 13), (ga 14), (ga 15), (ga 16)])), (h6, .inr (1, [(gm 0), (gm 1), .ref h7])), (h7, .inl (cA, 4, .inl (fun _ => (-1)))), (h8, .inr (9, [(gw 0), .int 0, .int 0, .int 0])), (h9, .inr (7, [(gt 0), .int 0, (gt 2), (gt 3), (gt 4), (gt 5), (gt 6), (gt 7), (gt 8), (gt 9), (gt 10), (gt 11), (gt 12)]))] sz)) 0 0 (va_A [(h0, .inr (10, [(g 0), .int 0, (g 2), .ref h3, (g 4), (g 5), .ref h6, (g 7), .ref h8, .ref h9, (g 10), (g 11), (g 12), (g 13), (g 14), (g 15)])), (h3, .inr (5, [.int 0, (ga 1), (ga 2), (ga 3), (ga 4), (ga 5), (ga 6), (ga 7), (ga 8), (ga 9), (ga 10), (ga 11), (ga 12), (ga 13), (ga 14), (ga 15), (ga 16)])), (h6, .inr (1, [(gm 0), (gm 1), .ref h7])), (h7, .inl (cA, 4, .inl (fun _ => (-1)))), (h8, .inr (9, [(gw 0), .int 0, .int 0, .int 0])), (h9, .inr (7, [(gt 0), .int 0, (gt 2), (gt 3), (gt 4), (gt 5), (gt 6), (gt 7), (gt 8), (gt 9), (gt 10), (gt 11), (gt 12)]))] sz) := by
  refine Met.ofW (cc := cX10_count) (maxL := 2) (ret := (some .int)) (by decide) rfl ?_
  intro p e s m args below meth c s₁ B hml hv
  obtain ⟨rfl, hsz, hP, hK, hD0⟩ := hv
  have hx := B.exec
  have hb := B.bytes
  have hr := B.returns
  have hts := atoms_spec (ws := .code yX10_count cX10_count 2 (some .int) :: pw) B.pre
  have hts : ∀ w ∈ pw, w.before _ s = true := fun w h => hts w (List.mem_cons_of_mem _ h)
  have hown : s.vm.findClass RX10 = some m.cls := findClass_of_methodNamed B.named
  have hlocks := B.notSynchronized
  subst hsz
  have hD := hD0.self (sz := s.heap.size)
  generalize hAe : va_A [(h0, .inr (10, [(g 0), .int 0, (g 2), .ref h3, (g 4), (g 5), .ref h6, (g 7), .ref h8, .ref h9, (g 10), (g 11), (g 12), (g 13), (g 14), (g 15)])), (h3, .inr (5, [.int 0, (ga 1), (ga 2), (ga 3), (ga 4), (ga 5), (ga 6), (ga 7), (ga 8), (ga 9), (ga 10), (ga 11), (ga 12), (ga 13), (ga 14), (ga 15), (ga 16)])), (h6, .inr (1, [(gm 0), (gm 1), .ref h7])), (h7, .inl (cA, 4, .inl (fun _ => (-1)))), (h8, .inr (9, [(gw 0), .int 0, .int 0, .int 0])), (h9, .inr (7, [(gt 0), .int 0, (gt 2), (gt 3), (gt 4), (gt 5), (gt 6), (gt 7), (gt 8), (gt 9), (gt 10), (gt 11), (gt 12)]))] s.heap.size = A at hD ⊢
  have hA : ∀ q : Nat, s.heap.size ≤ q → A q := fun q h => by rw [← hAe]; exact Or.inr h
  have hS : va_S A s.heap s.heap [] := va_S.rf
  have hP : va_P (dC, dI) vwCl [(h0, .inr (10, [(g 0), .int 0, (g 2), .ref h3, (g 4), (g 5), .ref h6, (g 7), .ref h8, .ref h9, (g 10), (g 11), (g 12), (g 13), (g 14), (g 15)])), (h3, .inr (5, [.int 0, (ga 1), (ga 2), (ga 3), (ga 4), (ga 5), (ga 6), (ga 7), (ga 8), (ga 9), (ga 10), (ga 11), (ga 12), (ga 13), (ga 14), (ga 15), (ga 16)])), (h6, .inr (1, [(gm 0), (gm 1), .ref h7])), (h7, .inl (cA, 4, .inl (fun _ => (-1)))), (h8, .inr (9, [(gw 0), .int 0, .int 0, .int 0])), (h9, .inr (7, [(gt 0), .int 0, (gt 2), (gt 3), (gt 4), (gt 5), (gt 6), (gt 7), (gt 8), (gt 9), (gt 10), (gt 11), (gt 12)]))] s.heap := hP
  have hl := lv_entry ([.ref h0, .int 4]) (n := 2) (Nat.le_of_ble_eq_true rfl)
  rw [lg_entry_eq]
  generalize (lg_sl ([.ref h0, .int 4]) ++ List.replicate (2 - (lg_sl ([.ref h0, .int 4])).length) Slot.unset).toArray = ls at hl ⊢
  have hl : lv_has ls 2 [(0, .ref h0), (1, .int 4)] := hl
  refine lv_iload_n hx hb dX10_count_0 rfl (lv_at hl 1 rfl) ?_
  refine lv_tableIn (off := 71) (tgt := 72) hx hb dX10_count_1 (by decide) (by decide) rfl (by decide) ?_
  refine lv_aload_n hx hb dX10_count_72 rfl (lv_at hl 0 rfl) ?_
  refine va_get (D := (dC, dI)) (ci := 10) (v := .ref h8) (C := RX10) (T := TX10) (N := 16) hx hb hts inlX10 hown hK hP 0 rfl rfl 8 (by decide) (hts (.fieldLink RX10 64 "ShapeReader" "ways" "LShapeReader$Ways;") mw_1_18) (fun _ h9 => h9) rfl dX10_count_73 ?_
  refine va_get (D := (dC, dI)) (ci := 9) (v := .int 0) (C := RX9) (T := TX9) (N := 4) hx hb hts inlX9 hown hK hP 4 rfl rfl 3 (by decide) (hts (.fieldLink RX10 309 "ShapeReader$Ways" "notFound" "I") mw_4_2) (fun _ h9 => h9) rfl dX10_count_76 ?_
  have hP9 := hP.sub (ws' := [(h0, .inr (10, [(g 0), .int 0, (g 2), .ref h3, (g 4), (g 5), .ref h6, (g 7), .ref h8, .ref h9, (g 10), (g 11), (g 12), (g 13), (g 14), (g 15)])), (h3, .inr (5, [.int 0, (ga 1), (ga 2), (ga 3), (ga 4), (ga 5), (ga 6), (ga 7), (ga 8), (ga 9), (ga 10), (ga 11), (ga 12), (ga 13), (ga 14), (ga 15), (ga 16)])), (h6, .inr (1, [(gm 0), (gm 1), .ref h7])), (h7, .inl (cA, 4, .inl (fun _ => (-1)))), (h8, .inr (9, [(gw 0), .int 0, .int 0, .int 0])), (h9, .inr (7, [(gt 0), .int 0, (gt 2), (gt 3), (gt 4), (gt 5), (gt 6), (gt 7), (gt 8), (gt 9), (gt 10), (gt 11), (gt 12)]))]) [0, 1, 2, 3, 4, 5] rfl
  have hD9 := hD.sub (ws' := [(h0, .inr (10, [(g 0), .int 0, (g 2), .ref h3, (g 4), (g 5), .ref h6, (g 7), .ref h8, .ref h9, (g 10), (g 11), (g 12), (g 13), (g 14), (g 15)])), (h3, .inr (5, [.int 0, (ga 1), (ga 2), (ga 3), (ga 4), (ga 5), (ga 6), (ga 7), (ga 8), (ga 9), (ga 10), (ga 11), (ga 12), (ga 13), (ga 14), (ga 15), (ga 16)])), (h6, .inr (1, [(gm 0), (gm 1), .ref h7])), (h7, .inl (cA, 4, .inl (fun _ => (-1)))), (h8, .inr (9, [(gw 0), .int 0, .int 0, .int 0])), (h9, .inr (7, [(gt 0), .int 0, (gt 2), (gt 3), (gt 4), (gt 5), (gt 6), (gt 7), (gt 8), (gt 9), (gt 10), (gt 11), (gt 12)]))]) [0, 1, 2, 3, 4, 5] (by decide) rfl
  have hK9 := hK.sub (tys' := [(cA, .int)]) [0] rfl
  refine W.widen (k := 0) (n := 0) (Nat.le_of_ble_eq_true rfl) (Nat.le_of_ble_eq_true rfl) ?_
  exact W.iret (v := 0) hx hb hr (fun t ht hW => ⟨⟨0, (), rfl, rfl, by rw [ht]; exact hP9, va_K.moved hW.alike hK9, hD9⟩, hS.F ht⟩) hS.2.2 dX10_count_79

set_option maxRecDepth 100000 in
set_option maxHeartbeats 4000000 in
theorem c_count5 (l : Launch) (dC : Nat → ClassId) (dI : Nat → Nat → Nat) (h0 : Nat) (h3 : Nat) (h6 : Nat) (h7 : Nat) (h8 : Nat) (h9 : Nat) (cA : ClassId) (g : Nat → Value) (ga : Nat → Value) (gm : Nat → Value) (gw : Nat → Value) (gt : Nat → Value) (sz : Nat) : Met l yX10_count (.code yX10_count cX10_count 2 (some .int) :: pw) ({ frames := 0, cells := 0, slots := 0, locals := 0 }) (va_Pc [.ref h0, .int 5] (vPre dC dI [(h0, .inr (10, [(g 0), .int 0, (g 2), .ref h3, (g 4), (g 5), .ref h6, (g 7), .ref h8, .ref h9, (g 10), (g 11), (g 12), (g 13), (g 14), (g 15)])), (h3, .inr (5, [.int 0, (ga 1), (ga 2), (ga 3), (ga 4), (ga 5), (ga 6), (ga 7), (ga 8), (ga 9), (ga 10), (ga 11), (ga 12), (ga 13), (ga 14), (ga 15), (ga 16)])), (h6, .inr (1, [(gm 0), (gm 1), .ref h7])), (h7, .inl (cA, 4, .inl (fun _ => (-1)))), (h8, .inr (9, [(gw 0), .int 0, .int 0, .int 0])), (h9, .inr (7, [(gt 0), .int 0, (gt 2), (gt 3), (gt 4), (gt 5), (gt 6), (gt 7), (gt 8), (gt 9), (gt 10), (gt 11), (gt 12)]))] [(cA, .int)] sz)) (va_Qi (fun (r : Int32) (_ : Unit) => r = 0) (fun (_ : Unit) t => vPst dC dI (va_A [(h0, .inr (10, [(g 0), .int 0, (g 2), .ref h3, (g 4), (g 5), .ref h6, (g 7), .ref h8, .ref h9, (g 10), (g 11), (g 12), (g 13), (g 14), (g 15)])), (h3, .inr (5, [.int 0, (ga 1), (ga 2), (ga 3), (ga 4), (ga 5), (ga 6), (ga 7), (ga 8), (ga 9), (ga 10), (ga 11), (ga 12), (ga 13), (ga 14), (ga 15), (ga 16)])), (h6, .inr (1, [(gm 0), (gm 1), .ref h7])), (h7, .inl (cA, 4, .inl (fun _ => (-1)))), (h8, .inr (9, [(gw 0), .int 0, .int 0, .int 0])), (h9, .inr (7, [(gt 0), .int 0, (gt 2), (gt 3), (gt 4), (gt 5), (gt 6), (gt 7), (gt 8), (gt 9), (gt 10), (gt 11), (gt 12)]))] sz) [(h0, .inr (10, [(g 0), .int 0, (g 2), .ref h3, (g 4), (g 5), .ref h6, (g 7), .ref h8, .ref h9, (g 10), (g 11), (g 12), (g 13), (g 14), (g 15)])), (h3, .inr (5, [.int 0, (ga 1), (ga 2), (ga 3), (ga 4), (ga 5), (ga 6), (ga 7), (ga 8), (ga 9), (ga 10), (ga 11), (ga 12), (ga 13), (ga 14), (ga 15), (ga 16)])), (h6, .inr (1, [(gm 0), (gm 1), .ref h7])), (h7, .inl (cA, 4, .inl (fun _ => (-1)))), (h8, .inr (9, [(gw 0), .int 0, .int 0, .int 0])), (h9, .inr (7, [(gt 0), .int 0, (gt 2), (gt 3), (gt 4), (gt 5), (gt 6), (gt 7), (gt 8), (gt 9), (gt 10), (gt 11), (gt 12)]))] [(cA, .int)] t) (va_A [(h0, .inr (10, [(g 0), .int 0, (g 2), .ref h3, (g 4), (g 5), .ref h6, (g 7), .ref h8, .ref h9, (g 10), (g 11), (g 12), (g 13), (g 14), (g 15)])), (h3, .inr (5, [.int 0, (ga 1), (ga 2), (ga 3), (ga 4), (ga 5), (ga 6), (ga 7), (ga 8), (ga 9), (ga 10), (ga 11), (ga 12), (ga 13), (ga 14), (ga 15), (ga 16)])), (h6, .inr (1, [(gm 0), (gm 1), .ref h7])), (h7, .inl (cA, 4, .inl (fun _ => (-1)))), (h8, .inr (9, [(gw 0), .int 0, .int 0, .int 0])), (h9, .inr (7, [(gt 0), .int 0, (gt 2), (gt 3), (gt 4), (gt 5), (gt 6), (gt 7), (gt 8), (gt 9), (gt 10), (gt 11), (gt 12)]))] sz)) 0 0 (va_A [(h0, .inr (10, [(g 0), .int 0, (g 2), .ref h3, (g 4), (g 5), .ref h6, (g 7), .ref h8, .ref h9, (g 10), (g 11), (g 12), (g 13), (g 14), (g 15)])), (h3, .inr (5, [.int 0, (ga 1), (ga 2), (ga 3), (ga 4), (ga 5), (ga 6), (ga 7), (ga 8), (ga 9), (ga 10), (ga 11), (ga 12), (ga 13), (ga 14), (ga 15), (ga 16)])), (h6, .inr (1, [(gm 0), (gm 1), .ref h7])), (h7, .inl (cA, 4, .inl (fun _ => (-1)))), (h8, .inr (9, [(gw 0), .int 0, .int 0, .int 0])), (h9, .inr (7, [(gt 0), .int 0, (gt 2), (gt 3), (gt 4), (gt 5), (gt 6), (gt 7), (gt 8), (gt 9), (gt 10), (gt 11), (gt 12)]))] sz) := by
  refine Met.ofW (cc := cX10_count) (maxL := 2) (ret := (some .int)) (by decide) rfl ?_
  intro p e s m args below meth c s₁ B hml hv
  obtain ⟨rfl, hsz, hP, hK, hD0⟩ := hv
  have hx := B.exec
  have hb := B.bytes
  have hr := B.returns
  have hts := atoms_spec (ws := .code yX10_count cX10_count 2 (some .int) :: pw) B.pre
  have hts : ∀ w ∈ pw, w.before _ s = true := fun w h => hts w (List.mem_cons_of_mem _ h)
  have hown : s.vm.findClass RX10 = some m.cls := findClass_of_methodNamed B.named
  have hlocks := B.notSynchronized
  subst hsz
  have hD := hD0.self (sz := s.heap.size)
  generalize hAe : va_A [(h0, .inr (10, [(g 0), .int 0, (g 2), .ref h3, (g 4), (g 5), .ref h6, (g 7), .ref h8, .ref h9, (g 10), (g 11), (g 12), (g 13), (g 14), (g 15)])), (h3, .inr (5, [.int 0, (ga 1), (ga 2), (ga 3), (ga 4), (ga 5), (ga 6), (ga 7), (ga 8), (ga 9), (ga 10), (ga 11), (ga 12), (ga 13), (ga 14), (ga 15), (ga 16)])), (h6, .inr (1, [(gm 0), (gm 1), .ref h7])), (h7, .inl (cA, 4, .inl (fun _ => (-1)))), (h8, .inr (9, [(gw 0), .int 0, .int 0, .int 0])), (h9, .inr (7, [(gt 0), .int 0, (gt 2), (gt 3), (gt 4), (gt 5), (gt 6), (gt 7), (gt 8), (gt 9), (gt 10), (gt 11), (gt 12)]))] s.heap.size = A at hD ⊢
  have hA : ∀ q : Nat, s.heap.size ≤ q → A q := fun q h => by rw [← hAe]; exact Or.inr h
  have hS : va_S A s.heap s.heap [] := va_S.rf
  have hP : va_P (dC, dI) vwCl [(h0, .inr (10, [(g 0), .int 0, (g 2), .ref h3, (g 4), (g 5), .ref h6, (g 7), .ref h8, .ref h9, (g 10), (g 11), (g 12), (g 13), (g 14), (g 15)])), (h3, .inr (5, [.int 0, (ga 1), (ga 2), (ga 3), (ga 4), (ga 5), (ga 6), (ga 7), (ga 8), (ga 9), (ga 10), (ga 11), (ga 12), (ga 13), (ga 14), (ga 15), (ga 16)])), (h6, .inr (1, [(gm 0), (gm 1), .ref h7])), (h7, .inl (cA, 4, .inl (fun _ => (-1)))), (h8, .inr (9, [(gw 0), .int 0, .int 0, .int 0])), (h9, .inr (7, [(gt 0), .int 0, (gt 2), (gt 3), (gt 4), (gt 5), (gt 6), (gt 7), (gt 8), (gt 9), (gt 10), (gt 11), (gt 12)]))] s.heap := hP
  have hl := lv_entry ([.ref h0, .int 5]) (n := 2) (Nat.le_of_ble_eq_true rfl)
  rw [lg_entry_eq]
  generalize (lg_sl ([.ref h0, .int 5]) ++ List.replicate (2 - (lg_sl ([.ref h0, .int 5])).length) Slot.unset).toArray = ls at hl ⊢
  have hl : lv_has ls 2 [(0, .ref h0), (1, .int 5)] := hl
  refine lv_iload_n hx hb dX10_count_0 rfl (lv_at hl 1 rfl) ?_
  refine lv_tableIn (off := 79) (tgt := 80) hx hb dX10_count_1 (by decide) (by decide) rfl (by decide) ?_
  refine lv_aload_n hx hb dX10_count_80 rfl (lv_at hl 0 rfl) ?_
  refine va_get (D := (dC, dI)) (ci := 10) (v := .int 0) (C := RX10) (T := TX10) (N := 16) hx hb hts inlX10 hown hK hP 0 rfl rfl 1 (by decide) (hts (.fieldLink RX10 13 "ShapeReader" "tapeSize" "I") mw_0_19) (fun _ h9 => h9) rfl dX10_count_81 ?_
  have hP9 := hP.sub (ws' := [(h0, .inr (10, [(g 0), .int 0, (g 2), .ref h3, (g 4), (g 5), .ref h6, (g 7), .ref h8, .ref h9, (g 10), (g 11), (g 12), (g 13), (g 14), (g 15)])), (h3, .inr (5, [.int 0, (ga 1), (ga 2), (ga 3), (ga 4), (ga 5), (ga 6), (ga 7), (ga 8), (ga 9), (ga 10), (ga 11), (ga 12), (ga 13), (ga 14), (ga 15), (ga 16)])), (h6, .inr (1, [(gm 0), (gm 1), .ref h7])), (h7, .inl (cA, 4, .inl (fun _ => (-1)))), (h8, .inr (9, [(gw 0), .int 0, .int 0, .int 0])), (h9, .inr (7, [(gt 0), .int 0, (gt 2), (gt 3), (gt 4), (gt 5), (gt 6), (gt 7), (gt 8), (gt 9), (gt 10), (gt 11), (gt 12)]))]) [0, 1, 2, 3, 4, 5] rfl
  have hD9 := hD.sub (ws' := [(h0, .inr (10, [(g 0), .int 0, (g 2), .ref h3, (g 4), (g 5), .ref h6, (g 7), .ref h8, .ref h9, (g 10), (g 11), (g 12), (g 13), (g 14), (g 15)])), (h3, .inr (5, [.int 0, (ga 1), (ga 2), (ga 3), (ga 4), (ga 5), (ga 6), (ga 7), (ga 8), (ga 9), (ga 10), (ga 11), (ga 12), (ga 13), (ga 14), (ga 15), (ga 16)])), (h6, .inr (1, [(gm 0), (gm 1), .ref h7])), (h7, .inl (cA, 4, .inl (fun _ => (-1)))), (h8, .inr (9, [(gw 0), .int 0, .int 0, .int 0])), (h9, .inr (7, [(gt 0), .int 0, (gt 2), (gt 3), (gt 4), (gt 5), (gt 6), (gt 7), (gt 8), (gt 9), (gt 10), (gt 11), (gt 12)]))]) [0, 1, 2, 3, 4, 5] (by decide) rfl
  have hK9 := hK.sub (tys' := [(cA, .int)]) [0] rfl
  refine W.widen (k := 0) (n := 0) (Nat.le_of_ble_eq_true rfl) (Nat.le_of_ble_eq_true rfl) ?_
  exact W.iret (v := 0) hx hb hr (fun t ht hW => ⟨⟨0, (), rfl, rfl, by rw [ht]; exact hP9, va_K.moved hW.alike hK9, hD9⟩, hS.F ht⟩) hS.2.2 dX10_count_84

set_option maxRecDepth 100000 in
set_option maxHeartbeats 4000000 in
theorem c_countX (l : Launch) (dC : Nat → ClassId) (dI : Nat → Nat → Nat) (h0 : Nat) (h3 : Nat) (h6 : Nat) (h7 : Nat) (h8 : Nat) (h9 : Nat) (cA : ClassId) (g : Nat → Value) (ga : Nat → Value) (gm : Nat → Value) (gw : Nat → Value) (gt : Nat → Value) (p0 : Int32) (hp : p0.toInt < 0 ∨ 5 < p0.toInt) (sz : Nat) : Met l yX10_count (.code yX10_count cX10_count 2 (some .int) :: pw) ({ frames := 0, cells := 0, slots := 0, locals := 0 }) (va_Pc [.ref h0, .int p0] (vPre dC dI [(h0, .inr (10, [(g 0), .int 0, (g 2), .ref h3, (g 4), (g 5), .ref h6, (g 7), .ref h8, .ref h9, (g 10), (g 11), (g 12), (g 13), (g 14), (g 15)])), (h3, .inr (5, [.int 0, (ga 1), (ga 2), (ga 3), (ga 4), (ga 5), (ga 6), (ga 7), (ga 8), (ga 9), (ga 10), (ga 11), (ga 12), (ga 13), (ga 14), (ga 15), (ga 16)])), (h6, .inr (1, [(gm 0), (gm 1), .ref h7])), (h7, .inl (cA, 4, .inl (fun _ => (-1)))), (h8, .inr (9, [(gw 0), .int 0, .int 0, .int 0])), (h9, .inr (7, [(gt 0), .int 0, (gt 2), (gt 3), (gt 4), (gt 5), (gt 6), (gt 7), (gt 8), (gt 9), (gt 10), (gt 11), (gt 12)]))] [(cA, .int)] sz)) (va_Qi (fun (r : Int32) (_ : Unit) => r = (-1)) (fun (_ : Unit) t => vPst dC dI (va_A [(h0, .inr (10, [(g 0), .int 0, (g 2), .ref h3, (g 4), (g 5), .ref h6, (g 7), .ref h8, .ref h9, (g 10), (g 11), (g 12), (g 13), (g 14), (g 15)])), (h3, .inr (5, [.int 0, (ga 1), (ga 2), (ga 3), (ga 4), (ga 5), (ga 6), (ga 7), (ga 8), (ga 9), (ga 10), (ga 11), (ga 12), (ga 13), (ga 14), (ga 15), (ga 16)])), (h6, .inr (1, [(gm 0), (gm 1), .ref h7])), (h7, .inl (cA, 4, .inl (fun _ => (-1)))), (h8, .inr (9, [(gw 0), .int 0, .int 0, .int 0])), (h9, .inr (7, [(gt 0), .int 0, (gt 2), (gt 3), (gt 4), (gt 5), (gt 6), (gt 7), (gt 8), (gt 9), (gt 10), (gt 11), (gt 12)]))] sz) [(h0, .inr (10, [(g 0), .int 0, (g 2), .ref h3, (g 4), (g 5), .ref h6, (g 7), .ref h8, .ref h9, (g 10), (g 11), (g 12), (g 13), (g 14), (g 15)])), (h3, .inr (5, [.int 0, (ga 1), (ga 2), (ga 3), (ga 4), (ga 5), (ga 6), (ga 7), (ga 8), (ga 9), (ga 10), (ga 11), (ga 12), (ga 13), (ga 14), (ga 15), (ga 16)])), (h6, .inr (1, [(gm 0), (gm 1), .ref h7])), (h7, .inl (cA, 4, .inl (fun _ => (-1)))), (h8, .inr (9, [(gw 0), .int 0, .int 0, .int 0])), (h9, .inr (7, [(gt 0), .int 0, (gt 2), (gt 3), (gt 4), (gt 5), (gt 6), (gt 7), (gt 8), (gt 9), (gt 10), (gt 11), (gt 12)]))] [(cA, .int)] t) (va_A [(h0, .inr (10, [(g 0), .int 0, (g 2), .ref h3, (g 4), (g 5), .ref h6, (g 7), .ref h8, .ref h9, (g 10), (g 11), (g 12), (g 13), (g 14), (g 15)])), (h3, .inr (5, [.int 0, (ga 1), (ga 2), (ga 3), (ga 4), (ga 5), (ga 6), (ga 7), (ga 8), (ga 9), (ga 10), (ga 11), (ga 12), (ga 13), (ga 14), (ga 15), (ga 16)])), (h6, .inr (1, [(gm 0), (gm 1), .ref h7])), (h7, .inl (cA, 4, .inl (fun _ => (-1)))), (h8, .inr (9, [(gw 0), .int 0, .int 0, .int 0])), (h9, .inr (7, [(gt 0), .int 0, (gt 2), (gt 3), (gt 4), (gt 5), (gt 6), (gt 7), (gt 8), (gt 9), (gt 10), (gt 11), (gt 12)]))] sz)) 0 0 (va_A [(h0, .inr (10, [(g 0), .int 0, (g 2), .ref h3, (g 4), (g 5), .ref h6, (g 7), .ref h8, .ref h9, (g 10), (g 11), (g 12), (g 13), (g 14), (g 15)])), (h3, .inr (5, [.int 0, (ga 1), (ga 2), (ga 3), (ga 4), (ga 5), (ga 6), (ga 7), (ga 8), (ga 9), (ga 10), (ga 11), (ga 12), (ga 13), (ga 14), (ga 15), (ga 16)])), (h6, .inr (1, [(gm 0), (gm 1), .ref h7])), (h7, .inl (cA, 4, .inl (fun _ => (-1)))), (h8, .inr (9, [(gw 0), .int 0, .int 0, .int 0])), (h9, .inr (7, [(gt 0), .int 0, (gt 2), (gt 3), (gt 4), (gt 5), (gt 6), (gt 7), (gt 8), (gt 9), (gt 10), (gt 11), (gt 12)]))] sz) := by
  refine Met.ofW (cc := cX10_count) (maxL := 2) (ret := (some .int)) (by decide) rfl ?_
  intro p e s m args below meth c s₁ B hml hv
  obtain ⟨rfl, hsz, hP, hK, hD0⟩ := hv
  have hx := B.exec
  have hb := B.bytes
  have hr := B.returns
  have hts := atoms_spec (ws := .code yX10_count cX10_count 2 (some .int) :: pw) B.pre
  have hts : ∀ w ∈ pw, w.before _ s = true := fun w h => hts w (List.mem_cons_of_mem _ h)
  have hown : s.vm.findClass RX10 = some m.cls := findClass_of_methodNamed B.named
  have hlocks := B.notSynchronized
  subst hsz
  have hD := hD0.self (sz := s.heap.size)
  generalize hAe : va_A [(h0, .inr (10, [(g 0), .int 0, (g 2), .ref h3, (g 4), (g 5), .ref h6, (g 7), .ref h8, .ref h9, (g 10), (g 11), (g 12), (g 13), (g 14), (g 15)])), (h3, .inr (5, [.int 0, (ga 1), (ga 2), (ga 3), (ga 4), (ga 5), (ga 6), (ga 7), (ga 8), (ga 9), (ga 10), (ga 11), (ga 12), (ga 13), (ga 14), (ga 15), (ga 16)])), (h6, .inr (1, [(gm 0), (gm 1), .ref h7])), (h7, .inl (cA, 4, .inl (fun _ => (-1)))), (h8, .inr (9, [(gw 0), .int 0, .int 0, .int 0])), (h9, .inr (7, [(gt 0), .int 0, (gt 2), (gt 3), (gt 4), (gt 5), (gt 6), (gt 7), (gt 8), (gt 9), (gt 10), (gt 11), (gt 12)]))] s.heap.size = A at hD ⊢
  have hA : ∀ q : Nat, s.heap.size ≤ q → A q := fun q h => by rw [← hAe]; exact Or.inr h
  have hS : va_S A s.heap s.heap [] := va_S.rf
  have hP : va_P (dC, dI) vwCl [(h0, .inr (10, [(g 0), .int 0, (g 2), .ref h3, (g 4), (g 5), .ref h6, (g 7), .ref h8, .ref h9, (g 10), (g 11), (g 12), (g 13), (g 14), (g 15)])), (h3, .inr (5, [.int 0, (ga 1), (ga 2), (ga 3), (ga 4), (ga 5), (ga 6), (ga 7), (ga 8), (ga 9), (ga 10), (ga 11), (ga 12), (ga 13), (ga 14), (ga 15), (ga 16)])), (h6, .inr (1, [(gm 0), (gm 1), .ref h7])), (h7, .inl (cA, 4, .inl (fun _ => (-1)))), (h8, .inr (9, [(gw 0), .int 0, .int 0, .int 0])), (h9, .inr (7, [(gt 0), .int 0, (gt 2), (gt 3), (gt 4), (gt 5), (gt 6), (gt 7), (gt 8), (gt 9), (gt 10), (gt 11), (gt 12)]))] s.heap := hP
  have hl := lv_entry ([.ref h0, .int p0]) (n := 2) (Nat.le_of_ble_eq_true rfl)
  rw [lg_entry_eq]
  generalize (lg_sl ([.ref h0, .int p0]) ++ List.replicate (2 - (lg_sl ([.ref h0, .int p0])).length) Slot.unset).toArray = ls at hl ⊢
  have hl : lv_has ls 2 [(0, .ref h0), (1, .int p0)] := hl
  refine lv_iload_n hx hb dX10_count_0 rfl (lv_at hl 1 rfl) ?_
  refine lv_tableOut (tgt := 85) hx hb dX10_count_1 hp (by decide) ?_
  refine lv_iconst (v := (-1)) hx hb dX10_count_85 (by decide) ?_
  have hP9 := hP.sub (ws' := [(h0, .inr (10, [(g 0), .int 0, (g 2), .ref h3, (g 4), (g 5), .ref h6, (g 7), .ref h8, .ref h9, (g 10), (g 11), (g 12), (g 13), (g 14), (g 15)])), (h3, .inr (5, [.int 0, (ga 1), (ga 2), (ga 3), (ga 4), (ga 5), (ga 6), (ga 7), (ga 8), (ga 9), (ga 10), (ga 11), (ga 12), (ga 13), (ga 14), (ga 15), (ga 16)])), (h6, .inr (1, [(gm 0), (gm 1), .ref h7])), (h7, .inl (cA, 4, .inl (fun _ => (-1)))), (h8, .inr (9, [(gw 0), .int 0, .int 0, .int 0])), (h9, .inr (7, [(gt 0), .int 0, (gt 2), (gt 3), (gt 4), (gt 5), (gt 6), (gt 7), (gt 8), (gt 9), (gt 10), (gt 11), (gt 12)]))]) [0, 1, 2, 3, 4, 5] rfl
  have hD9 := hD.sub (ws' := [(h0, .inr (10, [(g 0), .int 0, (g 2), .ref h3, (g 4), (g 5), .ref h6, (g 7), .ref h8, .ref h9, (g 10), (g 11), (g 12), (g 13), (g 14), (g 15)])), (h3, .inr (5, [.int 0, (ga 1), (ga 2), (ga 3), (ga 4), (ga 5), (ga 6), (ga 7), (ga 8), (ga 9), (ga 10), (ga 11), (ga 12), (ga 13), (ga 14), (ga 15), (ga 16)])), (h6, .inr (1, [(gm 0), (gm 1), .ref h7])), (h7, .inl (cA, 4, .inl (fun _ => (-1)))), (h8, .inr (9, [(gw 0), .int 0, .int 0, .int 0])), (h9, .inr (7, [(gt 0), .int 0, (gt 2), (gt 3), (gt 4), (gt 5), (gt 6), (gt 7), (gt 8), (gt 9), (gt 10), (gt 11), (gt 12)]))]) [0, 1, 2, 3, 4, 5] (by decide) rfl
  have hK9 := hK.sub (tys' := [(cA, .int)]) [0] rfl
  refine W.widen (k := 0) (n := 0) (Nat.le_of_ble_eq_true rfl) (Nat.le_of_ble_eq_true rfl) ?_
  exact W.iret (v := (-1)) hx hb hr (fun t ht hW => ⟨⟨(-1), (), rfl, rfl, by rw [ht]; exact hP9, va_K.moved hW.alike hK9, hD9⟩, hS.F ht⟩) hS.2.2 dX10_count_86
