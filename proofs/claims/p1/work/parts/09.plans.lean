theorem dX10_plans_0 : decode cX10_plans 0 = .ok (.iload_n 1, 1) := by decide +kernel
theorem dX10_plans_1 : decode cX10_plans 1 = .ok (.ifCond .lt 11, 3) := by decide +kernel
theorem dX10_plans_4 : decode cX10_plans 4 = .ok (.iload_n 1, 1) := by decide +kernel
theorem dX10_plans_5 : decode cX10_plans 5 = .ok (.aload_n 0, 1) := by decide +kernel
theorem dX10_plans_6 : decode cX10_plans 6 = .ok (.getfield 13, 3) := by decide +kernel
theorem dX10_plans_9 : decode cX10_plans 9 = .ok (.if_icmp .le 5, 3) := by decide +kernel
theorem dX10_plans_12 : decode cX10_plans 12 = .ok (.iconst (-1), 1) := by decide +kernel
theorem dX10_plans_13 : decode cX10_plans 13 = .ok (.ireturn, 1) := by decide +kernel
theorem dX10_plans_14 : decode cX10_plans 14 = .ok (.aload_n 0, 1) := by decide +kernel
theorem dX10_plans_15 : decode cX10_plans 15 = .ok (.iconst 0, 1) := by decide +kernel
theorem dX10_plans_16 : decode cX10_plans 16 = .ok (.putfield 13, 3) := by decide +kernel
theorem dX10_plans_19 : decode cX10_plans 19 = .ok (.aload_n 0, 1) := by decide +kernel
theorem dX10_plans_20 : decode cX10_plans 20 = .ok (.getfield 22, 3) := by decide +kernel
theorem dX10_plans_23 : decode cX10_plans 23 = .ok (.iload_n 1, 1) := by decide +kernel
theorem dX10_plans_24 : decode cX10_plans 24 = .ok (.invokevirtual 114, 3) := by decide +kernel
theorem dX10_plans_27 : decode cX10_plans 27 = .ok (.aload_n 0, 1) := by decide +kernel
theorem dX10_plans_28 : decode cX10_plans 28 = .ok (.getfield 41, 3) := by decide +kernel
theorem dX10_plans_31 : decode cX10_plans 31 = .ok (.invokevirtual 117, 3) := by decide +kernel
theorem dX10_plans_34 : decode cX10_plans 34 = .ok (.ifCond .ne 11, 3) := by decide +kernel
theorem dX10_plans_37 : decode cX10_plans 37 = .ok (.aload_n 0, 1) := by decide +kernel
theorem dX10_plans_38 : decode cX10_plans 38 = .ok (.getfield 22, 3) := by decide +kernel
theorem dX10_plans_41 : decode cX10_plans 41 = .ok (.invokevirtual 121, 3) := by decide +kernel
theorem dX10_plans_44 : decode cX10_plans 44 = .ok (.ireturn, 1) := by decide +kernel
theorem dX3_parse_0 : decode cX3_parse 0 = .ok (.aload_n 0, 1) := by decide +kernel
theorem dX3_parse_1 : decode cX3_parse 1 = .ok (.getfield 15, 3) := by decide +kernel
theorem dX3_parse_4 : decode cX3_parse 4 = .ok (.invokevirtual 19, 3) := by decide +kernel
theorem dX3_parse_7 : decode cX3_parse 7 = .ok (.iconst (-1), 1) := by decide +kernel
theorem dX3_parse_8 : decode cX3_parse 8 = .ok (.istore_n 1, 1) := by decide +kernel
theorem dX3_parse_9 : decode cX3_parse 9 = .ok (.iconst 0, 1) := by decide +kernel
theorem dX3_parse_10 : decode cX3_parse 10 = .ok (.istore_n 2, 1) := by decide +kernel
theorem dX3_parse_11 : decode cX3_parse 11 = .ok (.iload_n 2, 1) := by decide +kernel
theorem dX3_parse_12 : decode cX3_parse 12 = .ok (.bipush 42, 2) := by decide +kernel
theorem dX3_parse_14 : decode cX3_parse 14 = .ok (.if_icmp .gt 149, 3) := by decide +kernel
theorem dX3_parse_17 : decode cX3_parse 17 = .ok (.aload_n 0, 1) := by decide +kernel
theorem dX3_parse_18 : decode cX3_parse 18 = .ok (.getfield 15, 3) := by decide +kernel
theorem dX3_parse_21 : decode cX3_parse 21 = .ok (.iload_n 1, 1) := by decide +kernel
theorem dX3_parse_22 : decode cX3_parse 22 = .ok (.invokevirtual 24, 3) := by decide +kernel
theorem dX3_parse_25 : decode cX3_parse 25 = .ok (.ifCond .le 7, 3) := by decide +kernel
theorem dX3_parse_32 : decode cX3_parse 32 = .ok (.iconst 0, 1) := by decide +kernel
theorem dX3_parse_33 : decode cX3_parse 33 = .ok (.istore_n 3, 1) := by decide +kernel
theorem dX3_parse_34 : decode cX3_parse 34 = .ok (.iload_n 1, 1) := by decide +kernel
theorem dX3_parse_35 : decode cX3_parse 35 = .ok (.iconst (-1), 1) := by decide +kernel
theorem dX3_parse_36 : decode cX3_parse 36 = .ok (.if_icmp .eq 24, 3) := by decide +kernel
theorem dX3_parse_60 : decode cX3_parse 60 = .ok (.iload_n 3, 1) := by decide +kernel
theorem dX3_parse_61 : decode cX3_parse 61 = .ok (.ifCond .eq 17, 3) := by decide +kernel
theorem dX3_parse_78 : decode cX3_parse 78 = .ok (.iconst 0, 1) := by decide +kernel
theorem dX3_parse_79 : decode cX3_parse 79 = .ok (.istore 4, 2) := by decide +kernel
theorem dX3_parse_81 : decode cX3_parse 81 = .ok (.iload_n 3, 1) := by decide +kernel
theorem dX3_parse_82 : decode cX3_parse 82 = .ok (.ifCond .ne 8, 3) := by decide +kernel
theorem dX3_parse_85 : decode cX3_parse 85 = .ok (.iload_n 1, 1) := by decide +kernel
theorem dX3_parse_86 : decode cX3_parse 86 = .ok (.iconst (-1), 1) := by decide +kernel
theorem dX3_parse_87 : decode cX3_parse 87 = .ok (.if_icmp .ne 18, 3) := by decide +kernel
theorem dX3_parse_90 : decode cX3_parse 90 = .ok (.aload_n 0, 1) := by decide +kernel
theorem dX3_parse_91 : decode cX3_parse 91 = .ok (.getfield 9, 3) := by decide +kernel
theorem dX3_parse_94 : decode cX3_parse 94 = .ok (.iconst 0, 1) := by decide +kernel
theorem dX3_parse_95 : decode cX3_parse 95 = .ok (.invokevirtual 30, 3) := by decide +kernel
theorem dX3_parse_98 : decode cX3_parse 98 = .ok (.ifCond .eq 7, 3) := by decide +kernel
theorem dX3_parse_105 : decode cX3_parse 105 = .ok (.iconst 0, 1) := by decide +kernel
theorem dX3_parse_106 : decode cX3_parse 106 = .ok (.istore 5, 2) := by decide +kernel
theorem dX3_parse_108 : decode cX3_parse 108 = .ok (.iload 4, 2) := by decide +kernel
theorem dX3_parse_110 : decode cX3_parse 110 = .ok (.ifCond .ne 17, 3) := by decide +kernel
theorem dX3_parse_113 : decode cX3_parse 113 = .ok (.iload 5, 2) := by decide +kernel
theorem dX3_parse_115 : decode cX3_parse 115 = .ok (.ifCond .ne 12, 3) := by decide +kernel
theorem dX3_parse_118 : decode cX3_parse 118 = .ok (.aload_n 0, 1) := by decide +kernel
theorem dX3_parse_119 : decode cX3_parse 119 = .ok (.getfield 9, 3) := by decide +kernel
theorem dX3_parse_122 : decode cX3_parse 122 = .ok (.iconst 1, 1) := by decide +kernel
theorem dX3_parse_123 : decode cX3_parse 123 = .ok (.invokevirtual 41, 3) := by decide +kernel
theorem dX3_parse_126 : decode cX3_parse 126 = .ok (.ireturn, 1) := by decide +kernel
theorem dX5_clear_0 : decode cX5_clear 0 = .ok (.aload_n 0, 1) := by decide +kernel
theorem dX5_clear_1 : decode cX5_clear 1 = .ok (.iconst 0, 1) := by decide +kernel
theorem dX5_clear_2 : decode cX5_clear 2 = .ok (.putfield 9, 3) := by decide +kernel
theorem dX5_clear_5 : decode cX5_clear 5 = .ok (.aload_n 0, 1) := by decide +kernel
theorem dX5_clear_6 : decode cX5_clear 6 = .ok (.iconst 0, 1) := by decide +kernel
theorem dX5_clear_7 : decode cX5_clear 7 = .ok (.putfield 15, 3) := by decide +kernel
theorem dX5_clear_10 : decode cX5_clear 10 = .ok (.return_, 1) := by decide +kernel
theorem dX5_recordsOf_0 : decode cX5_recordsOf 0 = .ok (.iload_n 1, 1) := by decide +kernel
theorem dX5_recordsOf_1 : decode cX5_recordsOf 1 = .ok (.ifCond .lt 18, 3) := by decide +kernel
theorem dX5_recordsOf_19 : decode cX5_recordsOf 19 = .ok (.iconst 0, 1) := by decide +kernel
theorem dX5_recordsOf_20 : decode cX5_recordsOf 20 = .ok (.ireturn, 1) := by decide +kernel
theorem dX6_advance_0 : decode cX6_advance 0 = .ok (.aload_n 0, 1) := by decide +kernel
theorem dX6_advance_1 : decode cX6_advance 1 = .ok (.getfield 19, 3) := by decide +kernel
theorem dX6_advance_4 : decode cX6_advance 4 = .ok (.aload_n 0, 1) := by decide +kernel
theorem dX6_advance_5 : decode cX6_advance 5 = .ok (.getfield 15, 3) := by decide +kernel
theorem dX6_advance_8 : decode cX6_advance 8 = .ok (.if_icmp .ge 42, 3) := by decide +kernel
theorem dX6_advance_50 : decode cX6_advance 50 = .ok (.aload_n 0, 1) := by decide +kernel
theorem dX6_advance_51 : decode cX6_advance 51 = .ok (.aload_n 0, 1) := by decide +kernel
theorem dX6_advance_52 : decode cX6_advance 52 = .ok (.getfield 19, 3) := by decide +kernel
theorem dX6_advance_55 : decode cX6_advance 55 = .ok (.putfield 25, 3) := by decide +kernel
theorem dX6_advance_58 : decode cX6_advance 58 = .ok (.aload_n 0, 1) := by decide +kernel
theorem dX6_advance_59 : decode cX6_advance 59 = .ok (.aload_n 0, 1) := by decide +kernel
theorem dX6_advance_60 : decode cX6_advance 60 = .ok (.getfield 25, 3) := by decide +kernel
theorem dX6_advance_63 : decode cX6_advance 63 = .ok (.invokevirtual 77, 3) := by decide +kernel
theorem dX6_advance_66 : decode cX6_advance 66 = .ok (.istore_n 1, 1) := by decide +kernel
theorem dX6_advance_67 : decode cX6_advance 67 = .ok (.aload_n 0, 1) := by decide +kernel
theorem dX6_advance_68 : decode cX6_advance 68 = .ok (.getfield 25, 3) := by decide +kernel
theorem dX6_advance_71 : decode cX6_advance 71 = .ok (.aload_n 0, 1) := by decide +kernel
theorem dX6_advance_72 : decode cX6_advance 72 = .ok (.getfield 15, 3) := by decide +kernel
theorem dX6_advance_75 : decode cX6_advance 75 = .ok (.if_icmp .lt 11, 3) := by decide +kernel
theorem dX6_advance_78 : decode cX6_advance 78 = .ok (.aload_n 0, 1) := by decide +kernel
theorem dX6_advance_79 : decode cX6_advance 79 = .ok (.iconst 0, 1) := by decide +kernel
theorem dX6_advance_80 : decode cX6_advance 80 = .ok (.putfield 22, 3) := by decide +kernel
theorem dX6_advance_83 : decode cX6_advance 83 = .ok (.goto 109, 3) := by decide +kernel
theorem dX6_advance_192 : decode cX6_advance 192 = .ok (.return_, 1) := by decide +kernel
theorem dX6_begin_0 : decode cX6_begin 0 = .ok (.aload_n 0, 1) := by decide +kernel
theorem dX6_begin_1 : decode cX6_begin 1 = .ok (.iload_n 1, 1) := by decide +kernel
theorem dX6_begin_2 : decode cX6_begin 2 = .ok (.putfield 15, 3) := by decide +kernel
theorem dX6_begin_5 : decode cX6_begin 5 = .ok (.aload_n 0, 1) := by decide +kernel
theorem dX6_begin_6 : decode cX6_begin 6 = .ok (.iconst 0, 1) := by decide +kernel
theorem dX6_begin_7 : decode cX6_begin 7 = .ok (.putfield 19, 3) := by decide +kernel
theorem dX6_begin_10 : decode cX6_begin 10 = .ok (.aload_n 0, 1) := by decide +kernel
theorem dX6_begin_11 : decode cX6_begin 11 = .ok (.iconst 0, 1) := by decide +kernel
theorem dX6_begin_12 : decode cX6_begin 12 = .ok (.putfield 48, 3) := by decide +kernel
theorem dX6_begin_15 : decode cX6_begin 15 = .ok (.aload_n 0, 1) := by decide +kernel
theorem dX6_begin_16 : decode cX6_begin 16 = .ok (.iconst 0, 1) := by decide +kernel
theorem dX6_begin_17 : decode cX6_begin 17 = .ok (.putfield 51, 3) := by decide +kernel
theorem dX6_begin_20 : decode cX6_begin 20 = .ok (.aload_n 0, 1) := by decide +kernel
theorem dX6_begin_21 : decode cX6_begin 21 = .ok (.invokevirtual 70, 3) := by decide +kernel
theorem dX6_begin_24 : decode cX6_begin 24 = .ok (.return_, 1) := by decide +kernel
theorem dX6_faultAnswer_0 : decode cX6_faultAnswer 0 = .ok (.bipush (-2), 2) := by decide +kernel
theorem dX6_faultAnswer_2 : decode cX6_faultAnswer 2 = .ok (.bipush 8, 2) := by decide +kernel
theorem dX6_faultAnswer_4 : decode cX6_faultAnswer 4 = .ok (.aload_n 0, 1) := by decide +kernel
theorem dX6_faultAnswer_5 : decode cX6_faultAnswer 5 = .ok (.getfield 51, 3) := by decide +kernel
theorem dX6_faultAnswer_8 : decode cX6_faultAnswer 8 = .ok (.imul, 1) := by decide +kernel
theorem dX6_faultAnswer_9 : decode cX6_faultAnswer 9 = .ok (.aload_n 0, 1) := by decide +kernel
theorem dX6_faultAnswer_10 : decode cX6_faultAnswer 10 = .ok (.getfield 48, 3) := by decide +kernel
theorem dX6_faultAnswer_13 : decode cX6_faultAnswer 13 = .ok (.iadd, 1) := by decide +kernel
theorem dX6_faultAnswer_14 : decode cX6_faultAnswer 14 = .ok (.isub, 1) := by decide +kernel
theorem dX6_faultAnswer_15 : decode cX6_faultAnswer 15 = .ok (.ireturn, 1) := by decide +kernel
theorem dX6_isKeyword_0 : decode cX6_isKeyword 0 = .ok (.aload_n 0, 1) := by decide +kernel
theorem dX6_isKeyword_1 : decode cX6_isKeyword 1 = .ok (.getfield 22, 3) := by decide +kernel
theorem dX6_isKeyword_4 : decode cX6_isKeyword 4 = .ok (.iconst 2, 1) := by decide +kernel
theorem dX6_isKeyword_5 : decode cX6_isKeyword 5 = .ok (.if_icmp .ne 15, 3) := by decide +kernel
theorem dX6_isKeyword_20 : decode cX6_isKeyword 20 = .ok (.iconst 0, 1) := by decide +kernel
theorem dX6_isKeyword_21 : decode cX6_isKeyword 21 = .ok (.ireturn, 1) := by decide +kernel
theorem dX6_refuse_0 : decode cX6_refuse 0 = .ok (.aload_n 0, 1) := by decide +kernel
theorem dX6_refuse_1 : decode cX6_refuse 1 = .ok (.iload_n 1, 1) := by decide +kernel
theorem dX6_refuse_2 : decode cX6_refuse 2 = .ok (.aload_n 0, 1) := by decide +kernel
theorem dX6_refuse_3 : decode cX6_refuse 3 = .ok (.getfield 25, 3) := by decide +kernel
theorem dX6_refuse_6 : decode cX6_refuse 6 = .ok (.invokevirtual 73, 3) := by decide +kernel
theorem dX6_refuse_9 : decode cX6_refuse 9 = .ok (.ireturn, 1) := by decide +kernel
theorem dX6_refuseAt_0 : decode cX6_refuseAt 0 = .ok (.aload_n 0, 1) := by decide +kernel
theorem dX6_refuseAt_1 : decode cX6_refuseAt 1 = .ok (.getfield 48, 3) := by decide +kernel
theorem dX6_refuseAt_4 : decode cX6_refuseAt 4 = .ok (.ifCond .ne 13, 3) := by decide +kernel
theorem dX6_refuseAt_7 : decode cX6_refuseAt 7 = .ok (.aload_n 0, 1) := by decide +kernel
theorem dX6_refuseAt_8 : decode cX6_refuseAt 8 = .ok (.iload_n 1, 1) := by decide +kernel
theorem dX6_refuseAt_9 : decode cX6_refuseAt 9 = .ok (.putfield 48, 3) := by decide +kernel
theorem dX6_refuseAt_12 : decode cX6_refuseAt 12 = .ok (.aload_n 0, 1) := by decide +kernel
theorem dX6_refuseAt_13 : decode cX6_refuseAt 13 = .ok (.iload_n 2, 1) := by decide +kernel
theorem dX6_refuseAt_14 : decode cX6_refuseAt 14 = .ok (.putfield 51, 3) := by decide +kernel
theorem dX6_refuseAt_17 : decode cX6_refuseAt 17 = .ok (.iconst 0, 1) := by decide +kernel
theorem dX6_refuseAt_18 : decode cX6_refuseAt 18 = .ok (.ireturn, 1) := by decide +kernel
theorem dX6_signAt_0 : decode cX6_signAt 0 = .ok (.iload_n 1, 1) := by decide +kernel
theorem dX6_signAt_1 : decode cX6_signAt 1 = .ok (.ifCond .lt 33, 3) := by decide +kernel
theorem dX6_signAt_4 : decode cX6_signAt 4 = .ok (.iload_n 1, 1) := by decide +kernel
theorem dX6_signAt_5 : decode cX6_signAt 5 = .ok (.aload_n 0, 1) := by decide +kernel
theorem dX6_signAt_6 : decode cX6_signAt 6 = .ok (.getfield 15, 3) := by decide +kernel
theorem dX6_signAt_9 : decode cX6_signAt 9 = .ok (.if_icmp .ge 25, 3) := by decide +kernel
theorem dX6_signAt_34 : decode cX6_signAt 34 = .ok (.iconst 0, 1) := by decide +kernel
theorem dX6_signAt_35 : decode cX6_signAt 35 = .ok (.ireturn, 1) := by decide +kernel
set_option maxRecDepth 100000 in
set_option maxHeartbeats 4000000 in
theorem c_signAt (l : Launch) (dC : Nat → ClassId) (dI : Nat → Nat → Nat) (h2 : Nat) (g : Nat → Value) (sz : Nat) : Met l yX6_signAt (.code yX6_signAt cX6_signAt 2 (some .int) :: pw) ({ frames := 0, cells := 0, slots := 0, locals := 0 }) (va_Pc [.ref h2, .int 0] (vPre dC dI [(h2, .inr (6, [(g 0), (g 1), .int 0, (g 3), (g 4), (g 5), (g 6), (g 7), (g 8), (g 9), (g 10), (g 11), (g 12), (g 13)]))] [] sz)) (va_Qi (fun (r : Int32) (_ : Unit) => r = 0) (fun (_ : Unit) t => vPst dC dI (va_A [(h2, .inr (6, [(g 0), (g 1), .int 0, (g 3), (g 4), (g 5), (g 6), (g 7), (g 8), (g 9), (g 10), (g 11), (g 12), (g 13)]))] sz) [(h2, .inr (6, [(g 0), (g 1), .int 0, (g 3), (g 4), (g 5), (g 6), (g 7), (g 8), (g 9), (g 10), (g 11), (g 12), (g 13)]))] [] t) (va_A [(h2, .inr (6, [(g 0), (g 1), .int 0, (g 3), (g 4), (g 5), (g 6), (g 7), (g 8), (g 9), (g 10), (g 11), (g 12), (g 13)]))] sz)) 0 0 (va_A [(h2, .inr (6, [(g 0), (g 1), .int 0, (g 3), (g 4), (g 5), (g 6), (g 7), (g 8), (g 9), (g 10), (g 11), (g 12), (g 13)]))] sz) := by
  refine Met.ofW (cc := cX6_signAt) (maxL := 2) (ret := (some .int)) (by decide) rfl ?_
  intro p e s m args below meth c s₁ B hml hv
  obtain ⟨rfl, hsz, hP, hK, hD0⟩ := hv
  have hx := B.exec
  have hb := B.bytes
  have hr := B.returns
  have hts := atoms_spec (ws := .code yX6_signAt cX6_signAt 2 (some .int) :: pw) B.pre
  have hts : ∀ w ∈ pw, w.before _ s = true := fun w h => hts w (List.mem_cons_of_mem _ h)
  have hown : s.vm.findClass RX6 = some m.cls := findClass_of_methodNamed B.named
  have hlocks := B.notSynchronized
  subst hsz
  have hD := hD0.self (sz := s.heap.size)
  generalize hAe : va_A [(h2, .inr (6, [(g 0), (g 1), .int 0, (g 3), (g 4), (g 5), (g 6), (g 7), (g 8), (g 9), (g 10), (g 11), (g 12), (g 13)]))] s.heap.size = A at hD ⊢
  have hA : ∀ q : Nat, s.heap.size ≤ q → A q := fun q h => by rw [← hAe]; exact Or.inr h
  have hS : va_S A s.heap s.heap [] := va_S.rf
  have hP : va_P (dC, dI) vwCl [(h2, .inr (6, [(g 0), (g 1), .int 0, (g 3), (g 4), (g 5), (g 6), (g 7), (g 8), (g 9), (g 10), (g 11), (g 12), (g 13)]))] s.heap := hP
  have hl := lv_entry ([.ref h2, .int 0]) (n := 2) (Nat.le_of_ble_eq_true rfl)
  rw [lg_entry_eq]
  generalize (lg_sl ([.ref h2, .int 0]) ++ List.replicate (2 - (lg_sl ([.ref h2, .int 0])).length) Slot.unset).toArray = ls at hl ⊢
  have hl : lv_has ls 2 [(0, .ref h2), (1, .int 0)] := hl
  refine lv_iload_n hx hb dX6_signAt_0 rfl (lv_at hl 1 rfl) ?_
  refine lv_if_lt (tgt := 34) hx hb dX6_signAt_1 (by decide) (fun h => absurd h (by decide)) (fun _ => ?_)
  refine lv_iload_n hx hb dX6_signAt_4 rfl (lv_at hl 1 rfl) ?_
  refine lv_aload_n hx hb dX6_signAt_5 rfl (lv_at hl 0 rfl) ?_
  refine va_get (D := (dC, dI)) (ci := 6) (v := .int 0) (C := RX6) (T := TX6) (N := 14) hx hb hts inlX6 hown hK hP 0 rfl rfl 2 (by decide) (hts (.fieldLink RX6 15 "ShapeReader$Tokens" "end" "I") mw_4_5) (fun _ h9 => h9) rfl dX6_signAt_6 ?_
  refine lv_icmp_ge (tgt := 34) hx hb dX6_signAt_9 (by decide) (fun _ => ?_) (fun h => absurd (by decide) h)
  refine lv_iconst (v := 0) hx hb dX6_signAt_34 (by decide) ?_
  have hP9 := hP.sub (ws' := [(h2, .inr (6, [(g 0), (g 1), .int 0, (g 3), (g 4), (g 5), (g 6), (g 7), (g 8), (g 9), (g 10), (g 11), (g 12), (g 13)]))]) [0] rfl
  have hD9 := hD.sub (ws' := [(h2, .inr (6, [(g 0), (g 1), .int 0, (g 3), (g 4), (g 5), (g 6), (g 7), (g 8), (g 9), (g 10), (g 11), (g 12), (g 13)]))]) [0] (by decide) rfl
  have hK9 := hK.sub (tys' := []) [] rfl
  refine W.widen (k := 0) (n := 0) (Nat.le_of_ble_eq_true rfl) (Nat.le_of_ble_eq_true rfl) ?_
  exact W.iret (v := 0) hx hb hr (fun t ht hW => ⟨⟨0, (), rfl, rfl, by rw [ht]; exact hP9, va_K.moved hW.alike hK9, hD9⟩, hS.F ht⟩) hS.2.2 dX6_signAt_35

set_option maxRecDepth 100000 in
set_option maxHeartbeats 4000000 in
theorem c_advance (l : Launch) (dC : Nat → ClassId) (dI : Nat → Nat → Nat) (h2 : Nat) (g : Nat → Value) (sz : Nat) : Met l yX6_advance (.code yX6_advance cX6_advance 2 none :: pw) ({ frames := 1, cells := 0, slots := 0, locals := 21 }) (va_Pc [.ref h2] (vPre dC dI [(h2, .inr (6, [(g 0), (g 1), .int 0, .int 0, (g 4), (g 5), (g 6), (g 7), (g 8), (g 9), (g 10), (g 11), (g 12), (g 13)]))] [] sz)) (va_Qv (fun (_ : Unit) => True) (fun (_ : Unit) t => vPst dC dI (va_A [(h2, .inr (6, [(g 0), (g 1), .int 0, .int 0, (g 4), (g 5), (g 6), (g 7), (g 8), (g 9), (g 10), (g 11), (g 12), (g 13)]))] sz) [(h2, .inr (6, [(g 0), (g 1), .int 0, .int 0, .int 0, .int 0, (g 6), (g 7), (g 8), (g 9), (g 10), (g 11), (g 12), (g 13)]))] [] t) (va_A [(h2, .inr (6, [(g 0), (g 1), .int 0, .int 0, (g 4), (g 5), (g 6), (g 7), (g 8), (g 9), (g 10), (g 11), (g 12), (g 13)]))] sz)) 0 0 (va_A [(h2, .inr (6, [(g 0), (g 1), .int 0, .int 0, (g 4), (g 5), (g 6), (g 7), (g 8), (g 9), (g 10), (g 11), (g 12), (g 13)]))] sz) := by
  refine Met.ofW (cc := cX6_advance) (maxL := 2) (ret := none) (by decide) rfl ?_
  intro p e s m args below meth c s₁ B hml hv
  obtain ⟨rfl, hsz, hP, hK, hD0⟩ := hv
  have hx := B.exec
  have hb := B.bytes
  have hr := B.returns
  have hts := atoms_spec (ws := .code yX6_advance cX6_advance 2 none :: pw) B.pre
  have hts : ∀ w ∈ pw, w.before _ s = true := fun w h => hts w (List.mem_cons_of_mem _ h)
  have hown : s.vm.findClass RX6 = some m.cls := findClass_of_methodNamed B.named
  have hlocks := B.notSynchronized
  subst hsz
  have hD := hD0.self (sz := s.heap.size)
  generalize hAe : va_A [(h2, .inr (6, [(g 0), (g 1), .int 0, .int 0, (g 4), (g 5), (g 6), (g 7), (g 8), (g 9), (g 10), (g 11), (g 12), (g 13)]))] s.heap.size = A at hD ⊢
  have hA : ∀ q : Nat, s.heap.size ≤ q → A q := fun q h => by rw [← hAe]; exact Or.inr h
  have hS : va_S A s.heap s.heap [] := va_S.rf
  have hP : va_P (dC, dI) vwCl [(h2, .inr (6, [(g 0), (g 1), .int 0, .int 0, (g 4), (g 5), (g 6), (g 7), (g 8), (g 9), (g 10), (g 11), (g 12), (g 13)]))] s.heap := hP
  have hl := lv_entry ([.ref h2]) (n := 2) (Nat.le_of_ble_eq_true rfl)
  rw [lg_entry_eq]
  generalize (lg_sl ([.ref h2]) ++ List.replicate (2 - (lg_sl ([.ref h2])).length) Slot.unset).toArray = ls at hl ⊢
  have hl : lv_has ls 2 [(0, .ref h2)] := hl
  refine lv_aload_n hx hb dX6_advance_0 rfl (lv_at hl 0 rfl) ?_
  refine va_get (D := (dC, dI)) (ci := 6) (v := .int 0) (C := RX6) (T := TX6) (N := 14) hx hb hts inlX6 hown hK hP 0 rfl rfl 3 (by decide) (hts (.fieldLink RX6 19 "ShapeReader$Tokens" "next" "I") mw_4_6) (fun _ h9 => h9) rfl dX6_advance_1 ?_
  refine lv_aload_n hx hb dX6_advance_4 rfl (lv_at hl 0 rfl) ?_
  refine va_get (D := (dC, dI)) (ci := 6) (v := .int 0) (C := RX6) (T := TX6) (N := 14) hx hb hts inlX6 hown hK hP 0 rfl rfl 2 (by decide) (hts (.fieldLink RX6 15 "ShapeReader$Tokens" "end" "I") mw_4_5) (fun _ h9 => h9) rfl dX6_advance_5 ?_
  refine lv_icmp_ge (tgt := 50) hx hb dX6_advance_8 (by decide) (fun _ => ?_) (fun h => absurd (by decide) h)
  refine lv_aload_n hx hb dX6_advance_50 rfl (lv_at hl 0 rfl) ?_
  refine lv_aload_n hx hb dX6_advance_51 rfl (lv_at hl 0 rfl) ?_
  refine va_get (D := (dC, dI)) (ci := 6) (v := .int 0) (C := RX6) (T := TX6) (N := 14) hx hb hts inlX6 hown hK hP 0 rfl rfl 3 (by decide) (hts (.fieldLink RX6 19 "ShapeReader$Tokens" "next" "I") mw_4_6) (fun _ h9 => h9) rfl dX6_advance_52 ?_
  refine va_put (D := (dC, dI)) (ci := 6) (v := .int 0) (ty := .int) (C := RX6) (T := TX6) (N := 14) hx hb hts inlX6 tyX6 tyX6_ok nmX6 hown hK hP hD hS 0 rfl rfl 5 (by decide) (hts (.fieldLink RX6 25 "ShapeReader$Tokens" "start" "I") mw_4_8) (fun _ h9 => h9) rfl (by decide +kernel) rfl rfl (Nat.le_of_ble_eq_true rfl) dX6_advance_55 (fun H locs hP hD hS => ?_)
  have hP : va_P (dC, dI) vwCl [(h2, .inr (6, [(g 0), (g 1), .int 0, .int 0, (g 4), .int 0, (g 6), (g 7), (g 8), (g 9), (g 10), (g 11), (g 12), (g 13)]))] H := hP
  have hD : va_D A [(h2, .inr (6, [(g 0), (g 1), .int 0, .int 0, (g 4), .int 0, (g 6), (g 7), (g 8), (g 9), (g 10), (g 11), (g 12), (g 13)]))] := hD
  refine lv_aload_n hx hb dX6_advance_58 rfl (lv_at hl 0 rfl) ?_
  refine lv_aload_n hx hb dX6_advance_59 rfl (lv_at hl 0 rfl) ?_
  refine va_get (D := (dC, dI)) (ci := 6) (v := .int 0) (C := RX6) (T := TX6) (N := 14) hx hb hts inlX6 hown hK hP 0 rfl rfl 5 (by decide) (hts (.fieldLink RX6 25 "ShapeReader$Tokens" "start" "I") mw_4_8) (fun _ h9 => h9) rfl dX6_advance_60 ?_
  have hPc := hP.sub (ws' := [(h2, .inr (6, [(g 0), (g 1), .int 0, .int 0, (g 4), .int 0, (g 6), (g 7), (g 8), (g 9), (g 10), (g 11), (g 12), (g 13)]))]) [0] rfl
  have hDc := hD.sub (ws' := [(h2, .inr (6, [(g 0), (g 1), .int 0, .int 0, (g 4), .int 0, (g 6), (g 7), (g 8), (g 9), (g 10), (g 11), (g 12), (g 13)]))]) [0] (by decide) rfl
  have hKc := hK.sub (tys' := []) [] rfl
  have hFc := va_free (wc := [(h2, .inr (6, [(g 0), (g 1), .int 0, .int 0, (g 4), .int 0, (g 6), (g 7), (g 8), (g 9), (g 10), (g 11), (g 12), (g 13)]))]) hD hS hA [0] rfl
  refine va_calli (va_runV (As := [.int 0]) (rest := []) ⟨hx, hb, hml, hown, hts⟩ (c_signAt l dC dI h2 (fun k => (cond (Nat.beq k 3) (.int 0) (cond (Nat.beq k 5) (.int 0) (g k)))) H.size) (cwV 1 hts (gV mw_5_1 mw_5_2 mw_5_3 mw_0_10 mw_20_2) rfl rfl rfl (by decide +kernel) ⟨(Nat.le_of_ble_eq_true rfl), (Nat.le_of_ble_eq_true rfl)⟩) (vV (ci := 6) (q0 := 0) hKc hPc hDc rfl rfl) rfl rfl hl.1 rfl (lv_room (Nat.le_of_ble_eq_true rfl)) dX6_advance_63 ⟨(Nat.le_of_ble_eq_true rfl), (Nat.le_of_ble_eq_true rfl)⟩) hS (fun q _ h => hFc q h) hFc (fun r_2 u t H1 locs ht hvm hw hB hz1 hk1 hS => ?_)
  obtain ⟨hP1, hK1, hD1⟩ := hB
  rw [ht] at hP1
  have hK1 := va_K.moved hvm.symm hK1
  obtain ⟨hP, hD⟩ := va_join (wr := []) (w1 := [(h2, .inr (6, [(g 0), (g 1), .int 0, .int 0, (g 4), .int 0, (g 6), (g 7), (g 8), (g 9), (g 10), (g 11), (g 12), (g 13)]))]) hP hD [0] [] rfl rfl (by decide) (by decide) hk1 hFc hP1 hD1
  clear hPc hDc hKc hP1 hK1 hD1 hFc hk1 hz1
  generalize H1 = H at hP hS ⊢
  have hP : va_P (dC, dI) vwCl [(h2, .inr (6, [(g 0), (g 1), .int 0, .int 0, (g 4), .int 0, (g 6), (g 7), (g 8), (g 9), (g 10), (g 11), (g 12), (g 13)]))] H := hP
  have hD : va_D A [(h2, .inr (6, [(g 0), (g 1), .int 0, .int 0, (g 4), .int 0, (g 6), (g 7), (g 8), (g 9), (g 10), (g 11), (g 12), (g 13)]))] := hD
  obtain rfl : r_2 = 0 := hw
  refine lv_istore_n (lv' := [(1, .int 0), (0, .ref h2)]) hx hb dX6_advance_66 rfl hl (by decide) rfl (fun ls hl => ?_)
  refine lv_aload_n hx hb dX6_advance_67 rfl (lv_at hl 1 rfl) ?_
  refine va_get (D := (dC, dI)) (ci := 6) (v := .int 0) (C := RX6) (T := TX6) (N := 14) hx hb hts inlX6 hown hK hP 0 rfl rfl 5 (by decide) (hts (.fieldLink RX6 25 "ShapeReader$Tokens" "start" "I") mw_4_8) (fun _ h9 => h9) rfl dX6_advance_68 ?_
  refine lv_aload_n hx hb dX6_advance_71 rfl (lv_at hl 1 rfl) ?_
  refine va_get (D := (dC, dI)) (ci := 6) (v := .int 0) (C := RX6) (T := TX6) (N := 14) hx hb hts inlX6 hown hK hP 0 rfl rfl 2 (by decide) (hts (.fieldLink RX6 15 "ShapeReader$Tokens" "end" "I") mw_4_5) (fun _ h9 => h9) rfl dX6_advance_72 ?_
  refine lv_icmp_lt (tgt := 86) hx hb dX6_advance_75 (by decide) (fun h => absurd h (by decide)) (fun _ => ?_)
  refine lv_aload_n hx hb dX6_advance_78 rfl (lv_at hl 1 rfl) ?_
  refine lv_iconst (v := 0) hx hb dX6_advance_79 (by decide) ?_
  refine va_put (D := (dC, dI)) (ci := 6) (v := .int 0) (ty := .int) (C := RX6) (T := TX6) (N := 14) hx hb hts inlX6 tyX6 tyX6_ok nmX6 hown hK hP hD hS 0 rfl rfl 4 (by decide) (hts (.fieldLink RX6 22 "ShapeReader$Tokens" "kind" "I") mw_4_7) (fun _ h9 => h9) rfl (by decide +kernel) rfl rfl (Nat.le_of_ble_eq_true rfl) dX6_advance_80 (fun H locs hP hD hS => ?_)
  have hP : va_P (dC, dI) vwCl [(h2, .inr (6, [(g 0), (g 1), .int 0, .int 0, .int 0, .int 0, (g 6), (g 7), (g 8), (g 9), (g 10), (g 11), (g 12), (g 13)]))] H := hP
  have hD : va_D A [(h2, .inr (6, [(g 0), (g 1), .int 0, .int 0, .int 0, .int 0, (g 6), (g 7), (g 8), (g 9), (g 10), (g 11), (g 12), (g 13)]))] := hD
  refine lv_goto (tgt := 192) hx hb dX6_advance_83 (by decide) ?_
  have hP9 := hP.sub (ws' := [(h2, .inr (6, [(g 0), (g 1), .int 0, .int 0, .int 0, .int 0, (g 6), (g 7), (g 8), (g 9), (g 10), (g 11), (g 12), (g 13)]))]) [0] rfl
  have hD9 := hD.sub (ws' := [(h2, .inr (6, [(g 0), (g 1), .int 0, .int 0, .int 0, .int 0, (g 6), (g 7), (g 8), (g 9), (g 10), (g 11), (g 12), (g 13)]))]) [0] (by decide) rfl
  have hK9 := hK.sub (tys' := []) [] rfl
  refine W.widen (k := 0) (n := 0) (Nat.le_of_ble_eq_true rfl) (Nat.le_of_ble_eq_true rfl) ?_
  exact W.vret hx hb hr (fun t ht hW => ⟨⟨(), rfl, trivial, by rw [ht]; exact hP9, va_K.moved hW.alike hK9, hD9⟩, hS.F ht⟩) hS.2.2 dX6_advance_192

set_option maxRecDepth 100000 in
set_option maxHeartbeats 4000000 in
theorem c_begin (l : Launch) (dC : Nat → ClassId) (dI : Nat → Nat → Nat) (h2 : Nat) (g : Nat → Value) (sz : Nat) : Met l yX6_begin (.code yX6_begin cX6_begin 2 none :: pw) ({ frames := 2, cells := 0, slots := 0, locals := 42 }) (va_Pc [.ref h2, .int 0] (vPre dC dI [(h2, .inr (6, [(g 0), (g 1), (g 2), (g 3), (g 4), (g 5), (g 6), (g 7), (g 8), (g 9), (g 10), (g 11), (g 12), (g 13)]))] [] sz)) (va_Qv (fun (_ : Unit) => True) (fun (_ : Unit) t => vPst dC dI (va_A [(h2, .inr (6, [(g 0), (g 1), (g 2), (g 3), (g 4), (g 5), (g 6), (g 7), (g 8), (g 9), (g 10), (g 11), (g 12), (g 13)]))] sz) [(h2, .inr (6, [(g 0), (g 1), .int 0, .int 0, .int 0, .int 0, (g 6), (g 7), (g 8), (g 9), (g 10), (g 11), .int 0, .int 0]))] [] t) (va_A [(h2, .inr (6, [(g 0), (g 1), (g 2), (g 3), (g 4), (g 5), (g 6), (g 7), (g 8), (g 9), (g 10), (g 11), (g 12), (g 13)]))] sz)) 0 0 (va_A [(h2, .inr (6, [(g 0), (g 1), (g 2), (g 3), (g 4), (g 5), (g 6), (g 7), (g 8), (g 9), (g 10), (g 11), (g 12), (g 13)]))] sz) := by
  refine Met.ofW (cc := cX6_begin) (maxL := 2) (ret := none) (by decide) rfl ?_
  intro p e s m args below meth c s₁ B hml hv
  obtain ⟨rfl, hsz, hP, hK, hD0⟩ := hv
  have hx := B.exec
  have hb := B.bytes
  have hr := B.returns
  have hts := atoms_spec (ws := .code yX6_begin cX6_begin 2 none :: pw) B.pre
  have hts : ∀ w ∈ pw, w.before _ s = true := fun w h => hts w (List.mem_cons_of_mem _ h)
  have hown : s.vm.findClass RX6 = some m.cls := findClass_of_methodNamed B.named
  have hlocks := B.notSynchronized
  subst hsz
  have hD := hD0.self (sz := s.heap.size)
  generalize hAe : va_A [(h2, .inr (6, [(g 0), (g 1), (g 2), (g 3), (g 4), (g 5), (g 6), (g 7), (g 8), (g 9), (g 10), (g 11), (g 12), (g 13)]))] s.heap.size = A at hD ⊢
  have hA : ∀ q : Nat, s.heap.size ≤ q → A q := fun q h => by rw [← hAe]; exact Or.inr h
  have hS : va_S A s.heap s.heap [] := va_S.rf
  have hP : va_P (dC, dI) vwCl [(h2, .inr (6, [(g 0), (g 1), (g 2), (g 3), (g 4), (g 5), (g 6), (g 7), (g 8), (g 9), (g 10), (g 11), (g 12), (g 13)]))] s.heap := hP
  have hl := lv_entry ([.ref h2, .int 0]) (n := 2) (Nat.le_of_ble_eq_true rfl)
  rw [lg_entry_eq]
  generalize (lg_sl ([.ref h2, .int 0]) ++ List.replicate (2 - (lg_sl ([.ref h2, .int 0])).length) Slot.unset).toArray = ls at hl ⊢
  have hl : lv_has ls 2 [(0, .ref h2), (1, .int 0)] := hl
  refine lv_aload_n hx hb dX6_begin_0 rfl (lv_at hl 0 rfl) ?_
  refine lv_iload_n hx hb dX6_begin_1 rfl (lv_at hl 1 rfl) ?_
  refine va_put (D := (dC, dI)) (ci := 6) (v := .int 0) (ty := .int) (C := RX6) (T := TX6) (N := 14) hx hb hts inlX6 tyX6 tyX6_ok nmX6 hown hK hP hD hS 0 rfl rfl 2 (by decide) (hts (.fieldLink RX6 15 "ShapeReader$Tokens" "end" "I") mw_4_5) (fun _ h9 => h9) rfl (by decide +kernel) rfl rfl (Nat.le_of_ble_eq_true rfl) dX6_begin_2 (fun H locs hP hD hS => ?_)
  have hP : va_P (dC, dI) vwCl [(h2, .inr (6, [(g 0), (g 1), .int 0, (g 3), (g 4), (g 5), (g 6), (g 7), (g 8), (g 9), (g 10), (g 11), (g 12), (g 13)]))] H := hP
  have hD : va_D A [(h2, .inr (6, [(g 0), (g 1), .int 0, (g 3), (g 4), (g 5), (g 6), (g 7), (g 8), (g 9), (g 10), (g 11), (g 12), (g 13)]))] := hD
  refine lv_aload_n hx hb dX6_begin_5 rfl (lv_at hl 0 rfl) ?_
  refine lv_iconst (v := 0) hx hb dX6_begin_6 (by decide) ?_
  refine va_put (D := (dC, dI)) (ci := 6) (v := .int 0) (ty := .int) (C := RX6) (T := TX6) (N := 14) hx hb hts inlX6 tyX6 tyX6_ok nmX6 hown hK hP hD hS 0 rfl rfl 3 (by decide) (hts (.fieldLink RX6 19 "ShapeReader$Tokens" "next" "I") mw_4_6) (fun _ h9 => h9) rfl (by decide +kernel) rfl rfl (Nat.le_of_ble_eq_true rfl) dX6_begin_7 (fun H locs hP hD hS => ?_)
  have hP : va_P (dC, dI) vwCl [(h2, .inr (6, [(g 0), (g 1), .int 0, .int 0, (g 4), (g 5), (g 6), (g 7), (g 8), (g 9), (g 10), (g 11), (g 12), (g 13)]))] H := hP
  have hD : va_D A [(h2, .inr (6, [(g 0), (g 1), .int 0, .int 0, (g 4), (g 5), (g 6), (g 7), (g 8), (g 9), (g 10), (g 11), (g 12), (g 13)]))] := hD
  refine lv_aload_n hx hb dX6_begin_10 rfl (lv_at hl 0 rfl) ?_
  refine lv_iconst (v := 0) hx hb dX6_begin_11 (by decide) ?_
  refine va_put (D := (dC, dI)) (ci := 6) (v := .int 0) (ty := .int) (C := RX6) (T := TX6) (N := 14) hx hb hts inlX6 tyX6 tyX6_ok nmX6 hown hK hP hD hS 0 rfl rfl 12 (by decide) (hts (.fieldLink RX6 48 "ShapeReader$Tokens" "faultKind" "I") mw_4_15) (fun _ h9 => h9) rfl (by decide +kernel) rfl rfl (Nat.le_of_ble_eq_true rfl) dX6_begin_12 (fun H locs hP hD hS => ?_)
  have hP : va_P (dC, dI) vwCl [(h2, .inr (6, [(g 0), (g 1), .int 0, .int 0, (g 4), (g 5), (g 6), (g 7), (g 8), (g 9), (g 10), (g 11), .int 0, (g 13)]))] H := hP
  have hD : va_D A [(h2, .inr (6, [(g 0), (g 1), .int 0, .int 0, (g 4), (g 5), (g 6), (g 7), (g 8), (g 9), (g 10), (g 11), .int 0, (g 13)]))] := hD
  refine lv_aload_n hx hb dX6_begin_15 rfl (lv_at hl 0 rfl) ?_
  refine lv_iconst (v := 0) hx hb dX6_begin_16 (by decide) ?_
  refine va_put (D := (dC, dI)) (ci := 6) (v := .int 0) (ty := .int) (C := RX6) (T := TX6) (N := 14) hx hb hts inlX6 tyX6 tyX6_ok nmX6 hown hK hP hD hS 0 rfl rfl 13 (by decide) (hts (.fieldLink RX6 51 "ShapeReader$Tokens" "faultPlace" "I") mw_4_16) (fun _ h9 => h9) rfl (by decide +kernel) rfl rfl (Nat.le_of_ble_eq_true rfl) dX6_begin_17 (fun H locs hP hD hS => ?_)
  have hP : va_P (dC, dI) vwCl [(h2, .inr (6, [(g 0), (g 1), .int 0, .int 0, (g 4), (g 5), (g 6), (g 7), (g 8), (g 9), (g 10), (g 11), .int 0, .int 0]))] H := hP
  have hD : va_D A [(h2, .inr (6, [(g 0), (g 1), .int 0, .int 0, (g 4), (g 5), (g 6), (g 7), (g 8), (g 9), (g 10), (g 11), .int 0, .int 0]))] := hD
  refine lv_aload_n hx hb dX6_begin_20 rfl (lv_at hl 0 rfl) ?_
  have hPc := hP.sub (ws' := [(h2, .inr (6, [(g 0), (g 1), .int 0, .int 0, (g 4), (g 5), (g 6), (g 7), (g 8), (g 9), (g 10), (g 11), .int 0, .int 0]))]) [0] rfl
  have hDc := hD.sub (ws' := [(h2, .inr (6, [(g 0), (g 1), .int 0, .int 0, (g 4), (g 5), (g 6), (g 7), (g 8), (g 9), (g 10), (g 11), .int 0, .int 0]))]) [0] (by decide) rfl
  have hKc := hK.sub (tys' := []) [] rfl
  have hFc := va_free (wc := [(h2, .inr (6, [(g 0), (g 1), .int 0, .int 0, (g 4), (g 5), (g 6), (g 7), (g 8), (g 9), (g 10), (g 11), .int 0, .int 0]))]) hD hS hA [0] rfl
  refine va_callv (va_runV (As := []) (rest := []) ⟨hx, hb, hml, hown, hts⟩ (c_advance l dC dI h2 (fun k => (cond (Nat.beq k 12) (.int 0) (cond (Nat.beq k 13) (.int 0) (g k)))) H.size) (cwV 0 hts (gV mw_4_25 mw_4_26 mw_4_27 mw_0_10 mw_20_3) rfl rfl rfl (by decide +kernel) ⟨(Nat.le_of_ble_eq_true rfl), (Nat.le_of_ble_eq_true rfl)⟩) (vV (ci := 6) (q0 := 0) hKc hPc hDc rfl rfl) rfl rfl hl.1 rfl (lv_room (Nat.le_of_ble_eq_true rfl)) dX6_begin_21 ⟨(Nat.le_of_ble_eq_true rfl), (Nat.le_of_ble_eq_true rfl)⟩) hS (fun q _ h => hFc q h) hFc (fun u t H1 locs ht hvm hw hB hz1 hk1 hS => ?_)
  obtain ⟨hP1, hK1, hD1⟩ := hB
  rw [ht] at hP1
  have hK1 := va_K.moved hvm.symm hK1
  obtain ⟨hP, hD⟩ := va_join (wr := []) (w1 := [(h2, .inr (6, [(g 0), (g 1), .int 0, .int 0, .int 0, .int 0, (g 6), (g 7), (g 8), (g 9), (g 10), (g 11), .int 0, .int 0]))]) hP hD [0] [] rfl rfl (by decide) (by decide) hk1 hFc hP1 hD1
  clear hPc hDc hKc hP1 hK1 hD1 hFc hk1 hz1
  generalize H1 = H at hP hS ⊢
  have hP : va_P (dC, dI) vwCl [(h2, .inr (6, [(g 0), (g 1), .int 0, .int 0, .int 0, .int 0, (g 6), (g 7), (g 8), (g 9), (g 10), (g 11), .int 0, .int 0]))] H := hP
  have hD : va_D A [(h2, .inr (6, [(g 0), (g 1), .int 0, .int 0, .int 0, .int 0, (g 6), (g 7), (g 8), (g 9), (g 10), (g 11), .int 0, .int 0]))] := hD
  have hP9 := hP.sub (ws' := [(h2, .inr (6, [(g 0), (g 1), .int 0, .int 0, .int 0, .int 0, (g 6), (g 7), (g 8), (g 9), (g 10), (g 11), .int 0, .int 0]))]) [0] rfl
  have hD9 := hD.sub (ws' := [(h2, .inr (6, [(g 0), (g 1), .int 0, .int 0, .int 0, .int 0, (g 6), (g 7), (g 8), (g 9), (g 10), (g 11), .int 0, .int 0]))]) [0] (by decide) rfl
  have hK9 := hK.sub (tys' := []) [] rfl
  refine W.widen (k := 0) (n := 0) (Nat.le_of_ble_eq_true rfl) (Nat.le_of_ble_eq_true rfl) ?_
  exact W.vret hx hb hr (fun t ht hW => ⟨⟨(), rfl, trivial, by rw [ht]; exact hP9, va_K.moved hW.alike hK9, hD9⟩, hS.F ht⟩) hS.2.2 dX6_begin_24

set_option maxRecDepth 100000 in
set_option maxHeartbeats 4000000 in
theorem c_refuseAt (l : Launch) (dC : Nat → ClassId) (dI : Nat → Nat → Nat) (h2 : Nat) (g : Nat → Value) (sz : Nat) : Met l yX6_refuseAt (.code yX6_refuseAt cX6_refuseAt 3 (some .boolean) :: pw) ({ frames := 0, cells := 0, slots := 0, locals := 0 }) (va_Pc [.ref h2, .int 1, .int 0] (vPre dC dI [(h2, .inr (6, [(g 0), (g 1), (g 2), (g 3), (g 4), (g 5), (g 6), (g 7), (g 8), (g 9), (g 10), (g 11), .int 0, (g 13)]))] [] sz)) (va_Qi (fun (r : Int32) (_ : Unit) => r = 0) (fun (_ : Unit) t => vPst dC dI (va_A [(h2, .inr (6, [(g 0), (g 1), (g 2), (g 3), (g 4), (g 5), (g 6), (g 7), (g 8), (g 9), (g 10), (g 11), .int 0, (g 13)]))] sz) [(h2, .inr (6, [(g 0), (g 1), (g 2), (g 3), (g 4), (g 5), (g 6), (g 7), (g 8), (g 9), (g 10), (g 11), .int 1, .int 0]))] [] t) (va_A [(h2, .inr (6, [(g 0), (g 1), (g 2), (g 3), (g 4), (g 5), (g 6), (g 7), (g 8), (g 9), (g 10), (g 11), .int 0, (g 13)]))] sz)) 0 0 (va_A [(h2, .inr (6, [(g 0), (g 1), (g 2), (g 3), (g 4), (g 5), (g 6), (g 7), (g 8), (g 9), (g 10), (g 11), .int 0, (g 13)]))] sz) := by
  refine Met.ofW (cc := cX6_refuseAt) (maxL := 3) (ret := (some .boolean)) (by decide) rfl ?_
  intro p e s m args below meth c s₁ B hml hv
  obtain ⟨rfl, hsz, hP, hK, hD0⟩ := hv
  have hx := B.exec
  have hb := B.bytes
  have hr := B.returns
  have hts := atoms_spec (ws := .code yX6_refuseAt cX6_refuseAt 3 (some .boolean) :: pw) B.pre
  have hts : ∀ w ∈ pw, w.before _ s = true := fun w h => hts w (List.mem_cons_of_mem _ h)
  have hown : s.vm.findClass RX6 = some m.cls := findClass_of_methodNamed B.named
  have hlocks := B.notSynchronized
  subst hsz
  have hD := hD0.self (sz := s.heap.size)
  generalize hAe : va_A [(h2, .inr (6, [(g 0), (g 1), (g 2), (g 3), (g 4), (g 5), (g 6), (g 7), (g 8), (g 9), (g 10), (g 11), .int 0, (g 13)]))] s.heap.size = A at hD ⊢
  have hA : ∀ q : Nat, s.heap.size ≤ q → A q := fun q h => by rw [← hAe]; exact Or.inr h
  have hS : va_S A s.heap s.heap [] := va_S.rf
  have hP : va_P (dC, dI) vwCl [(h2, .inr (6, [(g 0), (g 1), (g 2), (g 3), (g 4), (g 5), (g 6), (g 7), (g 8), (g 9), (g 10), (g 11), .int 0, (g 13)]))] s.heap := hP
  have hl := lv_entry ([.ref h2, .int 1, .int 0]) (n := 3) (Nat.le_of_ble_eq_true rfl)
  rw [lg_entry_eq]
  generalize (lg_sl ([.ref h2, .int 1, .int 0]) ++ List.replicate (3 - (lg_sl ([.ref h2, .int 1, .int 0])).length) Slot.unset).toArray = ls at hl ⊢
  have hl : lv_has ls 3 [(0, .ref h2), (1, .int 1), (2, .int 0)] := hl
  refine lv_aload_n hx hb dX6_refuseAt_0 rfl (lv_at hl 0 rfl) ?_
  refine va_get (D := (dC, dI)) (ci := 6) (v := .int 0) (C := RX6) (T := TX6) (N := 14) hx hb hts inlX6 hown hK hP 0 rfl rfl 12 (by decide) (hts (.fieldLink RX6 48 "ShapeReader$Tokens" "faultKind" "I") mw_4_15) (fun _ h9 => h9) rfl dX6_refuseAt_1 ?_
  refine lv_if_ne (tgt := 17) hx hb dX6_refuseAt_4 (by decide) (fun h => absurd rfl h) (fun _ => ?_)
  refine lv_aload_n hx hb dX6_refuseAt_7 rfl (lv_at hl 0 rfl) ?_
  refine lv_iload_n hx hb dX6_refuseAt_8 rfl (lv_at hl 1 rfl) ?_
  refine va_put (D := (dC, dI)) (ci := 6) (v := .int 1) (ty := .int) (C := RX6) (T := TX6) (N := 14) hx hb hts inlX6 tyX6 tyX6_ok nmX6 hown hK hP hD hS 0 rfl rfl 12 (by decide) (hts (.fieldLink RX6 48 "ShapeReader$Tokens" "faultKind" "I") mw_4_15) (fun _ h9 => h9) rfl (by decide +kernel) rfl rfl (Nat.le_of_ble_eq_true rfl) dX6_refuseAt_9 (fun H locs hP hD hS => ?_)
  have hP : va_P (dC, dI) vwCl [(h2, .inr (6, [(g 0), (g 1), (g 2), (g 3), (g 4), (g 5), (g 6), (g 7), (g 8), (g 9), (g 10), (g 11), .int 1, (g 13)]))] H := hP
  have hD : va_D A [(h2, .inr (6, [(g 0), (g 1), (g 2), (g 3), (g 4), (g 5), (g 6), (g 7), (g 8), (g 9), (g 10), (g 11), .int 1, (g 13)]))] := hD
  refine lv_aload_n hx hb dX6_refuseAt_12 rfl (lv_at hl 0 rfl) ?_
  refine lv_iload_n hx hb dX6_refuseAt_13 rfl (lv_at hl 2 rfl) ?_
  refine va_put (D := (dC, dI)) (ci := 6) (v := .int 0) (ty := .int) (C := RX6) (T := TX6) (N := 14) hx hb hts inlX6 tyX6 tyX6_ok nmX6 hown hK hP hD hS 0 rfl rfl 13 (by decide) (hts (.fieldLink RX6 51 "ShapeReader$Tokens" "faultPlace" "I") mw_4_16) (fun _ h9 => h9) rfl (by decide +kernel) rfl rfl (Nat.le_of_ble_eq_true rfl) dX6_refuseAt_14 (fun H locs hP hD hS => ?_)
  have hP : va_P (dC, dI) vwCl [(h2, .inr (6, [(g 0), (g 1), (g 2), (g 3), (g 4), (g 5), (g 6), (g 7), (g 8), (g 9), (g 10), (g 11), .int 1, .int 0]))] H := hP
  have hD : va_D A [(h2, .inr (6, [(g 0), (g 1), (g 2), (g 3), (g 4), (g 5), (g 6), (g 7), (g 8), (g 9), (g 10), (g 11), .int 1, .int 0]))] := hD
  refine lv_iconst (v := 0) hx hb dX6_refuseAt_17 (by decide) ?_
  have hP9 := hP.sub (ws' := [(h2, .inr (6, [(g 0), (g 1), (g 2), (g 3), (g 4), (g 5), (g 6), (g 7), (g 8), (g 9), (g 10), (g 11), .int 1, .int 0]))]) [0] rfl
  have hD9 := hD.sub (ws' := [(h2, .inr (6, [(g 0), (g 1), (g 2), (g 3), (g 4), (g 5), (g 6), (g 7), (g 8), (g 9), (g 10), (g 11), .int 1, .int 0]))]) [0] (by decide) rfl
  have hK9 := hK.sub (tys' := []) [] rfl
  refine W.widen (k := 0) (n := 0) (Nat.le_of_ble_eq_true rfl) (Nat.le_of_ble_eq_true rfl) ?_
  exact W.zret (v := 0) hx hb hr rfl (fun t ht hW => ⟨⟨0, (), rfl, rfl, by rw [ht]; exact hP9, va_K.moved hW.alike hK9, hD9⟩, hS.F ht⟩) hS.2.2 dX6_refuseAt_18

set_option maxRecDepth 100000 in
set_option maxHeartbeats 4000000 in
theorem c_refuse (l : Launch) (dC : Nat → ClassId) (dI : Nat → Nat → Nat) (h2 : Nat) (g : Nat → Value) (sz : Nat) : Met l yX6_refuse (.code yX6_refuse cX6_refuse 2 (some .boolean) :: pw) ({ frames := 1, cells := 0, slots := 0, locals := 22 }) (va_Pc [.ref h2, .int 1] (vPre dC dI [(h2, .inr (6, [(g 0), (g 1), (g 2), (g 3), (g 4), .int 0, (g 6), (g 7), (g 8), (g 9), (g 10), (g 11), .int 0, (g 13)]))] [] sz)) (va_Qi (fun (r : Int32) (_ : Unit) => r = 0) (fun (_ : Unit) t => vPst dC dI (va_A [(h2, .inr (6, [(g 0), (g 1), (g 2), (g 3), (g 4), .int 0, (g 6), (g 7), (g 8), (g 9), (g 10), (g 11), .int 0, (g 13)]))] sz) [(h2, .inr (6, [(g 0), (g 1), (g 2), (g 3), (g 4), .int 0, (g 6), (g 7), (g 8), (g 9), (g 10), (g 11), .int 1, .int 0]))] [] t) (va_A [(h2, .inr (6, [(g 0), (g 1), (g 2), (g 3), (g 4), .int 0, (g 6), (g 7), (g 8), (g 9), (g 10), (g 11), .int 0, (g 13)]))] sz)) 0 0 (va_A [(h2, .inr (6, [(g 0), (g 1), (g 2), (g 3), (g 4), .int 0, (g 6), (g 7), (g 8), (g 9), (g 10), (g 11), .int 0, (g 13)]))] sz) := by
  refine Met.ofW (cc := cX6_refuse) (maxL := 2) (ret := (some .boolean)) (by decide) rfl ?_
  intro p e s m args below meth c s₁ B hml hv
  obtain ⟨rfl, hsz, hP, hK, hD0⟩ := hv
  have hx := B.exec
  have hb := B.bytes
  have hr := B.returns
  have hts := atoms_spec (ws := .code yX6_refuse cX6_refuse 2 (some .boolean) :: pw) B.pre
  have hts : ∀ w ∈ pw, w.before _ s = true := fun w h => hts w (List.mem_cons_of_mem _ h)
  have hown : s.vm.findClass RX6 = some m.cls := findClass_of_methodNamed B.named
  have hlocks := B.notSynchronized
  subst hsz
  have hD := hD0.self (sz := s.heap.size)
  generalize hAe : va_A [(h2, .inr (6, [(g 0), (g 1), (g 2), (g 3), (g 4), .int 0, (g 6), (g 7), (g 8), (g 9), (g 10), (g 11), .int 0, (g 13)]))] s.heap.size = A at hD ⊢
  have hA : ∀ q : Nat, s.heap.size ≤ q → A q := fun q h => by rw [← hAe]; exact Or.inr h
  have hS : va_S A s.heap s.heap [] := va_S.rf
  have hP : va_P (dC, dI) vwCl [(h2, .inr (6, [(g 0), (g 1), (g 2), (g 3), (g 4), .int 0, (g 6), (g 7), (g 8), (g 9), (g 10), (g 11), .int 0, (g 13)]))] s.heap := hP
  have hl := lv_entry ([.ref h2, .int 1]) (n := 2) (Nat.le_of_ble_eq_true rfl)
  rw [lg_entry_eq]
  generalize (lg_sl ([.ref h2, .int 1]) ++ List.replicate (2 - (lg_sl ([.ref h2, .int 1])).length) Slot.unset).toArray = ls at hl ⊢
  have hl : lv_has ls 2 [(0, .ref h2), (1, .int 1)] := hl
  refine lv_aload_n hx hb dX6_refuse_0 rfl (lv_at hl 0 rfl) ?_
  refine lv_iload_n hx hb dX6_refuse_1 rfl (lv_at hl 1 rfl) ?_
  refine lv_aload_n hx hb dX6_refuse_2 rfl (lv_at hl 0 rfl) ?_
  refine va_get (D := (dC, dI)) (ci := 6) (v := .int 0) (C := RX6) (T := TX6) (N := 14) hx hb hts inlX6 hown hK hP 0 rfl rfl 5 (by decide) (hts (.fieldLink RX6 25 "ShapeReader$Tokens" "start" "I") mw_4_8) (fun _ h9 => h9) rfl dX6_refuse_3 ?_
  have hPc := hP.sub (ws' := [(h2, .inr (6, [(g 0), (g 1), (g 2), (g 3), (g 4), .int 0, (g 6), (g 7), (g 8), (g 9), (g 10), (g 11), .int 0, (g 13)]))]) [0] rfl
  have hDc := hD.sub (ws' := [(h2, .inr (6, [(g 0), (g 1), (g 2), (g 3), (g 4), .int 0, (g 6), (g 7), (g 8), (g 9), (g 10), (g 11), .int 0, (g 13)]))]) [0] (by decide) rfl
  have hKc := hK.sub (tys' := []) [] rfl
  have hFc := va_free (wc := [(h2, .inr (6, [(g 0), (g 1), (g 2), (g 3), (g 4), .int 0, (g 6), (g 7), (g 8), (g 9), (g 10), (g 11), .int 0, (g 13)]))]) hD hS hA [0] rfl
  refine va_calli (va_runV (As := [.int 1, .int 0]) (rest := []) ⟨hx, hb, hml, hown, hts⟩ (c_refuseAt l dC dI h2 (fun k => (cond (Nat.beq k 5) (.int 0) (g k))) s.heap.size) (cwV 2 hts (gV mw_4_28 mw_4_29 mw_5_0 mw_0_10 mw_20_0) rfl rfl rfl (by decide +kernel) ⟨(Nat.le_of_ble_eq_true rfl), (Nat.le_of_ble_eq_true rfl)⟩) (vV (ci := 6) (q0 := 0) hKc hPc hDc rfl rfl) rfl rfl hl.1 rfl (lv_room (Nat.le_of_ble_eq_true rfl)) dX6_refuse_6 ⟨(Nat.le_of_ble_eq_true rfl), (Nat.le_of_ble_eq_true rfl)⟩) hS (fun q _ h => hFc q h) hFc (fun r_1 u t H1 locs ht hvm hw hB hz1 hk1 hS => ?_)
  obtain ⟨hP1, hK1, hD1⟩ := hB
  rw [ht] at hP1
  have hK1 := va_K.moved hvm.symm hK1
  obtain ⟨hP, hD⟩ := va_join (wr := []) (w1 := [(h2, .inr (6, [(g 0), (g 1), (g 2), (g 3), (g 4), .int 0, (g 6), (g 7), (g 8), (g 9), (g 10), (g 11), .int 1, .int 0]))]) hP hD [0] [] rfl rfl (by decide) (by decide) hk1 hFc hP1 hD1
  clear hPc hDc hKc hP1 hK1 hD1 hFc hk1 hz1
  generalize H1 = H at hP hS ⊢
  have hP : va_P (dC, dI) vwCl [(h2, .inr (6, [(g 0), (g 1), (g 2), (g 3), (g 4), .int 0, (g 6), (g 7), (g 8), (g 9), (g 10), (g 11), .int 1, .int 0]))] H := hP
  have hD : va_D A [(h2, .inr (6, [(g 0), (g 1), (g 2), (g 3), (g 4), .int 0, (g 6), (g 7), (g 8), (g 9), (g 10), (g 11), .int 1, .int 0]))] := hD
  obtain rfl : r_1 = 0 := hw
  have hP9 := hP.sub (ws' := [(h2, .inr (6, [(g 0), (g 1), (g 2), (g 3), (g 4), .int 0, (g 6), (g 7), (g 8), (g 9), (g 10), (g 11), .int 1, .int 0]))]) [0] rfl
  have hD9 := hD.sub (ws' := [(h2, .inr (6, [(g 0), (g 1), (g 2), (g 3), (g 4), .int 0, (g 6), (g 7), (g 8), (g 9), (g 10), (g 11), .int 1, .int 0]))]) [0] (by decide) rfl
  have hK9 := hK.sub (tys' := []) [] rfl
  refine W.widen (k := 0) (n := 0) (Nat.le_of_ble_eq_true rfl) (Nat.le_of_ble_eq_true rfl) ?_
  exact W.zret (v := 0) hx hb hr rfl (fun t ht hW => ⟨⟨0, (), rfl, rfl, by rw [ht]; exact hP9, va_K.moved hW.alike hK9, hD9⟩, hS.F ht⟩) hS.2.2 dX6_refuse_9

set_option maxRecDepth 100000 in
set_option maxHeartbeats 4000000 in
theorem c_faultAnswer (l : Launch) (dC : Nat → ClassId) (dI : Nat → Nat → Nat) (h2 : Nat) (g : Nat → Value) (sz : Nat) : Met l yX6_faultAnswer (.code yX6_faultAnswer cX6_faultAnswer 1 (some .int) :: pw) ({ frames := 0, cells := 0, slots := 0, locals := 0 }) (va_Pc [.ref h2] (vPre dC dI [(h2, .inr (6, [(g 0), (g 1), (g 2), (g 3), (g 4), (g 5), (g 6), (g 7), (g 8), (g 9), (g 10), (g 11), .int 1, .int 0]))] [] sz)) (va_Qi (fun (r : Int32) (_ : Unit) => r = (-3)) (fun (_ : Unit) t => vPst dC dI (va_A [(h2, .inr (6, [(g 0), (g 1), (g 2), (g 3), (g 4), (g 5), (g 6), (g 7), (g 8), (g 9), (g 10), (g 11), .int 1, .int 0]))] sz) [(h2, .inr (6, [(g 0), (g 1), (g 2), (g 3), (g 4), (g 5), (g 6), (g 7), (g 8), (g 9), (g 10), (g 11), .int 1, .int 0]))] [] t) (va_A [(h2, .inr (6, [(g 0), (g 1), (g 2), (g 3), (g 4), (g 5), (g 6), (g 7), (g 8), (g 9), (g 10), (g 11), .int 1, .int 0]))] sz)) 0 0 (va_A [(h2, .inr (6, [(g 0), (g 1), (g 2), (g 3), (g 4), (g 5), (g 6), (g 7), (g 8), (g 9), (g 10), (g 11), .int 1, .int 0]))] sz) := by
  refine Met.ofW (cc := cX6_faultAnswer) (maxL := 1) (ret := (some .int)) (by decide) rfl ?_
  intro p e s m args below meth c s₁ B hml hv
  obtain ⟨rfl, hsz, hP, hK, hD0⟩ := hv
  have hx := B.exec
  have hb := B.bytes
  have hr := B.returns
  have hts := atoms_spec (ws := .code yX6_faultAnswer cX6_faultAnswer 1 (some .int) :: pw) B.pre
  have hts : ∀ w ∈ pw, w.before _ s = true := fun w h => hts w (List.mem_cons_of_mem _ h)
  have hown : s.vm.findClass RX6 = some m.cls := findClass_of_methodNamed B.named
  have hlocks := B.notSynchronized
  subst hsz
  have hD := hD0.self (sz := s.heap.size)
  generalize hAe : va_A [(h2, .inr (6, [(g 0), (g 1), (g 2), (g 3), (g 4), (g 5), (g 6), (g 7), (g 8), (g 9), (g 10), (g 11), .int 1, .int 0]))] s.heap.size = A at hD ⊢
  have hA : ∀ q : Nat, s.heap.size ≤ q → A q := fun q h => by rw [← hAe]; exact Or.inr h
  have hS : va_S A s.heap s.heap [] := va_S.rf
  have hP : va_P (dC, dI) vwCl [(h2, .inr (6, [(g 0), (g 1), (g 2), (g 3), (g 4), (g 5), (g 6), (g 7), (g 8), (g 9), (g 10), (g 11), .int 1, .int 0]))] s.heap := hP
  have hl := lv_entry ([.ref h2]) (n := 1) (Nat.le_of_ble_eq_true rfl)
  rw [lg_entry_eq]
  generalize (lg_sl ([.ref h2]) ++ List.replicate (1 - (lg_sl ([.ref h2])).length) Slot.unset).toArray = ls at hl ⊢
  have hl : lv_has ls 1 [(0, .ref h2)] := hl
  refine lv_bipush (v := (-2)) hx hb dX6_faultAnswer_0 (by decide) ?_
  refine lv_bipush (v := 8) hx hb dX6_faultAnswer_2 (by decide) ?_
  refine lv_aload_n hx hb dX6_faultAnswer_4 rfl (lv_at hl 0 rfl) ?_
  refine va_get (D := (dC, dI)) (ci := 6) (v := .int 0) (C := RX6) (T := TX6) (N := 14) hx hb hts inlX6 hown hK hP 0 rfl rfl 13 (by decide) (hts (.fieldLink RX6 51 "ShapeReader$Tokens" "faultPlace" "I") mw_4_16) (fun _ h9 => h9) rfl dX6_faultAnswer_5 ?_
  refine lv_imul hx hb dX6_faultAnswer_8 ?_
  refine lv_topi (fun k_1 ek_1 => ?_)
  obtain rfl : k_1 = 0 := ek_1.trans (by decide)
  refine lv_aload_n hx hb dX6_faultAnswer_9 rfl (lv_at hl 0 rfl) ?_
  refine va_get (D := (dC, dI)) (ci := 6) (v := .int 1) (C := RX6) (T := TX6) (N := 14) hx hb hts inlX6 hown hK hP 0 rfl rfl 12 (by decide) (hts (.fieldLink RX6 48 "ShapeReader$Tokens" "faultKind" "I") mw_4_15) (fun _ h9 => h9) rfl dX6_faultAnswer_10 ?_
  refine lv_iadd hx hb dX6_faultAnswer_13 ?_
  refine lv_topi (fun k_2 ek_2 => ?_)
  obtain rfl : k_2 = 1 := ek_2.trans (by decide)
  refine lv_isub hx hb dX6_faultAnswer_14 ?_
  refine lv_topi (fun k_3 ek_3 => ?_)
  obtain rfl : k_3 = (-3) := ek_3.trans (by decide)
  have hP9 := hP.sub (ws' := [(h2, .inr (6, [(g 0), (g 1), (g 2), (g 3), (g 4), (g 5), (g 6), (g 7), (g 8), (g 9), (g 10), (g 11), .int 1, .int 0]))]) [0] rfl
  have hD9 := hD.sub (ws' := [(h2, .inr (6, [(g 0), (g 1), (g 2), (g 3), (g 4), (g 5), (g 6), (g 7), (g 8), (g 9), (g 10), (g 11), .int 1, .int 0]))]) [0] (by decide) rfl
  have hK9 := hK.sub (tys' := []) [] rfl
  refine W.widen (k := 0) (n := 0) (Nat.le_of_ble_eq_true rfl) (Nat.le_of_ble_eq_true rfl) ?_
  exact W.iret (v := (-3)) hx hb hr (fun t ht hW => ⟨⟨(-3), (), rfl, rfl, by rw [ht]; exact hP9, va_K.moved hW.alike hK9, hD9⟩, hS.F ht⟩) hS.2.2 dX6_faultAnswer_15

set_option maxRecDepth 100000 in
set_option maxHeartbeats 4000000 in
theorem c_isKeyword (l : Launch) (dC : Nat → ClassId) (dI : Nat → Nat → Nat) (h2 : Nat) (g : Nat → Value) (p0 : Int32) (sz : Nat) : Met l yX6_isKeyword (.code yX6_isKeyword cX6_isKeyword 2 (some .boolean) :: pw) ({ frames := 0, cells := 0, slots := 0, locals := 0 }) (va_Pc [.ref h2, .int p0] (vPre dC dI [(h2, .inr (6, [(g 0), (g 1), (g 2), (g 3), .int 0, (g 5), (g 6), (g 7), (g 8), (g 9), (g 10), (g 11), (g 12), (g 13)]))] [] sz)) (va_Qi (fun (r : Int32) (_ : Unit) => r = 0) (fun (_ : Unit) t => vPst dC dI (va_A [(h2, .inr (6, [(g 0), (g 1), (g 2), (g 3), .int 0, (g 5), (g 6), (g 7), (g 8), (g 9), (g 10), (g 11), (g 12), (g 13)]))] sz) [(h2, .inr (6, [(g 0), (g 1), (g 2), (g 3), .int 0, (g 5), (g 6), (g 7), (g 8), (g 9), (g 10), (g 11), (g 12), (g 13)]))] [] t) (va_A [(h2, .inr (6, [(g 0), (g 1), (g 2), (g 3), .int 0, (g 5), (g 6), (g 7), (g 8), (g 9), (g 10), (g 11), (g 12), (g 13)]))] sz)) 0 0 (va_A [(h2, .inr (6, [(g 0), (g 1), (g 2), (g 3), .int 0, (g 5), (g 6), (g 7), (g 8), (g 9), (g 10), (g 11), (g 12), (g 13)]))] sz) := by
  refine Met.ofW (cc := cX6_isKeyword) (maxL := 2) (ret := (some .boolean)) (by decide) rfl ?_
  intro p e s m args below meth c s₁ B hml hv
  obtain ⟨rfl, hsz, hP, hK, hD0⟩ := hv
  have hx := B.exec
  have hb := B.bytes
  have hr := B.returns
  have hts := atoms_spec (ws := .code yX6_isKeyword cX6_isKeyword 2 (some .boolean) :: pw) B.pre
  have hts : ∀ w ∈ pw, w.before _ s = true := fun w h => hts w (List.mem_cons_of_mem _ h)
  have hown : s.vm.findClass RX6 = some m.cls := findClass_of_methodNamed B.named
  have hlocks := B.notSynchronized
  subst hsz
  have hD := hD0.self (sz := s.heap.size)
  generalize hAe : va_A [(h2, .inr (6, [(g 0), (g 1), (g 2), (g 3), .int 0, (g 5), (g 6), (g 7), (g 8), (g 9), (g 10), (g 11), (g 12), (g 13)]))] s.heap.size = A at hD ⊢
  have hA : ∀ q : Nat, s.heap.size ≤ q → A q := fun q h => by rw [← hAe]; exact Or.inr h
  have hS : va_S A s.heap s.heap [] := va_S.rf
  have hP : va_P (dC, dI) vwCl [(h2, .inr (6, [(g 0), (g 1), (g 2), (g 3), .int 0, (g 5), (g 6), (g 7), (g 8), (g 9), (g 10), (g 11), (g 12), (g 13)]))] s.heap := hP
  have hl := lv_entry ([.ref h2, .int p0]) (n := 2) (Nat.le_of_ble_eq_true rfl)
  rw [lg_entry_eq]
  generalize (lg_sl ([.ref h2, .int p0]) ++ List.replicate (2 - (lg_sl ([.ref h2, .int p0])).length) Slot.unset).toArray = ls at hl ⊢
  have hl : lv_has ls 2 [(0, .ref h2), (1, .int p0)] := hl
  refine lv_aload_n hx hb dX6_isKeyword_0 rfl (lv_at hl 0 rfl) ?_
  refine va_get (D := (dC, dI)) (ci := 6) (v := .int 0) (C := RX6) (T := TX6) (N := 14) hx hb hts inlX6 hown hK hP 0 rfl rfl 4 (by decide) (hts (.fieldLink RX6 22 "ShapeReader$Tokens" "kind" "I") mw_4_7) (fun _ h9 => h9) rfl dX6_isKeyword_1 ?_
  refine lv_iconst (v := 2) hx hb dX6_isKeyword_4 (by decide) ?_
  refine lv_icmp_ne (tgt := 20) hx hb dX6_isKeyword_5 (by decide) (fun _ => ?_) (fun h => absurd h (by decide))
  refine lv_iconst (v := 0) hx hb dX6_isKeyword_20 (by decide) ?_
  have hP9 := hP.sub (ws' := [(h2, .inr (6, [(g 0), (g 1), (g 2), (g 3), .int 0, (g 5), (g 6), (g 7), (g 8), (g 9), (g 10), (g 11), (g 12), (g 13)]))]) [0] rfl
  have hD9 := hD.sub (ws' := [(h2, .inr (6, [(g 0), (g 1), (g 2), (g 3), .int 0, (g 5), (g 6), (g 7), (g 8), (g 9), (g 10), (g 11), (g 12), (g 13)]))]) [0] (by decide) rfl
  have hK9 := hK.sub (tys' := []) [] rfl
  refine W.widen (k := 0) (n := 0) (Nat.le_of_ble_eq_true rfl) (Nat.le_of_ble_eq_true rfl) ?_
  exact W.zret (v := 0) hx hb hr rfl (fun t ht hW => ⟨⟨0, (), rfl, rfl, by rw [ht]; exact hP9, va_K.moved hW.alike hK9, hD9⟩, hS.F ht⟩) hS.2.2 dX6_isKeyword_21

set_option maxRecDepth 100000 in
set_option maxHeartbeats 4000000 in
theorem c_sclear (l : Launch) (dC : Nat → ClassId) (dI : Nat → Nat → Nat) (h4 : Nat) (g : Nat → Value) (sz : Nat) : Met l yX5_clear (.code yX5_clear cX5_clear 1 none :: pw) ({ frames := 0, cells := 0, slots := 0, locals := 0 }) (va_Pc [.ref h4] (vPre dC dI [(h4, .inr (5, [(g 0), (g 1), (g 2), (g 3), (g 4), (g 5), (g 6), (g 7), (g 8), (g 9), (g 10), (g 11), (g 12), (g 13), (g 14), (g 15), (g 16)]))] [] sz)) (va_Qv (fun (_ : Unit) => True) (fun (_ : Unit) t => vPst dC dI (va_A [(h4, .inr (5, [(g 0), (g 1), (g 2), (g 3), (g 4), (g 5), (g 6), (g 7), (g 8), (g 9), (g 10), (g 11), (g 12), (g 13), (g 14), (g 15), (g 16)]))] sz) [(h4, .inr (5, [.int 0, .int 0, (g 2), (g 3), (g 4), (g 5), (g 6), (g 7), (g 8), (g 9), (g 10), (g 11), (g 12), (g 13), (g 14), (g 15), (g 16)]))] [] t) (va_A [(h4, .inr (5, [(g 0), (g 1), (g 2), (g 3), (g 4), (g 5), (g 6), (g 7), (g 8), (g 9), (g 10), (g 11), (g 12), (g 13), (g 14), (g 15), (g 16)]))] sz)) 0 0 (va_A [(h4, .inr (5, [(g 0), (g 1), (g 2), (g 3), (g 4), (g 5), (g 6), (g 7), (g 8), (g 9), (g 10), (g 11), (g 12), (g 13), (g 14), (g 15), (g 16)]))] sz) := by
  refine Met.ofW (cc := cX5_clear) (maxL := 1) (ret := none) (by decide) rfl ?_
  intro p e s m args below meth c s₁ B hml hv
  obtain ⟨rfl, hsz, hP, hK, hD0⟩ := hv
  have hx := B.exec
  have hb := B.bytes
  have hr := B.returns
  have hts := atoms_spec (ws := .code yX5_clear cX5_clear 1 none :: pw) B.pre
  have hts : ∀ w ∈ pw, w.before _ s = true := fun w h => hts w (List.mem_cons_of_mem _ h)
  have hown : s.vm.findClass RX5 = some m.cls := findClass_of_methodNamed B.named
  have hlocks := B.notSynchronized
  subst hsz
  have hD := hD0.self (sz := s.heap.size)
  generalize hAe : va_A [(h4, .inr (5, [(g 0), (g 1), (g 2), (g 3), (g 4), (g 5), (g 6), (g 7), (g 8), (g 9), (g 10), (g 11), (g 12), (g 13), (g 14), (g 15), (g 16)]))] s.heap.size = A at hD ⊢
  have hA : ∀ q : Nat, s.heap.size ≤ q → A q := fun q h => by rw [← hAe]; exact Or.inr h
  have hS : va_S A s.heap s.heap [] := va_S.rf
  have hP : va_P (dC, dI) vwCl [(h4, .inr (5, [(g 0), (g 1), (g 2), (g 3), (g 4), (g 5), (g 6), (g 7), (g 8), (g 9), (g 10), (g 11), (g 12), (g 13), (g 14), (g 15), (g 16)]))] s.heap := hP
  have hl := lv_entry ([.ref h4]) (n := 1) (Nat.le_of_ble_eq_true rfl)
  rw [lg_entry_eq]
  generalize (lg_sl ([.ref h4]) ++ List.replicate (1 - (lg_sl ([.ref h4])).length) Slot.unset).toArray = ls at hl ⊢
  have hl : lv_has ls 1 [(0, .ref h4)] := hl
  refine lv_aload_n hx hb dX5_clear_0 rfl (lv_at hl 0 rfl) ?_
  refine lv_iconst (v := 0) hx hb dX5_clear_1 (by decide) ?_
  refine va_put (D := (dC, dI)) (ci := 5) (v := .int 0) (ty := .int) (C := RX5) (T := TX5) (N := 17) hx hb hts inlX5 tyX5 tyX5_ok nmX5 hown hK hP hD hS 0 rfl rfl 0 (by decide) (hts (.fieldLink RX5 9 "ShapeReader$Shapes" "planCount" "I") mw_5_5) (fun _ h9 => h9) rfl (by decide +kernel) rfl rfl (Nat.le_of_ble_eq_true rfl) dX5_clear_2 (fun H locs hP hD hS => ?_)
  have hP : va_P (dC, dI) vwCl [(h4, .inr (5, [.int 0, (g 1), (g 2), (g 3), (g 4), (g 5), (g 6), (g 7), (g 8), (g 9), (g 10), (g 11), (g 12), (g 13), (g 14), (g 15), (g 16)]))] H := hP
  have hD : va_D A [(h4, .inr (5, [.int 0, (g 1), (g 2), (g 3), (g 4), (g 5), (g 6), (g 7), (g 8), (g 9), (g 10), (g 11), (g 12), (g 13), (g 14), (g 15), (g 16)]))] := hD
  refine lv_aload_n hx hb dX5_clear_5 rfl (lv_at hl 0 rfl) ?_
  refine lv_iconst (v := 0) hx hb dX5_clear_6 (by decide) ?_
  refine va_put (D := (dC, dI)) (ci := 5) (v := .int 0) (ty := .int) (C := RX5) (T := TX5) (N := 17) hx hb hts inlX5 tyX5 tyX5_ok nmX5 hown hK hP hD hS 0 rfl rfl 1 (by decide) (hts (.fieldLink RX5 15 "ShapeReader$Shapes" "typeCount" "I") mw_5_6) (fun _ h9 => h9) rfl (by decide +kernel) rfl rfl (Nat.le_of_ble_eq_true rfl) dX5_clear_7 (fun H locs hP hD hS => ?_)
  have hP : va_P (dC, dI) vwCl [(h4, .inr (5, [.int 0, .int 0, (g 2), (g 3), (g 4), (g 5), (g 6), (g 7), (g 8), (g 9), (g 10), (g 11), (g 12), (g 13), (g 14), (g 15), (g 16)]))] H := hP
  have hD : va_D A [(h4, .inr (5, [.int 0, .int 0, (g 2), (g 3), (g 4), (g 5), (g 6), (g 7), (g 8), (g 9), (g 10), (g 11), (g 12), (g 13), (g 14), (g 15), (g 16)]))] := hD
  have hP9 := hP.sub (ws' := [(h4, .inr (5, [.int 0, .int 0, (g 2), (g 3), (g 4), (g 5), (g 6), (g 7), (g 8), (g 9), (g 10), (g 11), (g 12), (g 13), (g 14), (g 15), (g 16)]))]) [0] rfl
  have hD9 := hD.sub (ws' := [(h4, .inr (5, [.int 0, .int 0, (g 2), (g 3), (g 4), (g 5), (g 6), (g 7), (g 8), (g 9), (g 10), (g 11), (g 12), (g 13), (g 14), (g 15), (g 16)]))]) [0] (by decide) rfl
  have hK9 := hK.sub (tys' := []) [] rfl
  refine W.widen (k := 0) (n := 0) (Nat.le_of_ble_eq_true rfl) (Nat.le_of_ble_eq_true rfl) ?_
  exact W.vret hx hb hr (fun t ht hW => ⟨⟨(), rfl, trivial, by rw [ht]; exact hP9, va_K.moved hW.alike hK9, hD9⟩, hS.F ht⟩) hS.2.2 dX5_clear_10

set_option maxRecDepth 100000 in
set_option maxHeartbeats 4000000 in
theorem c_recordsOf (l : Launch) (dC : Nat → ClassId) (dI : Nat → Nat → Nat) (h4 : Nat) (g : Nat → Value) (sz : Nat) : Met l yX5_recordsOf (.code yX5_recordsOf cX5_recordsOf 2 (some .int) :: pw) ({ frames := 0, cells := 0, slots := 0, locals := 0 }) (va_Pc [.ref h4, .int (-1)] (vPre dC dI [(h4, .inr (5, [(g 0), (g 1), (g 2), (g 3), (g 4), (g 5), (g 6), (g 7), (g 8), (g 9), (g 10), (g 11), (g 12), (g 13), (g 14), (g 15), (g 16)]))] [] sz)) (va_Qi (fun (r : Int32) (_ : Unit) => r = 0) (fun (_ : Unit) t => vPst dC dI (va_A [(h4, .inr (5, [(g 0), (g 1), (g 2), (g 3), (g 4), (g 5), (g 6), (g 7), (g 8), (g 9), (g 10), (g 11), (g 12), (g 13), (g 14), (g 15), (g 16)]))] sz) [(h4, .inr (5, [(g 0), (g 1), (g 2), (g 3), (g 4), (g 5), (g 6), (g 7), (g 8), (g 9), (g 10), (g 11), (g 12), (g 13), (g 14), (g 15), (g 16)]))] [] t) (va_A [(h4, .inr (5, [(g 0), (g 1), (g 2), (g 3), (g 4), (g 5), (g 6), (g 7), (g 8), (g 9), (g 10), (g 11), (g 12), (g 13), (g 14), (g 15), (g 16)]))] sz)) 0 0 (va_A [(h4, .inr (5, [(g 0), (g 1), (g 2), (g 3), (g 4), (g 5), (g 6), (g 7), (g 8), (g 9), (g 10), (g 11), (g 12), (g 13), (g 14), (g 15), (g 16)]))] sz) := by
  refine Met.ofW (cc := cX5_recordsOf) (maxL := 2) (ret := (some .int)) (by decide) rfl ?_
  intro p e s m args below meth c s₁ B hml hv
  obtain ⟨rfl, hsz, hP, hK, hD0⟩ := hv
  have hx := B.exec
  have hb := B.bytes
  have hr := B.returns
  have hts := atoms_spec (ws := .code yX5_recordsOf cX5_recordsOf 2 (some .int) :: pw) B.pre
  have hts : ∀ w ∈ pw, w.before _ s = true := fun w h => hts w (List.mem_cons_of_mem _ h)
  have hown : s.vm.findClass RX5 = some m.cls := findClass_of_methodNamed B.named
  have hlocks := B.notSynchronized
  subst hsz
  have hD := hD0.self (sz := s.heap.size)
  generalize hAe : va_A [(h4, .inr (5, [(g 0), (g 1), (g 2), (g 3), (g 4), (g 5), (g 6), (g 7), (g 8), (g 9), (g 10), (g 11), (g 12), (g 13), (g 14), (g 15), (g 16)]))] s.heap.size = A at hD ⊢
  have hA : ∀ q : Nat, s.heap.size ≤ q → A q := fun q h => by rw [← hAe]; exact Or.inr h
  have hS : va_S A s.heap s.heap [] := va_S.rf
  have hP : va_P (dC, dI) vwCl [(h4, .inr (5, [(g 0), (g 1), (g 2), (g 3), (g 4), (g 5), (g 6), (g 7), (g 8), (g 9), (g 10), (g 11), (g 12), (g 13), (g 14), (g 15), (g 16)]))] s.heap := hP
  have hl := lv_entry ([.ref h4, .int (-1)]) (n := 2) (Nat.le_of_ble_eq_true rfl)
  rw [lg_entry_eq]
  generalize (lg_sl ([.ref h4, .int (-1)]) ++ List.replicate (2 - (lg_sl ([.ref h4, .int (-1)])).length) Slot.unset).toArray = ls at hl ⊢
  have hl : lv_has ls 2 [(0, .ref h4), (1, .int (-1))] := hl
  refine lv_iload_n hx hb dX5_recordsOf_0 rfl (lv_at hl 1 rfl) ?_
  refine lv_if_lt (tgt := 19) hx hb dX5_recordsOf_1 (by decide) (fun _ => ?_) (fun h => absurd (by decide) h)
  refine lv_iconst (v := 0) hx hb dX5_recordsOf_19 (by decide) ?_
  have hP9 := hP.sub (ws' := [(h4, .inr (5, [(g 0), (g 1), (g 2), (g 3), (g 4), (g 5), (g 6), (g 7), (g 8), (g 9), (g 10), (g 11), (g 12), (g 13), (g 14), (g 15), (g 16)]))]) [0] rfl
  have hD9 := hD.sub (ws' := [(h4, .inr (5, [(g 0), (g 1), (g 2), (g 3), (g 4), (g 5), (g 6), (g 7), (g 8), (g 9), (g 10), (g 11), (g 12), (g 13), (g 14), (g 15), (g 16)]))]) [0] (by decide) rfl
  have hK9 := hK.sub (tys' := []) [] rfl
  refine W.widen (k := 0) (n := 0) (Nat.le_of_ble_eq_true rfl) (Nat.le_of_ble_eq_true rfl) ?_
  exact W.iret (v := 0) hx hb hr (fun t ht hW => ⟨⟨0, (), rfl, rfl, by rw [ht]; exact hP9, va_K.moved hW.alike hK9, hD9⟩, hS.F ht⟩) hS.2.2 dX5_recordsOf_20

set_option maxRecDepth 100000 in
set_option maxHeartbeats 4000000 in
theorem c_parse (l : Launch) (dC : Nat → ClassId) (dI : Nat → Nat → Nat) (h5 : Nat) (h2 : Nat) (h4 : Nat) (g : Nat → Value) (gd : Nat → Value) (sz : Nat) : Met l yX3_parse (.code yX3_parse cX3_parse 6 (some .boolean) :: pw) ({ frames := 2, cells := 0, slots := 0, locals := 43 }) (va_Pc [.ref h5] (vPre dC dI [(h5, .inr (3, [.ref h2, .ref h4])), (h2, .inr (6, [(g 0), (g 1), (g 2), (g 3), .int 0, .int 0, (g 6), (g 7), (g 8), (g 9), (g 10), (g 11), .int 0, .int 0])), (h4, .inr (5, [(gd 0), (gd 1), (gd 2), (gd 3), (gd 4), (gd 5), (gd 6), (gd 7), (gd 8), (gd 9), (gd 10), (gd 11), (gd 12), (gd 13), (gd 14), (gd 15), (gd 16)]))] [] sz)) (va_Qi (fun (r : Int32) (_ : Unit) => r = 0) (fun (_ : Unit) t => vPst dC dI (va_A [(h5, .inr (3, [.ref h2, .ref h4])), (h2, .inr (6, [(g 0), (g 1), (g 2), (g 3), .int 0, .int 0, (g 6), (g 7), (g 8), (g 9), (g 10), (g 11), .int 0, .int 0])), (h4, .inr (5, [(gd 0), (gd 1), (gd 2), (gd 3), (gd 4), (gd 5), (gd 6), (gd 7), (gd 8), (gd 9), (gd 10), (gd 11), (gd 12), (gd 13), (gd 14), (gd 15), (gd 16)]))] sz) [(h2, .inr (6, [(g 0), (g 1), (g 2), (g 3), .int 0, .int 0, (g 6), (g 7), (g 8), (g 9), (g 10), (g 11), .int 1, .int 0]))] [] t) (va_A [(h5, .inr (3, [.ref h2, .ref h4])), (h2, .inr (6, [(g 0), (g 1), (g 2), (g 3), .int 0, .int 0, (g 6), (g 7), (g 8), (g 9), (g 10), (g 11), .int 0, .int 0])), (h4, .inr (5, [(gd 0), (gd 1), (gd 2), (gd 3), (gd 4), (gd 5), (gd 6), (gd 7), (gd 8), (gd 9), (gd 10), (gd 11), (gd 12), (gd 13), (gd 14), (gd 15), (gd 16)]))] sz)) 0 0 (va_A [(h5, .inr (3, [.ref h2, .ref h4])), (h2, .inr (6, [(g 0), (g 1), (g 2), (g 3), .int 0, .int 0, (g 6), (g 7), (g 8), (g 9), (g 10), (g 11), .int 0, .int 0])), (h4, .inr (5, [(gd 0), (gd 1), (gd 2), (gd 3), (gd 4), (gd 5), (gd 6), (gd 7), (gd 8), (gd 9), (gd 10), (gd 11), (gd 12), (gd 13), (gd 14), (gd 15), (gd 16)]))] sz) := by
  refine Met.ofW (cc := cX3_parse) (maxL := 6) (ret := (some .boolean)) (by decide) rfl ?_
  intro p e s m args below meth c s₁ B hml hv
  obtain ⟨rfl, hsz, hP, hK, hD0⟩ := hv
  have hx := B.exec
  have hb := B.bytes
  have hr := B.returns
  have hts := atoms_spec (ws := .code yX3_parse cX3_parse 6 (some .boolean) :: pw) B.pre
  have hts : ∀ w ∈ pw, w.before _ s = true := fun w h => hts w (List.mem_cons_of_mem _ h)
  have hown : s.vm.findClass RX3 = some m.cls := findClass_of_methodNamed B.named
  have hlocks := B.notSynchronized
  subst hsz
  have hD := hD0.self (sz := s.heap.size)
  generalize hAe : va_A [(h5, .inr (3, [.ref h2, .ref h4])), (h2, .inr (6, [(g 0), (g 1), (g 2), (g 3), .int 0, .int 0, (g 6), (g 7), (g 8), (g 9), (g 10), (g 11), .int 0, .int 0])), (h4, .inr (5, [(gd 0), (gd 1), (gd 2), (gd 3), (gd 4), (gd 5), (gd 6), (gd 7), (gd 8), (gd 9), (gd 10), (gd 11), (gd 12), (gd 13), (gd 14), (gd 15), (gd 16)]))] s.heap.size = A at hD ⊢
  have hA : ∀ q : Nat, s.heap.size ≤ q → A q := fun q h => by rw [← hAe]; exact Or.inr h
  have hS : va_S A s.heap s.heap [] := va_S.rf
  have hP : va_P (dC, dI) vwCl [(h5, .inr (3, [.ref h2, .ref h4])), (h2, .inr (6, [(g 0), (g 1), (g 2), (g 3), .int 0, .int 0, (g 6), (g 7), (g 8), (g 9), (g 10), (g 11), .int 0, .int 0])), (h4, .inr (5, [(gd 0), (gd 1), (gd 2), (gd 3), (gd 4), (gd 5), (gd 6), (gd 7), (gd 8), (gd 9), (gd 10), (gd 11), (gd 12), (gd 13), (gd 14), (gd 15), (gd 16)]))] s.heap := hP
  have hl := lv_entry ([.ref h5]) (n := 6) (Nat.le_of_ble_eq_true rfl)
  rw [lg_entry_eq]
  generalize (lg_sl ([.ref h5]) ++ List.replicate (6 - (lg_sl ([.ref h5])).length) Slot.unset).toArray = ls at hl ⊢
  have hl : lv_has ls 6 [(0, .ref h5)] := hl
  refine lv_aload_n hx hb dX3_parse_0 rfl (lv_at hl 0 rfl) ?_
  refine va_get (D := (dC, dI)) (ci := 3) (v := .ref h4) (C := RX3) (T := TX3) (N := 2) hx hb hts inlX3 hown hK hP 0 rfl rfl 1 (by decide) (hts (.fieldLink RX3 15 "ShapeReader$PlanText" "draft" "LShapeReader$Shapes;") mw_5_24) (fun _ h9 => h9) rfl dX3_parse_1 ?_
  have hPc := hP.sub (ws' := [(h4, .inr (5, [(gd 0), (gd 1), (gd 2), (gd 3), (gd 4), (gd 5), (gd 6), (gd 7), (gd 8), (gd 9), (gd 10), (gd 11), (gd 12), (gd 13), (gd 14), (gd 15), (gd 16)]))]) [2] rfl
  have hDc := hD.sub (ws' := [(h4, .inr (5, [(gd 0), (gd 1), (gd 2), (gd 3), (gd 4), (gd 5), (gd 6), (gd 7), (gd 8), (gd 9), (gd 10), (gd 11), (gd 12), (gd 13), (gd 14), (gd 15), (gd 16)]))]) [2] (by decide) rfl
  have hKc := hK.sub (tys' := []) [] rfl
  have hFc := va_free (wc := [(h4, .inr (5, [(gd 0), (gd 1), (gd 2), (gd 3), (gd 4), (gd 5), (gd 6), (gd 7), (gd 8), (gd 9), (gd 10), (gd 11), (gd 12), (gd 13), (gd 14), (gd 15), (gd 16)]))]) hD hS hA [2] rfl
  refine va_callv (va_runV (As := []) (rest := []) ⟨hx, hb, hml, hown, hts⟩ (c_sclear l dC dI h4 gd s.heap.size) (cwV 0 hts (gV mw_5_25 mw_5_26 mw_5_27 mw_0_9 mw_20_6) rfl rfl rfl (by decide +kernel) ⟨(Nat.le_of_ble_eq_true rfl), (Nat.le_of_ble_eq_true rfl)⟩) (vV (ci := 5) (q0 := 0) hKc hPc hDc rfl rfl) rfl rfl hl.1 rfl (lv_room (Nat.le_of_ble_eq_true rfl)) dX3_parse_4 ⟨(Nat.le_of_ble_eq_true rfl), (Nat.le_of_ble_eq_true rfl)⟩) hS (fun q _ h => hFc q h) hFc (fun u t H1 locs ht hvm hw hB hz1 hk1 hS => ?_)
  obtain ⟨hP1, hK1, hD1⟩ := hB
  rw [ht] at hP1
  have hK1 := va_K.moved hvm.symm hK1
  obtain ⟨hP, hD⟩ := va_join (wr := [(h5, .inr (3, [.ref h2, .ref h4])), (h2, .inr (6, [(g 0), (g 1), (g 2), (g 3), .int 0, .int 0, (g 6), (g 7), (g 8), (g 9), (g 10), (g 11), .int 0, .int 0]))]) (w1 := [(h4, .inr (5, [.int 0, .int 0, (gd 2), (gd 3), (gd 4), (gd 5), (gd 6), (gd 7), (gd 8), (gd 9), (gd 10), (gd 11), (gd 12), (gd 13), (gd 14), (gd 15), (gd 16)]))]) hP hD [2] [0, 1] rfl rfl (by decide) (by decide) hk1 hFc hP1 hD1
  clear hPc hDc hKc hP1 hK1 hD1 hFc hk1 hz1
  generalize H1 = H at hP hS ⊢
  have hP : va_P (dC, dI) vwCl [(h5, .inr (3, [.ref h2, .ref h4])), (h2, .inr (6, [(g 0), (g 1), (g 2), (g 3), .int 0, .int 0, (g 6), (g 7), (g 8), (g 9), (g 10), (g 11), .int 0, .int 0])), (h4, .inr (5, [.int 0, .int 0, (gd 2), (gd 3), (gd 4), (gd 5), (gd 6), (gd 7), (gd 8), (gd 9), (gd 10), (gd 11), (gd 12), (gd 13), (gd 14), (gd 15), (gd 16)]))] H := hP
  have hD : va_D A [(h5, .inr (3, [.ref h2, .ref h4])), (h2, .inr (6, [(g 0), (g 1), (g 2), (g 3), .int 0, .int 0, (g 6), (g 7), (g 8), (g 9), (g 10), (g 11), .int 0, .int 0])), (h4, .inr (5, [.int 0, .int 0, (gd 2), (gd 3), (gd 4), (gd 5), (gd 6), (gd 7), (gd 8), (gd 9), (gd 10), (gd 11), (gd 12), (gd 13), (gd 14), (gd 15), (gd 16)]))] := hD
  refine lv_iconst (v := (-1)) hx hb dX3_parse_7 (by decide) ?_
  refine lv_istore_n (lv' := [(1, .int (-1)), (0, .ref h5)]) hx hb dX3_parse_8 rfl hl (by decide) rfl (fun ls hl => ?_)
  refine lv_iconst (v := 0) hx hb dX3_parse_9 (by decide) ?_
  refine lv_istore_n (lv' := [(2, .int 0), (1, .int (-1)), (0, .ref h5)]) hx hb dX3_parse_10 rfl hl (by decide) rfl (fun ls hl => ?_)
  refine lv_iload_n hx hb dX3_parse_11 rfl (lv_at hl 0 rfl) ?_
  refine lv_bipush (v := 42) hx hb dX3_parse_12 (by decide) ?_
  refine lv_icmp_gt (tgt := 163) hx hb dX3_parse_14 (by decide) (fun h => absurd h (by decide)) (fun _ => ?_)
  refine lv_aload_n hx hb dX3_parse_17 rfl (lv_at hl 2 rfl) ?_
  refine va_get (D := (dC, dI)) (ci := 3) (v := .ref h4) (C := RX3) (T := TX3) (N := 2) hx hb hts inlX3 hown hK hP 0 rfl rfl 1 (by decide) (hts (.fieldLink RX3 15 "ShapeReader$PlanText" "draft" "LShapeReader$Shapes;") mw_5_24) (fun _ h9 => h9) rfl dX3_parse_18 ?_
  refine lv_iload_n hx hb dX3_parse_21 rfl (lv_at hl 1 rfl) ?_
  have hPc := hP.sub (ws' := [(h4, .inr (5, [.int 0, .int 0, (gd 2), (gd 3), (gd 4), (gd 5), (gd 6), (gd 7), (gd 8), (gd 9), (gd 10), (gd 11), (gd 12), (gd 13), (gd 14), (gd 15), (gd 16)]))]) [2] rfl
  have hDc := hD.sub (ws' := [(h4, .inr (5, [.int 0, .int 0, (gd 2), (gd 3), (gd 4), (gd 5), (gd 6), (gd 7), (gd 8), (gd 9), (gd 10), (gd 11), (gd 12), (gd 13), (gd 14), (gd 15), (gd 16)]))]) [2] (by decide) rfl
  have hKc := hK.sub (tys' := []) [] rfl
  have hFc := va_free (wc := [(h4, .inr (5, [.int 0, .int 0, (gd 2), (gd 3), (gd 4), (gd 5), (gd 6), (gd 7), (gd 8), (gd 9), (gd 10), (gd 11), (gd 12), (gd 13), (gd 14), (gd 15), (gd 16)]))]) hD hS hA [2] rfl
  refine va_calli (va_runV (As := [.int (-1)]) (rest := []) ⟨hx, hb, hml, hown, hts⟩ (c_recordsOf l dC dI h4 (fun k => (cond (Nat.beq k 0) (.int 0) (cond (Nat.beq k 1) (.int 0) (gd k)))) H.size) (cwV 1 hts (gV mw_5_28 mw_3_6 mw_3_7 mw_0_9 mw_20_7) rfl rfl rfl (by decide +kernel) ⟨(Nat.le_of_ble_eq_true rfl), (Nat.le_of_ble_eq_true rfl)⟩) (vV (ci := 5) (q0 := 0) hKc hPc hDc rfl rfl) rfl rfl hl.1 rfl (lv_room (Nat.le_of_ble_eq_true rfl)) dX3_parse_22 ⟨(Nat.le_of_ble_eq_true rfl), (Nat.le_of_ble_eq_true rfl)⟩) hS (fun q _ h => hFc q h) hFc (fun r_3 u t H1 locs ht hvm hw hB hz1 hk1 hS => ?_)
  obtain ⟨hP1, hK1, hD1⟩ := hB
  rw [ht] at hP1
  have hK1 := va_K.moved hvm.symm hK1
  obtain ⟨hP, hD⟩ := va_join (wr := [(h5, .inr (3, [.ref h2, .ref h4])), (h2, .inr (6, [(g 0), (g 1), (g 2), (g 3), .int 0, .int 0, (g 6), (g 7), (g 8), (g 9), (g 10), (g 11), .int 0, .int 0]))]) (w1 := [(h4, .inr (5, [.int 0, .int 0, (gd 2), (gd 3), (gd 4), (gd 5), (gd 6), (gd 7), (gd 8), (gd 9), (gd 10), (gd 11), (gd 12), (gd 13), (gd 14), (gd 15), (gd 16)]))]) hP hD [2] [0, 1] rfl rfl (by decide) (by decide) hk1 hFc hP1 hD1
  clear hPc hDc hKc hP1 hK1 hD1 hFc hk1 hz1
  generalize H1 = H at hP hS ⊢
  have hP : va_P (dC, dI) vwCl [(h5, .inr (3, [.ref h2, .ref h4])), (h2, .inr (6, [(g 0), (g 1), (g 2), (g 3), .int 0, .int 0, (g 6), (g 7), (g 8), (g 9), (g 10), (g 11), .int 0, .int 0])), (h4, .inr (5, [.int 0, .int 0, (gd 2), (gd 3), (gd 4), (gd 5), (gd 6), (gd 7), (gd 8), (gd 9), (gd 10), (gd 11), (gd 12), (gd 13), (gd 14), (gd 15), (gd 16)]))] H := hP
  have hD : va_D A [(h5, .inr (3, [.ref h2, .ref h4])), (h2, .inr (6, [(g 0), (g 1), (g 2), (g 3), .int 0, .int 0, (g 6), (g 7), (g 8), (g 9), (g 10), (g 11), .int 0, .int 0])), (h4, .inr (5, [.int 0, .int 0, (gd 2), (gd 3), (gd 4), (gd 5), (gd 6), (gd 7), (gd 8), (gd 9), (gd 10), (gd 11), (gd 12), (gd 13), (gd 14), (gd 15), (gd 16)]))] := hD
  obtain rfl : r_3 = 0 := hw
  refine lv_if_le (tgt := 32) hx hb dX3_parse_25 (by decide) (fun _ => ?_) (fun h => absurd (by decide) h)
  refine lv_iconst (v := 0) hx hb dX3_parse_32 (by decide) ?_
  refine lv_istore_n (lv' := [(3, .int 0), (2, .int 0), (1, .int (-1)), (0, .ref h5)]) hx hb dX3_parse_33 rfl hl (by decide) rfl (fun ls hl => ?_)
  refine lv_iload_n hx hb dX3_parse_34 rfl (lv_at hl 2 rfl) ?_
  refine lv_iconst (v := (-1)) hx hb dX3_parse_35 (by decide) ?_
  refine lv_icmp_eq (tgt := 60) hx hb dX3_parse_36 (by decide) (fun _ => ?_) (fun h => absurd (by decide) h)
  refine lv_iload_n hx hb dX3_parse_60 rfl (lv_at hl 0 rfl) ?_
  refine lv_if_eq (tgt := 78) hx hb dX3_parse_61 (by decide) (fun _ => ?_) (fun h => absurd (by decide) h)
  refine lv_iconst (v := 0) hx hb dX3_parse_78 (by decide) ?_
  refine lv_istore (lv' := [(4, .int 0), (3, .int 0), (2, .int 0), (1, .int (-1)), (0, .ref h5)]) hx hb dX3_parse_79 hl (by decide) rfl (fun ls hl => ?_)
  refine lv_iload_n hx hb dX3_parse_81 rfl (lv_at hl 1 rfl) ?_
  refine lv_if_ne (tgt := 90) hx hb dX3_parse_82 (by decide) (fun h => absurd rfl h) (fun _ => ?_)
  refine lv_iload_n hx hb dX3_parse_85 rfl (lv_at hl 3 rfl) ?_
  refine lv_iconst (v := (-1)) hx hb dX3_parse_86 (by decide) ?_
  refine lv_icmp_ne (tgt := 105) hx hb dX3_parse_87 (by decide) (fun h => absurd rfl h) (fun _ => ?_)
  refine lv_aload_n hx hb dX3_parse_90 rfl (lv_at hl 4 rfl) ?_
  refine va_get (D := (dC, dI)) (ci := 3) (v := .ref h2) (C := RX3) (T := TX3) (N := 2) hx hb hts inlX3 hown hK hP 0 rfl rfl 0 (by decide) (hts (.fieldLink RX3 9 "ShapeReader$PlanText" "tokens" "LShapeReader$Tokens;") mw_5_23) (fun _ h9 => h9) rfl dX3_parse_91 ?_
  refine lv_iconst (v := 0) hx hb dX3_parse_94 (by decide) ?_
  have hPc := hP.sub (ws' := [(h2, .inr (6, [(g 0), (g 1), (g 2), (g 3), .int 0, .int 0, (g 6), (g 7), (g 8), (g 9), (g 10), (g 11), .int 0, .int 0]))]) [1] rfl
  have hDc := hD.sub (ws' := [(h2, .inr (6, [(g 0), (g 1), (g 2), (g 3), .int 0, .int 0, (g 6), (g 7), (g 8), (g 9), (g 10), (g 11), .int 0, .int 0]))]) [1] (by decide) rfl
  have hKc := hK.sub (tys' := []) [] rfl
  have hFc := va_free (wc := [(h2, .inr (6, [(g 0), (g 1), (g 2), (g 3), .int 0, .int 0, (g 6), (g 7), (g 8), (g 9), (g 10), (g 11), .int 0, .int 0]))]) hD hS hA [1] rfl
  refine va_calli (va_runV (As := [.int 0]) (rest := []) ⟨hx, hb, hml, hown, hts⟩ (c_isKeyword l dC dI h2 (fun k => (cond (Nat.beq k 5) (.int 0) (cond (Nat.beq k 12) (.int 0) (cond (Nat.beq k 13) (.int 0) (g k))))) 0 H.size) (cwV 1 hts (gV mw_5_29 mw_6_0 mw_6_1 mw_0_10 mw_20_4) rfl rfl rfl (by decide +kernel) ⟨(Nat.le_of_ble_eq_true rfl), (Nat.le_of_ble_eq_true rfl)⟩) (vV (ci := 6) (q0 := 0) hKc hPc hDc rfl rfl) rfl rfl hl.1 rfl (lv_room (Nat.le_of_ble_eq_true rfl)) dX3_parse_95 ⟨(Nat.le_of_ble_eq_true rfl), (Nat.le_of_ble_eq_true rfl)⟩) hS (fun q _ h => hFc q h) hFc (fun r_9 u t H1 locs ht hvm hw hB hz1 hk1 hS => ?_)
  obtain ⟨hP1, hK1, hD1⟩ := hB
  rw [ht] at hP1
  have hK1 := va_K.moved hvm.symm hK1
  obtain ⟨hP, hD⟩ := va_join (wr := [(h5, .inr (3, [.ref h2, .ref h4])), (h4, .inr (5, [.int 0, .int 0, (gd 2), (gd 3), (gd 4), (gd 5), (gd 6), (gd 7), (gd 8), (gd 9), (gd 10), (gd 11), (gd 12), (gd 13), (gd 14), (gd 15), (gd 16)]))]) (w1 := [(h2, .inr (6, [(g 0), (g 1), (g 2), (g 3), .int 0, .int 0, (g 6), (g 7), (g 8), (g 9), (g 10), (g 11), .int 0, .int 0]))]) hP hD [1] [0, 2] rfl rfl (by decide) (by decide) hk1 hFc hP1 hD1
  clear hPc hDc hKc hP1 hK1 hD1 hFc hk1 hz1
  generalize H1 = H at hP hS ⊢
  have hP : va_P (dC, dI) vwCl [(h5, .inr (3, [.ref h2, .ref h4])), (h4, .inr (5, [.int 0, .int 0, (gd 2), (gd 3), (gd 4), (gd 5), (gd 6), (gd 7), (gd 8), (gd 9), (gd 10), (gd 11), (gd 12), (gd 13), (gd 14), (gd 15), (gd 16)])), (h2, .inr (6, [(g 0), (g 1), (g 2), (g 3), .int 0, .int 0, (g 6), (g 7), (g 8), (g 9), (g 10), (g 11), .int 0, .int 0]))] H := hP
  have hD : va_D A [(h5, .inr (3, [.ref h2, .ref h4])), (h4, .inr (5, [.int 0, .int 0, (gd 2), (gd 3), (gd 4), (gd 5), (gd 6), (gd 7), (gd 8), (gd 9), (gd 10), (gd 11), (gd 12), (gd 13), (gd 14), (gd 15), (gd 16)])), (h2, .inr (6, [(g 0), (g 1), (g 2), (g 3), .int 0, .int 0, (g 6), (g 7), (g 8), (g 9), (g 10), (g 11), .int 0, .int 0]))] := hD
  obtain rfl : r_9 = 0 := hw
  refine lv_if_eq (tgt := 105) hx hb dX3_parse_98 (by decide) (fun _ => ?_) (fun h => absurd (by decide) h)
  refine lv_iconst (v := 0) hx hb dX3_parse_105 (by decide) ?_
  refine lv_istore (lv' := [(5, .int 0), (4, .int 0), (3, .int 0), (2, .int 0), (1, .int (-1)), (0, .ref h5)]) hx hb dX3_parse_106 hl (by decide) rfl (fun ls hl => ?_)
  refine lv_iload hx hb dX3_parse_108 (lv_at hl 1 rfl) ?_
  refine lv_if_ne (tgt := 127) hx hb dX3_parse_110 (by decide) (fun h => absurd rfl h) (fun _ => ?_)
  refine lv_iload hx hb dX3_parse_113 (lv_at hl 0 rfl) ?_
  refine lv_if_ne (tgt := 127) hx hb dX3_parse_115 (by decide) (fun h => absurd rfl h) (fun _ => ?_)
  refine lv_aload_n hx hb dX3_parse_118 rfl (lv_at hl 5 rfl) ?_
  refine va_get (D := (dC, dI)) (ci := 3) (v := .ref h2) (C := RX3) (T := TX3) (N := 2) hx hb hts inlX3 hown hK hP 0 rfl rfl 0 (by decide) (hts (.fieldLink RX3 9 "ShapeReader$PlanText" "tokens" "LShapeReader$Tokens;") mw_5_23) (fun _ h9 => h9) rfl dX3_parse_119 ?_
  refine lv_iconst (v := 1) hx hb dX3_parse_122 (by decide) ?_
  have hPc := hP.sub (ws' := [(h2, .inr (6, [(g 0), (g 1), (g 2), (g 3), .int 0, .int 0, (g 6), (g 7), (g 8), (g 9), (g 10), (g 11), .int 0, .int 0]))]) [2] rfl
  have hDc := hD.sub (ws' := [(h2, .inr (6, [(g 0), (g 1), (g 2), (g 3), .int 0, .int 0, (g 6), (g 7), (g 8), (g 9), (g 10), (g 11), .int 0, .int 0]))]) [2] (by decide) rfl
  have hKc := hK.sub (tys' := []) [] rfl
  have hFc := va_free (wc := [(h2, .inr (6, [(g 0), (g 1), (g 2), (g 3), .int 0, .int 0, (g 6), (g 7), (g 8), (g 9), (g 10), (g 11), .int 0, .int 0]))]) hD hS hA [2] rfl
  refine va_calli (va_runV (As := [.int 1]) (rest := []) ⟨hx, hb, hml, hown, hts⟩ (c_refuse l dC dI h2 (fun k => (cond (Nat.beq k 4) (.int 0) (cond (Nat.beq k 13) (.int 0) (g k)))) H.size) (cwV 1 hts (gV mw_6_3 mw_3_3 mw_3_4 mw_0_10 mw_19_29) rfl rfl rfl (by decide +kernel) ⟨(Nat.le_of_ble_eq_true rfl), (Nat.le_of_ble_eq_true rfl)⟩) (vV (ci := 6) (q0 := 0) hKc hPc hDc rfl rfl) rfl rfl hl.1 rfl (lv_room (Nat.le_of_ble_eq_true rfl)) dX3_parse_123 ⟨(Nat.le_of_ble_eq_true rfl), (Nat.le_of_ble_eq_true rfl)⟩) hS (fun q _ h => hFc q h) hFc (fun r_13 u t H1 locs ht hvm hw hB hz1 hk1 hS => ?_)
  obtain ⟨hP1, hK1, hD1⟩ := hB
  rw [ht] at hP1
  have hK1 := va_K.moved hvm.symm hK1
  obtain ⟨hP, hD⟩ := va_join (wr := [(h5, .inr (3, [.ref h2, .ref h4])), (h4, .inr (5, [.int 0, .int 0, (gd 2), (gd 3), (gd 4), (gd 5), (gd 6), (gd 7), (gd 8), (gd 9), (gd 10), (gd 11), (gd 12), (gd 13), (gd 14), (gd 15), (gd 16)]))]) (w1 := [(h2, .inr (6, [(g 0), (g 1), (g 2), (g 3), .int 0, .int 0, (g 6), (g 7), (g 8), (g 9), (g 10), (g 11), .int 1, .int 0]))]) hP hD [2] [0, 1] rfl rfl (by decide) (by decide) hk1 hFc hP1 hD1
  clear hPc hDc hKc hP1 hK1 hD1 hFc hk1 hz1
  generalize H1 = H at hP hS ⊢
  have hP : va_P (dC, dI) vwCl [(h5, .inr (3, [.ref h2, .ref h4])), (h4, .inr (5, [.int 0, .int 0, (gd 2), (gd 3), (gd 4), (gd 5), (gd 6), (gd 7), (gd 8), (gd 9), (gd 10), (gd 11), (gd 12), (gd 13), (gd 14), (gd 15), (gd 16)])), (h2, .inr (6, [(g 0), (g 1), (g 2), (g 3), .int 0, .int 0, (g 6), (g 7), (g 8), (g 9), (g 10), (g 11), .int 1, .int 0]))] H := hP
  have hD : va_D A [(h5, .inr (3, [.ref h2, .ref h4])), (h4, .inr (5, [.int 0, .int 0, (gd 2), (gd 3), (gd 4), (gd 5), (gd 6), (gd 7), (gd 8), (gd 9), (gd 10), (gd 11), (gd 12), (gd 13), (gd 14), (gd 15), (gd 16)])), (h2, .inr (6, [(g 0), (g 1), (g 2), (g 3), .int 0, .int 0, (g 6), (g 7), (g 8), (g 9), (g 10), (g 11), .int 1, .int 0]))] := hD
  obtain rfl : r_13 = 0 := hw
  have hP9 := hP.sub (ws' := [(h2, .inr (6, [(g 0), (g 1), (g 2), (g 3), .int 0, .int 0, (g 6), (g 7), (g 8), (g 9), (g 10), (g 11), .int 1, .int 0]))]) [2] rfl
  have hD9 := hD.sub (ws' := [(h2, .inr (6, [(g 0), (g 1), (g 2), (g 3), .int 0, .int 0, (g 6), (g 7), (g 8), (g 9), (g 10), (g 11), .int 1, .int 0]))]) [2] (by decide) rfl
  have hK9 := hK.sub (tys' := []) [] rfl
  refine W.widen (k := 0) (n := 0) (Nat.le_of_ble_eq_true rfl) (Nat.le_of_ble_eq_true rfl) ?_
  exact W.zret (v := 0) hx hb hr rfl (fun t ht hW => ⟨⟨0, (), rfl, rfl, by rw [ht]; exact hP9, va_K.moved hW.alike hK9, hD9⟩, hS.F ht⟩) hS.2.2 dX3_parse_126

set_option maxRecDepth 100000 in
set_option maxHeartbeats 4000000 in
theorem c_plans0 (l : Launch) (dC : Nat → ClassId) (dI : Nat → Nat → Nat) (h0 : Nat) (h2 : Nat) (h5 : Nat) (h4 : Nat) (g : Nat → Value) (gt : Nat → Value) (gd : Nat → Value) (sz : Nat) : Met l yX10_plans (.code yX10_plans cX10_plans 2 (some .int) :: pw) ({ frames := 3, cells := 0, slots := 0, locals := 68 }) (va_Pc [.ref h0, .int 0] (vPre dC dI [(h0, .inr (10, [(g 0), .int 0, .ref h2, (g 3), (g 4), .ref h5, (g 6), (g 7), (g 8), (g 9), (g 10), (g 11), (g 12), (g 13), (g 14), (g 15)])), (h2, .inr (6, [(gt 0), (gt 1), (gt 2), (gt 3), (gt 4), (gt 5), (gt 6), (gt 7), (gt 8), (gt 9), (gt 10), (gt 11), (gt 12), (gt 13)])), (h5, .inr (3, [.ref h2, .ref h4])), (h4, .inr (5, [(gd 0), (gd 1), (gd 2), (gd 3), (gd 4), (gd 5), (gd 6), (gd 7), (gd 8), (gd 9), (gd 10), (gd 11), (gd 12), (gd 13), (gd 14), (gd 15), (gd 16)]))] [] sz)) (va_Qi (fun (r : Int32) (_ : Unit) => r = (-3)) (fun (_ : Unit) t => vPst dC dI (va_A [(h0, .inr (10, [(g 0), .int 0, .ref h2, (g 3), (g 4), .ref h5, (g 6), (g 7), (g 8), (g 9), (g 10), (g 11), (g 12), (g 13), (g 14), (g 15)])), (h2, .inr (6, [(gt 0), (gt 1), (gt 2), (gt 3), (gt 4), (gt 5), (gt 6), (gt 7), (gt 8), (gt 9), (gt 10), (gt 11), (gt 12), (gt 13)])), (h5, .inr (3, [.ref h2, .ref h4])), (h4, .inr (5, [(gd 0), (gd 1), (gd 2), (gd 3), (gd 4), (gd 5), (gd 6), (gd 7), (gd 8), (gd 9), (gd 10), (gd 11), (gd 12), (gd 13), (gd 14), (gd 15), (gd 16)]))] sz) [] [] t) (va_A [(h0, .inr (10, [(g 0), .int 0, .ref h2, (g 3), (g 4), .ref h5, (g 6), (g 7), (g 8), (g 9), (g 10), (g 11), (g 12), (g 13), (g 14), (g 15)])), (h2, .inr (6, [(gt 0), (gt 1), (gt 2), (gt 3), (gt 4), (gt 5), (gt 6), (gt 7), (gt 8), (gt 9), (gt 10), (gt 11), (gt 12), (gt 13)])), (h5, .inr (3, [.ref h2, .ref h4])), (h4, .inr (5, [(gd 0), (gd 1), (gd 2), (gd 3), (gd 4), (gd 5), (gd 6), (gd 7), (gd 8), (gd 9), (gd 10), (gd 11), (gd 12), (gd 13), (gd 14), (gd 15), (gd 16)]))] sz)) 0 0 (va_A [(h0, .inr (10, [(g 0), .int 0, .ref h2, (g 3), (g 4), .ref h5, (g 6), (g 7), (g 8), (g 9), (g 10), (g 11), (g 12), (g 13), (g 14), (g 15)])), (h2, .inr (6, [(gt 0), (gt 1), (gt 2), (gt 3), (gt 4), (gt 5), (gt 6), (gt 7), (gt 8), (gt 9), (gt 10), (gt 11), (gt 12), (gt 13)])), (h5, .inr (3, [.ref h2, .ref h4])), (h4, .inr (5, [(gd 0), (gd 1), (gd 2), (gd 3), (gd 4), (gd 5), (gd 6), (gd 7), (gd 8), (gd 9), (gd 10), (gd 11), (gd 12), (gd 13), (gd 14), (gd 15), (gd 16)]))] sz) := by
  refine Met.ofW (cc := cX10_plans) (maxL := 2) (ret := (some .int)) (by decide) rfl ?_
  intro p e s m args below meth c s₁ B hml hv
  obtain ⟨rfl, hsz, hP, hK, hD0⟩ := hv
  have hx := B.exec
  have hb := B.bytes
  have hr := B.returns
  have hts := atoms_spec (ws := .code yX10_plans cX10_plans 2 (some .int) :: pw) B.pre
  have hts : ∀ w ∈ pw, w.before _ s = true := fun w h => hts w (List.mem_cons_of_mem _ h)
  have hown : s.vm.findClass RX10 = some m.cls := findClass_of_methodNamed B.named
  have hlocks := B.notSynchronized
  subst hsz
  have hD := hD0.self (sz := s.heap.size)
  generalize hAe : va_A [(h0, .inr (10, [(g 0), .int 0, .ref h2, (g 3), (g 4), .ref h5, (g 6), (g 7), (g 8), (g 9), (g 10), (g 11), (g 12), (g 13), (g 14), (g 15)])), (h2, .inr (6, [(gt 0), (gt 1), (gt 2), (gt 3), (gt 4), (gt 5), (gt 6), (gt 7), (gt 8), (gt 9), (gt 10), (gt 11), (gt 12), (gt 13)])), (h5, .inr (3, [.ref h2, .ref h4])), (h4, .inr (5, [(gd 0), (gd 1), (gd 2), (gd 3), (gd 4), (gd 5), (gd 6), (gd 7), (gd 8), (gd 9), (gd 10), (gd 11), (gd 12), (gd 13), (gd 14), (gd 15), (gd 16)]))] s.heap.size = A at hD ⊢
  have hA : ∀ q : Nat, s.heap.size ≤ q → A q := fun q h => by rw [← hAe]; exact Or.inr h
  have hS : va_S A s.heap s.heap [] := va_S.rf
  have hP : va_P (dC, dI) vwCl [(h0, .inr (10, [(g 0), .int 0, .ref h2, (g 3), (g 4), .ref h5, (g 6), (g 7), (g 8), (g 9), (g 10), (g 11), (g 12), (g 13), (g 14), (g 15)])), (h2, .inr (6, [(gt 0), (gt 1), (gt 2), (gt 3), (gt 4), (gt 5), (gt 6), (gt 7), (gt 8), (gt 9), (gt 10), (gt 11), (gt 12), (gt 13)])), (h5, .inr (3, [.ref h2, .ref h4])), (h4, .inr (5, [(gd 0), (gd 1), (gd 2), (gd 3), (gd 4), (gd 5), (gd 6), (gd 7), (gd 8), (gd 9), (gd 10), (gd 11), (gd 12), (gd 13), (gd 14), (gd 15), (gd 16)]))] s.heap := hP
  have hl := lv_entry ([.ref h0, .int 0]) (n := 2) (Nat.le_of_ble_eq_true rfl)
  rw [lg_entry_eq]
  generalize (lg_sl ([.ref h0, .int 0]) ++ List.replicate (2 - (lg_sl ([.ref h0, .int 0])).length) Slot.unset).toArray = ls at hl ⊢
  have hl : lv_has ls 2 [(0, .ref h0), (1, .int 0)] := hl
  refine lv_iload_n hx hb dX10_plans_0 rfl (lv_at hl 1 rfl) ?_
  refine lv_if_lt (tgt := 12) hx hb dX10_plans_1 (by decide) (fun h => absurd h (by decide)) (fun _ => ?_)
  refine lv_iload_n hx hb dX10_plans_4 rfl (lv_at hl 1 rfl) ?_
  refine lv_aload_n hx hb dX10_plans_5 rfl (lv_at hl 0 rfl) ?_
  refine va_get (D := (dC, dI)) (ci := 10) (v := .int 0) (C := RX10) (T := TX10) (N := 16) hx hb hts inlX10 hown hK hP 0 rfl rfl 1 (by decide) (hts (.fieldLink RX10 13 "ShapeReader" "tapeSize" "I") mw_0_19) (fun _ h9 => h9) rfl dX10_plans_6 ?_
  refine lv_icmp_le (tgt := 14) hx hb dX10_plans_9 (by decide) (fun _ => ?_) (fun h => absurd (by decide) h)
  refine lv_aload_n hx hb dX10_plans_14 rfl (lv_at hl 0 rfl) ?_
  refine lv_iconst (v := 0) hx hb dX10_plans_15 (by decide) ?_
  refine va_put (D := (dC, dI)) (ci := 10) (v := .int 0) (ty := .int) (C := RX10) (T := TX10) (N := 16) hx hb hts inlX10 tyX10 tyX10_ok nmX10 hown hK hP hD hS 0 rfl rfl 1 (by decide) (hts (.fieldLink RX10 13 "ShapeReader" "tapeSize" "I") mw_0_19) (fun _ h9 => h9) rfl (by decide +kernel) rfl rfl (Nat.le_of_ble_eq_true rfl) dX10_plans_16 (fun H locs hP hD hS => ?_)
  have hP : va_P (dC, dI) vwCl [(h0, .inr (10, [(g 0), .int 0, .ref h2, (g 3), (g 4), .ref h5, (g 6), (g 7), (g 8), (g 9), (g 10), (g 11), (g 12), (g 13), (g 14), (g 15)])), (h2, .inr (6, [(gt 0), (gt 1), (gt 2), (gt 3), (gt 4), (gt 5), (gt 6), (gt 7), (gt 8), (gt 9), (gt 10), (gt 11), (gt 12), (gt 13)])), (h5, .inr (3, [.ref h2, .ref h4])), (h4, .inr (5, [(gd 0), (gd 1), (gd 2), (gd 3), (gd 4), (gd 5), (gd 6), (gd 7), (gd 8), (gd 9), (gd 10), (gd 11), (gd 12), (gd 13), (gd 14), (gd 15), (gd 16)]))] H := hP
  have hD : va_D A [(h0, .inr (10, [(g 0), .int 0, .ref h2, (g 3), (g 4), .ref h5, (g 6), (g 7), (g 8), (g 9), (g 10), (g 11), (g 12), (g 13), (g 14), (g 15)])), (h2, .inr (6, [(gt 0), (gt 1), (gt 2), (gt 3), (gt 4), (gt 5), (gt 6), (gt 7), (gt 8), (gt 9), (gt 10), (gt 11), (gt 12), (gt 13)])), (h5, .inr (3, [.ref h2, .ref h4])), (h4, .inr (5, [(gd 0), (gd 1), (gd 2), (gd 3), (gd 4), (gd 5), (gd 6), (gd 7), (gd 8), (gd 9), (gd 10), (gd 11), (gd 12), (gd 13), (gd 14), (gd 15), (gd 16)]))] := hD
  refine lv_aload_n hx hb dX10_plans_19 rfl (lv_at hl 0 rfl) ?_
  refine va_get (D := (dC, dI)) (ci := 10) (v := .ref h2) (C := RX10) (T := TX10) (N := 16) hx hb hts inlX10 hown hK hP 0 rfl rfl 2 (by decide) (hts (.fieldLink RX10 22 "ShapeReader" "tokens" "LShapeReader$Tokens;") mw_0_24) (fun _ h9 => h9) rfl dX10_plans_20 ?_
  refine lv_iload_n hx hb dX10_plans_23 rfl (lv_at hl 1 rfl) ?_
  have hPc := hP.sub (ws' := [(h2, .inr (6, [(gt 0), (gt 1), (gt 2), (gt 3), (gt 4), (gt 5), (gt 6), (gt 7), (gt 8), (gt 9), (gt 10), (gt 11), (gt 12), (gt 13)]))]) [1] rfl
  have hDc := hD.sub (ws' := [(h2, .inr (6, [(gt 0), (gt 1), (gt 2), (gt 3), (gt 4), (gt 5), (gt 6), (gt 7), (gt 8), (gt 9), (gt 10), (gt 11), (gt 12), (gt 13)]))]) [1] (by decide) rfl
  have hKc := hK.sub (tys' := []) [] rfl
  have hFc := va_free (wc := [(h2, .inr (6, [(gt 0), (gt 1), (gt 2), (gt 3), (gt 4), (gt 5), (gt 6), (gt 7), (gt 8), (gt 9), (gt 10), (gt 11), (gt 12), (gt 13)]))]) hD hS hA [1] rfl
  refine va_callv (va_runV (As := [.int 0]) (rest := []) ⟨hx, hb, hml, hown, hts⟩ (c_begin l dC dI h2 gt H.size) (cwV 1 hts (gV mw_2_15 mw_2_16 mw_2_17 mw_0_10 mw_19_28) rfl rfl rfl (by decide +kernel) ⟨(Nat.le_of_ble_eq_true rfl), (Nat.le_of_ble_eq_true rfl)⟩) (vV (ci := 6) (q0 := 0) hKc hPc hDc rfl rfl) rfl rfl hl.1 rfl (lv_room (Nat.le_of_ble_eq_true rfl)) dX10_plans_24 ⟨(Nat.le_of_ble_eq_true rfl), (Nat.le_of_ble_eq_true rfl)⟩) hS (fun q _ h => hFc q h) hFc (fun u t H1 locs ht hvm hw hB hz1 hk1 hS => ?_)
  obtain ⟨hP1, hK1, hD1⟩ := hB
  rw [ht] at hP1
  have hK1 := va_K.moved hvm.symm hK1
  obtain ⟨hP, hD⟩ := va_join (wr := [(h0, .inr (10, [(g 0), .int 0, .ref h2, (g 3), (g 4), .ref h5, (g 6), (g 7), (g 8), (g 9), (g 10), (g 11), (g 12), (g 13), (g 14), (g 15)])), (h5, .inr (3, [.ref h2, .ref h4])), (h4, .inr (5, [(gd 0), (gd 1), (gd 2), (gd 3), (gd 4), (gd 5), (gd 6), (gd 7), (gd 8), (gd 9), (gd 10), (gd 11), (gd 12), (gd 13), (gd 14), (gd 15), (gd 16)]))]) (w1 := [(h2, .inr (6, [(gt 0), (gt 1), .int 0, .int 0, .int 0, .int 0, (gt 6), (gt 7), (gt 8), (gt 9), (gt 10), (gt 11), .int 0, .int 0]))]) hP hD [1] [0, 2, 3] rfl rfl (by decide) (by decide) hk1 hFc hP1 hD1
  clear hPc hDc hKc hP1 hK1 hD1 hFc hk1 hz1
  generalize H1 = H at hP hS ⊢
  have hP : va_P (dC, dI) vwCl [(h0, .inr (10, [(g 0), .int 0, .ref h2, (g 3), (g 4), .ref h5, (g 6), (g 7), (g 8), (g 9), (g 10), (g 11), (g 12), (g 13), (g 14), (g 15)])), (h5, .inr (3, [.ref h2, .ref h4])), (h4, .inr (5, [(gd 0), (gd 1), (gd 2), (gd 3), (gd 4), (gd 5), (gd 6), (gd 7), (gd 8), (gd 9), (gd 10), (gd 11), (gd 12), (gd 13), (gd 14), (gd 15), (gd 16)])), (h2, .inr (6, [(gt 0), (gt 1), .int 0, .int 0, .int 0, .int 0, (gt 6), (gt 7), (gt 8), (gt 9), (gt 10), (gt 11), .int 0, .int 0]))] H := hP
  have hD : va_D A [(h0, .inr (10, [(g 0), .int 0, .ref h2, (g 3), (g 4), .ref h5, (g 6), (g 7), (g 8), (g 9), (g 10), (g 11), (g 12), (g 13), (g 14), (g 15)])), (h5, .inr (3, [.ref h2, .ref h4])), (h4, .inr (5, [(gd 0), (gd 1), (gd 2), (gd 3), (gd 4), (gd 5), (gd 6), (gd 7), (gd 8), (gd 9), (gd 10), (gd 11), (gd 12), (gd 13), (gd 14), (gd 15), (gd 16)])), (h2, .inr (6, [(gt 0), (gt 1), .int 0, .int 0, .int 0, .int 0, (gt 6), (gt 7), (gt 8), (gt 9), (gt 10), (gt 11), .int 0, .int 0]))] := hD
  refine lv_aload_n hx hb dX10_plans_27 rfl (lv_at hl 0 rfl) ?_
  refine va_get (D := (dC, dI)) (ci := 10) (v := .ref h5) (C := RX10) (T := TX10) (N := 16) hx hb hts inlX10 hown hK hP 0 rfl rfl 5 (by decide) (hts (.fieldLink RX10 41 "ShapeReader" "planText" "LShapeReader$PlanText;") mw_1_4) (fun _ h9 => h9) rfl dX10_plans_28 ?_
  have hPc := hP.sub (ws' := [(h5, .inr (3, [.ref h2, .ref h4])), (h2, .inr (6, [(gt 0), (gt 1), .int 0, .int 0, .int 0, .int 0, (gt 6), (gt 7), (gt 8), (gt 9), (gt 10), (gt 11), .int 0, .int 0])), (h4, .inr (5, [(gd 0), (gd 1), (gd 2), (gd 3), (gd 4), (gd 5), (gd 6), (gd 7), (gd 8), (gd 9), (gd 10), (gd 11), (gd 12), (gd 13), (gd 14), (gd 15), (gd 16)]))]) [1, 3, 2] rfl
  have hDc := hD.sub (ws' := [(h5, .inr (3, [.ref h2, .ref h4])), (h2, .inr (6, [(gt 0), (gt 1), .int 0, .int 0, .int 0, .int 0, (gt 6), (gt 7), (gt 8), (gt 9), (gt 10), (gt 11), .int 0, .int 0])), (h4, .inr (5, [(gd 0), (gd 1), (gd 2), (gd 3), (gd 4), (gd 5), (gd 6), (gd 7), (gd 8), (gd 9), (gd 10), (gd 11), (gd 12), (gd 13), (gd 14), (gd 15), (gd 16)]))]) [1, 3, 2] (by decide) rfl
  have hKc := hK.sub (tys' := []) [] rfl
  have hFc := va_free (wc := [(h5, .inr (3, [.ref h2, .ref h4])), (h2, .inr (6, [(gt 0), (gt 1), .int 0, .int 0, .int 0, .int 0, (gt 6), (gt 7), (gt 8), (gt 9), (gt 10), (gt 11), .int 0, .int 0])), (h4, .inr (5, [(gd 0), (gd 1), (gd 2), (gd 3), (gd 4), (gd 5), (gd 6), (gd 7), (gd 8), (gd 9), (gd 10), (gd 11), (gd 12), (gd 13), (gd 14), (gd 15), (gd 16)]))]) hD hS hA [1, 3, 2] rfl
  refine va_calli (va_runV (As := []) (rest := []) ⟨hx, hb, hml, hown, hts⟩ (c_parse l dC dI h5 h2 h4 (fun k => (cond (Nat.beq k 2) (.int 0) (cond (Nat.beq k 3) (.int 0) (gt k)))) gd H.size) (cwV 0 hts (gV mw_2_18 mw_2_19 mw_2_20 mw_0_7 mw_20_9) rfl rfl rfl (by decide +kernel) ⟨(Nat.le_of_ble_eq_true rfl), (Nat.le_of_ble_eq_true rfl)⟩) (vV (ci := 3) (q0 := 0) hKc hPc hDc rfl rfl) rfl rfl hl.1 rfl (lv_room (Nat.le_of_ble_eq_true rfl)) dX10_plans_31 ⟨(Nat.le_of_ble_eq_true rfl), (Nat.le_of_ble_eq_true rfl)⟩) hS (fun q _ h => hFc q h) hFc (fun r_4 u t H1 locs ht hvm hw hB hz1 hk1 hS => ?_)
  obtain ⟨hP1, hK1, hD1⟩ := hB
  rw [ht] at hP1
  have hK1 := va_K.moved hvm.symm hK1
  obtain ⟨hP, hD⟩ := va_join (wr := [(h0, .inr (10, [(g 0), .int 0, .ref h2, (g 3), (g 4), .ref h5, (g 6), (g 7), (g 8), (g 9), (g 10), (g 11), (g 12), (g 13), (g 14), (g 15)]))]) (w1 := [(h2, .inr (6, [(gt 0), (gt 1), .int 0, .int 0, .int 0, .int 0, (gt 6), (gt 7), (gt 8), (gt 9), (gt 10), (gt 11), .int 1, .int 0]))]) hP hD [1, 3, 2] [0] rfl rfl (by decide) (by decide) hk1 hFc hP1 hD1
  clear hPc hDc hKc hP1 hK1 hD1 hFc hk1 hz1
  generalize H1 = H at hP hS ⊢
  have hP : va_P (dC, dI) vwCl [(h0, .inr (10, [(g 0), .int 0, .ref h2, (g 3), (g 4), .ref h5, (g 6), (g 7), (g 8), (g 9), (g 10), (g 11), (g 12), (g 13), (g 14), (g 15)])), (h2, .inr (6, [(gt 0), (gt 1), .int 0, .int 0, .int 0, .int 0, (gt 6), (gt 7), (gt 8), (gt 9), (gt 10), (gt 11), .int 1, .int 0]))] H := hP
  have hD : va_D A [(h0, .inr (10, [(g 0), .int 0, .ref h2, (g 3), (g 4), .ref h5, (g 6), (g 7), (g 8), (g 9), (g 10), (g 11), (g 12), (g 13), (g 14), (g 15)])), (h2, .inr (6, [(gt 0), (gt 1), .int 0, .int 0, .int 0, .int 0, (gt 6), (gt 7), (gt 8), (gt 9), (gt 10), (gt 11), .int 1, .int 0]))] := hD
  obtain rfl : r_4 = 0 := hw
  refine lv_if_ne (tgt := 45) hx hb dX10_plans_34 (by decide) (fun h => absurd rfl h) (fun _ => ?_)
  refine lv_aload_n hx hb dX10_plans_37 rfl (lv_at hl 0 rfl) ?_
  refine va_get (D := (dC, dI)) (ci := 10) (v := .ref h2) (C := RX10) (T := TX10) (N := 16) hx hb hts inlX10 hown hK hP 0 rfl rfl 2 (by decide) (hts (.fieldLink RX10 22 "ShapeReader" "tokens" "LShapeReader$Tokens;") mw_0_24) (fun _ h9 => h9) rfl dX10_plans_38 ?_
  have hPc := hP.sub (ws' := [(h2, .inr (6, [(gt 0), (gt 1), .int 0, .int 0, .int 0, .int 0, (gt 6), (gt 7), (gt 8), (gt 9), (gt 10), (gt 11), .int 1, .int 0]))]) [1] rfl
  have hDc := hD.sub (ws' := [(h2, .inr (6, [(gt 0), (gt 1), .int 0, .int 0, .int 0, .int 0, (gt 6), (gt 7), (gt 8), (gt 9), (gt 10), (gt 11), .int 1, .int 0]))]) [1] (by decide) rfl
  have hKc := hK.sub (tys' := []) [] rfl
  have hFc := va_free (wc := [(h2, .inr (6, [(gt 0), (gt 1), .int 0, .int 0, .int 0, .int 0, (gt 6), (gt 7), (gt 8), (gt 9), (gt 10), (gt 11), .int 1, .int 0]))]) hD hS hA [1] rfl
  refine va_calli (va_runV (As := []) (rest := []) ⟨hx, hb, hml, hown, hts⟩ (c_faultAnswer l dC dI h2 (fun k => (cond (Nat.beq k 2) (.int 0) (cond (Nat.beq k 3) (.int 0) (cond (Nat.beq k 4) (.int 0) (cond (Nat.beq k 5) (.int 0) (gt k)))))) H.size) (cwV 0 hts (gV mw_2_21 mw_2_22 mw_2_23 mw_0_10 mw_20_1) rfl rfl rfl (by decide +kernel) ⟨(Nat.le_of_ble_eq_true rfl), (Nat.le_of_ble_eq_true rfl)⟩) (vV (ci := 6) (q0 := 0) hKc hPc hDc rfl rfl) rfl rfl hl.1 rfl (lv_room (Nat.le_of_ble_eq_true rfl)) dX10_plans_41 ⟨(Nat.le_of_ble_eq_true rfl), (Nat.le_of_ble_eq_true rfl)⟩) hS (fun q _ h => hFc q h) hFc (fun r_6 u t H1 locs ht hvm hw hB hz1 hk1 hS => ?_)
  obtain ⟨hP1, hK1, hD1⟩ := hB
  rw [ht] at hP1
  have hK1 := va_K.moved hvm.symm hK1
  obtain ⟨hP, hD⟩ := va_join (wr := [(h0, .inr (10, [(g 0), .int 0, .ref h2, (g 3), (g 4), .ref h5, (g 6), (g 7), (g 8), (g 9), (g 10), (g 11), (g 12), (g 13), (g 14), (g 15)]))]) (w1 := [(h2, .inr (6, [(gt 0), (gt 1), .int 0, .int 0, .int 0, .int 0, (gt 6), (gt 7), (gt 8), (gt 9), (gt 10), (gt 11), .int 1, .int 0]))]) hP hD [1] [0] rfl rfl (by decide) (by decide) hk1 hFc hP1 hD1
  clear hPc hDc hKc hP1 hK1 hD1 hFc hk1 hz1
  generalize H1 = H at hP hS ⊢
  have hP : va_P (dC, dI) vwCl [(h0, .inr (10, [(g 0), .int 0, .ref h2, (g 3), (g 4), .ref h5, (g 6), (g 7), (g 8), (g 9), (g 10), (g 11), (g 12), (g 13), (g 14), (g 15)])), (h2, .inr (6, [(gt 0), (gt 1), .int 0, .int 0, .int 0, .int 0, (gt 6), (gt 7), (gt 8), (gt 9), (gt 10), (gt 11), .int 1, .int 0]))] H := hP
  have hD : va_D A [(h0, .inr (10, [(g 0), .int 0, .ref h2, (g 3), (g 4), .ref h5, (g 6), (g 7), (g 8), (g 9), (g 10), (g 11), (g 12), (g 13), (g 14), (g 15)])), (h2, .inr (6, [(gt 0), (gt 1), .int 0, .int 0, .int 0, .int 0, (gt 6), (gt 7), (gt 8), (gt 9), (gt 10), (gt 11), .int 1, .int 0]))] := hD
  obtain rfl : r_6 = (-3) := hw
  have hP9 := hP.sub (ws' := []) [] rfl
  have hD9 := hD.sub (ws' := []) [] (by decide) rfl
  have hK9 := hK.sub (tys' := []) [] rfl
  refine W.widen (k := 0) (n := 0) (Nat.le_of_ble_eq_true rfl) (Nat.le_of_ble_eq_true rfl) ?_
  exact W.iret (v := (-3)) hx hb hr (fun t ht hW => ⟨⟨(-3), (), rfl, rfl, by rw [ht]; exact hP9, va_K.moved hW.alike hK9, hD9⟩, hS.F ht⟩) hS.2.2 dX10_plans_44

set_option maxRecDepth 100000 in
set_option maxHeartbeats 4000000 in
theorem c_plans1 (l : Launch) (dC : Nat → ClassId) (dI : Nat → Nat → Nat) (h0 : Nat) (g : Nat → Value) (p0 : Int32) (hp : ¬ p0 = 0) (sz : Nat) : Met l yX10_plans (.code yX10_plans cX10_plans 2 (some .int) :: pw) ({ frames := 0, cells := 0, slots := 0, locals := 0 }) (va_Pc [.ref h0, .int p0] (vPre dC dI [(h0, .inr (10, [(g 0), .int 0, (g 2), (g 3), (g 4), (g 5), (g 6), (g 7), (g 8), (g 9), (g 10), (g 11), (g 12), (g 13), (g 14), (g 15)]))] [] sz)) (va_Qi (fun (r : Int32) (_ : Unit) => r = (-1)) (fun (_ : Unit) t => vPst dC dI (va_A [(h0, .inr (10, [(g 0), .int 0, (g 2), (g 3), (g 4), (g 5), (g 6), (g 7), (g 8), (g 9), (g 10), (g 11), (g 12), (g 13), (g 14), (g 15)]))] sz) [] [] t) (va_A [(h0, .inr (10, [(g 0), .int 0, (g 2), (g 3), (g 4), (g 5), (g 6), (g 7), (g 8), (g 9), (g 10), (g 11), (g 12), (g 13), (g 14), (g 15)]))] sz)) 0 0 (va_A [(h0, .inr (10, [(g 0), .int 0, (g 2), (g 3), (g 4), (g 5), (g 6), (g 7), (g 8), (g 9), (g 10), (g 11), (g 12), (g 13), (g 14), (g 15)]))] sz) := by
  refine Met.ofW (cc := cX10_plans) (maxL := 2) (ret := (some .int)) (by decide) rfl ?_
  intro p e s m args below meth c s₁ B hml hv
  obtain ⟨rfl, hsz, hP, hK, hD0⟩ := hv
  have hx := B.exec
  have hb := B.bytes
  have hr := B.returns
  have hts := atoms_spec (ws := .code yX10_plans cX10_plans 2 (some .int) :: pw) B.pre
  have hts : ∀ w ∈ pw, w.before _ s = true := fun w h => hts w (List.mem_cons_of_mem _ h)
  have hown : s.vm.findClass RX10 = some m.cls := findClass_of_methodNamed B.named
  have hlocks := B.notSynchronized
  subst hsz
  have hD := hD0.self (sz := s.heap.size)
  generalize hAe : va_A [(h0, .inr (10, [(g 0), .int 0, (g 2), (g 3), (g 4), (g 5), (g 6), (g 7), (g 8), (g 9), (g 10), (g 11), (g 12), (g 13), (g 14), (g 15)]))] s.heap.size = A at hD ⊢
  have hA : ∀ q : Nat, s.heap.size ≤ q → A q := fun q h => by rw [← hAe]; exact Or.inr h
  have hS : va_S A s.heap s.heap [] := va_S.rf
  have hP : va_P (dC, dI) vwCl [(h0, .inr (10, [(g 0), .int 0, (g 2), (g 3), (g 4), (g 5), (g 6), (g 7), (g 8), (g 9), (g 10), (g 11), (g 12), (g 13), (g 14), (g 15)]))] s.heap := hP
  have hl := lv_entry ([.ref h0, .int p0]) (n := 2) (Nat.le_of_ble_eq_true rfl)
  rw [lg_entry_eq]
  generalize (lg_sl ([.ref h0, .int p0]) ++ List.replicate (2 - (lg_sl ([.ref h0, .int p0])).length) Slot.unset).toArray = ls at hl ⊢
  have hl : lv_has ls 2 [(0, .ref h0), (1, .int p0)] := hl
  refine lv_iload_n hx hb dX10_plans_0 rfl (lv_at hl 1 rfl) ?_
  refine lv_if_lt (tgt := 12) hx hb dX10_plans_1 (by decide) (fun c_1 => ?_) (fun c_1 => ?_)
  · refine lv_iconst (v := (-1)) hx hb dX10_plans_12 (by decide) ?_
    have hP9 := hP.sub (ws' := []) [] rfl
    have hD9 := hD.sub (ws' := []) [] (by decide) rfl
    have hK9 := hK.sub (tys' := []) [] rfl
    refine W.widen (k := 0) (n := 0) (Nat.le_of_ble_eq_true rfl) (Nat.le_of_ble_eq_true rfl) ?_
    exact W.iret (v := (-1)) hx hb hr (fun t ht hW => ⟨⟨(-1), (), rfl, rfl, by rw [ht]; exact hP9, va_K.moved hW.alike hK9, hD9⟩, hS.F ht⟩) hS.2.2 dX10_plans_13
  · refine lv_iload_n hx hb dX10_plans_4 rfl (lv_at hl 1 rfl) ?_
    refine lv_aload_n hx hb dX10_plans_5 rfl (lv_at hl 0 rfl) ?_
    refine va_get (D := (dC, dI)) (ci := 10) (v := .int 0) (C := RX10) (T := TX10) (N := 16) hx hb hts inlX10 hown hK hP 0 rfl rfl 1 (by decide) (hts (.fieldLink RX10 13 "ShapeReader" "tapeSize" "I") mw_0_19) (fun _ h9 => h9) rfl dX10_plans_6 ?_
    refine lv_icmp_le (tgt := 14) hx hb dX10_plans_9 (by decide) (fun c_2 => absurd (Int32.toInt_inj.mp (by have a0 := il_nlt c_1; have a1 := il_le c_2; have e0 : (0 : Int32).toInt = 0 := (by decide); omega)) hp) (fun _ => ?_)
    refine lv_iconst (v := (-1)) hx hb dX10_plans_12 (by decide) ?_
    have hP9 := hP.sub (ws' := []) [] rfl
    have hD9 := hD.sub (ws' := []) [] (by decide) rfl
    have hK9 := hK.sub (tys' := []) [] rfl
    refine W.widen (k := 0) (n := 0) (Nat.le_of_ble_eq_true rfl) (Nat.le_of_ble_eq_true rfl) ?_
    exact W.iret (v := (-1)) hx hb hr (fun t ht hW => ⟨⟨(-1), (), rfl, rfl, by rw [ht]; exact hP9, va_K.moved hW.alike hK9, hD9⟩, hS.F ht⟩) hS.2.2 dX10_plans_13
