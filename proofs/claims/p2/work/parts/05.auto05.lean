theorem dX10_record_0 : decode cX10_record 0 = .ok (.aload_n 0, 1) := by decide +kernel
theorem dX10_record_1 : decode cX10_record 1 = .ok (.iload_n 1, 1) := by decide +kernel
theorem dX10_record_2 : decode cX10_record 2 = .ok (.invokevirtual 144, 3) := by decide +kernel
theorem dX10_record_5 : decode cX10_record 5 = .ok (.ifCond .ne 5, 3) := by decide +kernel
theorem dX10_record_8 : decode cX10_record 8 = .ok (.iconst (-1), 1) := by decide +kernel
theorem dX10_record_9 : decode cX10_record 9 = .ok (.ireturn, 1) := by decide +kernel
theorem dX10_record_10 : decode cX10_record 10 = .ok (.aload_n 0, 1) := by decide +kernel
theorem dX10_record_11 : decode cX10_record 11 = .ok (.getfield 29, 3) := by decide +kernel
theorem dX10_record_14 : decode cX10_record 14 = .ok (.iload_n 1, 1) := by decide +kernel
theorem dX10_record_15 : decode cX10_record 15 = .ok (.invokevirtual 167, 3) := by decide +kernel
theorem dX10_record_18 : decode cX10_record 18 = .ok (.istore 4, 2) := by decide +kernel
theorem dX10_record_20 : decode cX10_record 20 = .ok (.iload_n 2, 1) := by decide +kernel
theorem dX10_record_21 : decode cX10_record 21 = .ok (.iconst (-1), 1) := by decide +kernel
theorem dX10_record_22 : decode cX10_record 22 = .ok (.if_icmp .ne 6, 3) := by decide +kernel
theorem dX10_record_25 : decode cX10_record 25 = .ok (.iload 4, 2) := by decide +kernel
theorem dX10_record_27 : decode cX10_record 27 = .ok (.ireturn, 1) := by decide +kernel
theorem dX10_record_28 : decode cX10_record 28 = .ok (.iload_n 2, 1) := by decide +kernel
theorem dX10_record_29 : decode cX10_record 29 = .ok (.ifCond .lt 9, 3) := by decide +kernel
theorem dX10_record_32 : decode cX10_record 32 = .ok (.iload_n 2, 1) := by decide +kernel
theorem dX10_record_33 : decode cX10_record 33 = .ok (.iload 4, 2) := by decide +kernel
theorem dX10_record_35 : decode cX10_record 35 = .ok (.if_icmp .lt 5, 3) := by decide +kernel
theorem dX10_record_38 : decode cX10_record 38 = .ok (.iconst (-1), 1) := by decide +kernel
theorem dX10_record_39 : decode cX10_record 39 = .ok (.ireturn, 1) := by decide +kernel
theorem dX10_record_40 : decode cX10_record 40 = .ok (.iload_n 1, 1) := by decide +kernel
theorem dX10_record_41 : decode cX10_record 41 = .ok (.bipush 6, 2) := by decide +kernel
theorem dX10_record_43 : decode cX10_record 43 = .ok (.imul, 1) := by decide +kernel
theorem dX10_record_44 : decode cX10_record 44 = .ok (.iload_n 2, 1) := by decide +kernel
theorem dX10_record_45 : decode cX10_record 45 = .ok (.iadd, 1) := by decide +kernel
theorem dX10_record_46 : decode cX10_record 46 = .ok (.istore 5, 2) := by decide +kernel
theorem dX10_record_48 : decode cX10_record 48 = .ok (.iload_n 3, 1) := by decide +kernel
theorem dX10_record_49 : decode cX10_record 49 = .ok (.lookupswitch 50 #[(0, 27), (1, 37)], 27) := by decide +kernel
theorem dX10_record_76 : decode cX10_record 76 = .ok (.aload_n 0, 1) := by decide +kernel
theorem dX10_record_77 : decode cX10_record 77 = .ok (.getfield 29, 3) := by decide +kernel
theorem dX10_record_80 : decode cX10_record 80 = .ok (.iload 5, 2) := by decide +kernel
theorem dX10_record_82 : decode cX10_record 82 = .ok (.invokevirtual 170, 3) := by decide +kernel
theorem dX10_record_85 : decode cX10_record 85 = .ok (.ireturn, 1) := by decide +kernel
theorem dX10_record_86 : decode cX10_record 86 = .ok (.aload_n 0, 1) := by decide +kernel
theorem dX10_record_87 : decode cX10_record 87 = .ok (.getfield 29, 3) := by decide +kernel
theorem dX10_record_90 : decode cX10_record 90 = .ok (.iload 5, 2) := by decide +kernel
theorem dX10_record_92 : decode cX10_record 92 = .ok (.invokevirtual 173, 3) := by decide +kernel
theorem dX10_record_95 : decode cX10_record 95 = .ok (.invokestatic 177, 3) := by decide +kernel
theorem dX10_record_98 : decode cX10_record 98 = .ok (.ireturn, 1) := by decide +kernel
theorem dX10_record_99 : decode cX10_record 99 = .ok (.iconst (-1), 1) := by decide +kernel
theorem dX10_record_100 : decode cX10_record 100 = .ok (.ireturn, 1) := by decide +kernel
theorem dX6_fits_0 : decode cX6_fits 0 = .ok (.iload_n 1, 1) := by decide +kernel
theorem dX6_fits_1 : decode cX6_fits 1 = .ok (.tableswitch 188 0 7 #[47, 54, 78, 109, 130, 144, 158, 173], 47) := by decide +kernel
theorem dX6_fits_48 : decode cX6_fits 48 = .ok (.aload_n 0, 1) := by decide +kernel
theorem dX6_fits_49 : decode cX6_fits 49 = .ok (.bipush 7, 2) := by decide +kernel
theorem dX6_fits_51 : decode cX6_fits 51 = .ok (.invokevirtual 103, 3) := by decide +kernel
theorem dX6_fits_54 : decode cX6_fits 54 = .ok (.ireturn, 1) := by decide +kernel
theorem dX6_fits_55 : decode cX6_fits 55 = .ok (.aload_n 0, 1) := by decide +kernel
theorem dX6_fits_56 : decode cX6_fits 56 = .ok (.bipush 13, 2) := by decide +kernel
theorem dX6_fits_58 : decode cX6_fits 58 = .ok (.invokevirtual 103, 3) := by decide +kernel
theorem dX6_fits_61 : decode cX6_fits 61 = .ok (.ifCond .ne 12, 3) := by decide +kernel
theorem dX6_fits_64 : decode cX6_fits 64 = .ok (.aload_n 0, 1) := by decide +kernel
theorem dX6_fits_65 : decode cX6_fits 65 = .ok (.bipush 14, 2) := by decide +kernel
theorem dX6_fits_67 : decode cX6_fits 67 = .ok (.invokevirtual 103, 3) := by decide +kernel
theorem dX6_fits_70 : decode cX6_fits 70 = .ok (.ifCond .eq 7, 3) := by decide +kernel
theorem dX6_fits_73 : decode cX6_fits 73 = .ok (.iconst 1, 1) := by decide +kernel
theorem dX6_fits_74 : decode cX6_fits 74 = .ok (.goto 4, 3) := by decide +kernel
theorem dX6_fits_77 : decode cX6_fits 77 = .ok (.iconst 0, 1) := by decide +kernel
theorem dX6_fits_78 : decode cX6_fits 78 = .ok (.ireturn, 1) := by decide +kernel
theorem dX6_fits_79 : decode cX6_fits 79 = .ok (.aload_n 0, 1) := by decide +kernel
theorem dX6_fits_80 : decode cX6_fits 80 = .ok (.getfield 22, 3) := by decide +kernel
theorem dX6_fits_83 : decode cX6_fits 83 = .ok (.iconst 4, 1) := by decide +kernel
theorem dX6_fits_84 : decode cX6_fits 84 = .ok (.if_icmp .ne 24, 3) := by decide +kernel
theorem dX6_fits_87 : decode cX6_fits 87 = .ok (.aload_n 0, 1) := by decide +kernel
theorem dX6_fits_88 : decode cX6_fits 88 = .ok (.getfield 42, 3) := by decide +kernel
theorem dX6_fits_91 : decode cX6_fits 91 = .ok (.ifCond .ne 17, 3) := by decide +kernel
theorem dX6_fits_94 : decode cX6_fits 94 = .ok (.aload_n 0, 1) := by decide +kernel
theorem dX6_fits_95 : decode cX6_fits 95 = .ok (.invokevirtual 106, 3) := by decide +kernel
theorem dX6_fits_98 : decode cX6_fits 98 = .ok (.invokestatic 110, 3) := by decide +kernel
theorem dX6_fits_101 : decode cX6_fits 101 = .ok (.ifCond .eq 7, 3) := by decide +kernel
theorem dX6_fits_104 : decode cX6_fits 104 = .ok (.iconst 1, 1) := by decide +kernel
theorem dX6_fits_105 : decode cX6_fits 105 = .ok (.goto 4, 3) := by decide +kernel
theorem dX6_fits_108 : decode cX6_fits 108 = .ok (.iconst 0, 1) := by decide +kernel
theorem dX6_fits_109 : decode cX6_fits 109 = .ok (.ireturn, 1) := by decide +kernel
theorem dX6_fits_110 : decode cX6_fits 110 = .ok (.aload_n 0, 1) := by decide +kernel
theorem dX6_fits_111 : decode cX6_fits 111 = .ok (.getfield 22, 3) := by decide +kernel
theorem dX6_fits_114 : decode cX6_fits 114 = .ok (.iconst 4, 1) := by decide +kernel
theorem dX6_fits_115 : decode cX6_fits 115 = .ok (.if_icmp .ne 14, 3) := by decide +kernel
theorem dX6_fits_118 : decode cX6_fits 118 = .ok (.aload_n 0, 1) := by decide +kernel
theorem dX6_fits_119 : decode cX6_fits 119 = .ok (.getfield 42, 3) := by decide +kernel
theorem dX6_fits_122 : decode cX6_fits 122 = .ok (.ifCond .ne 7, 3) := by decide +kernel
theorem dX6_fits_125 : decode cX6_fits 125 = .ok (.iconst 1, 1) := by decide +kernel
theorem dX6_fits_126 : decode cX6_fits 126 = .ok (.goto 4, 3) := by decide +kernel
theorem dX6_fits_129 : decode cX6_fits 129 = .ok (.iconst 0, 1) := by decide +kernel
theorem dX6_fits_130 : decode cX6_fits 130 = .ok (.ireturn, 1) := by decide +kernel
theorem dX6_fits_131 : decode cX6_fits 131 = .ok (.aload_n 0, 1) := by decide +kernel
theorem dX6_fits_132 : decode cX6_fits 132 = .ok (.getfield 22, 3) := by decide +kernel
theorem dX6_fits_135 : decode cX6_fits 135 = .ok (.iconst 4, 1) := by decide +kernel
theorem dX6_fits_136 : decode cX6_fits 136 = .ok (.if_icmp .ne 7, 3) := by decide +kernel
theorem dX6_fits_139 : decode cX6_fits 139 = .ok (.iconst 1, 1) := by decide +kernel
theorem dX6_fits_140 : decode cX6_fits 140 = .ok (.goto 4, 3) := by decide +kernel
theorem dX6_fits_143 : decode cX6_fits 143 = .ok (.iconst 0, 1) := by decide +kernel
theorem dX6_fits_144 : decode cX6_fits 144 = .ok (.ireturn, 1) := by decide +kernel
theorem dX6_fits_145 : decode cX6_fits 145 = .ok (.aload_n 0, 1) := by decide +kernel
theorem dX6_fits_146 : decode cX6_fits 146 = .ok (.getfield 22, 3) := by decide +kernel
theorem dX6_fits_149 : decode cX6_fits 149 = .ok (.iconst 5, 1) := by decide +kernel
theorem dX6_fits_150 : decode cX6_fits 150 = .ok (.if_icmp .ne 7, 3) := by decide +kernel
theorem dX6_fits_153 : decode cX6_fits 153 = .ok (.iconst 1, 1) := by decide +kernel
theorem dX6_fits_154 : decode cX6_fits 154 = .ok (.goto 4, 3) := by decide +kernel
theorem dX6_fits_157 : decode cX6_fits 157 = .ok (.iconst 0, 1) := by decide +kernel
theorem dX6_fits_158 : decode cX6_fits 158 = .ok (.ireturn, 1) := by decide +kernel
theorem dX6_fits_159 : decode cX6_fits 159 = .ok (.aload_n 0, 1) := by decide +kernel
theorem dX6_fits_160 : decode cX6_fits 160 = .ok (.getfield 22, 3) := by decide +kernel
theorem dX6_fits_163 : decode cX6_fits 163 = .ok (.bipush 91, 2) := by decide +kernel
theorem dX6_fits_165 : decode cX6_fits 165 = .ok (.if_icmp .ne 7, 3) := by decide +kernel
theorem dX6_fits_168 : decode cX6_fits 168 = .ok (.iconst 1, 1) := by decide +kernel
theorem dX6_fits_169 : decode cX6_fits 169 = .ok (.goto 4, 3) := by decide +kernel
theorem dX6_fits_172 : decode cX6_fits 172 = .ok (.iconst 0, 1) := by decide +kernel
theorem dX6_fits_173 : decode cX6_fits 173 = .ok (.ireturn, 1) := by decide +kernel
theorem dX6_fits_174 : decode cX6_fits 174 = .ok (.aload_n 0, 1) := by decide +kernel
theorem dX6_fits_175 : decode cX6_fits 175 = .ok (.getfield 22, 3) := by decide +kernel
theorem dX6_fits_178 : decode cX6_fits 178 = .ok (.bipush 123, 2) := by decide +kernel
theorem dX6_fits_180 : decode cX6_fits 180 = .ok (.if_icmp .ne 7, 3) := by decide +kernel
theorem dX6_fits_183 : decode cX6_fits 183 = .ok (.iconst 1, 1) := by decide +kernel
theorem dX6_fits_184 : decode cX6_fits 184 = .ok (.goto 4, 3) := by decide +kernel
theorem dX6_fits_187 : decode cX6_fits 187 = .ok (.iconst 0, 1) := by decide +kernel
theorem dX6_fits_188 : decode cX6_fits 188 = .ok (.ireturn, 1) := by decide +kernel
theorem dX6_fits_189 : decode cX6_fits 189 = .ok (.iconst 0, 1) := by decide +kernel
theorem dX6_fits_190 : decode cX6_fits 190 = .ok (.ireturn, 1) := by decide +kernel
theorem dX6_refuse_0 : decode cX6_refuse 0 = .ok (.aload_n 0, 1) := by decide +kernel
theorem dX6_refuse_1 : decode cX6_refuse 1 = .ok (.iload_n 1, 1) := by decide +kernel
theorem dX6_refuse_2 : decode cX6_refuse 2 = .ok (.aload_n 0, 1) := by decide +kernel
theorem dX6_refuse_3 : decode cX6_refuse 3 = .ok (.getfield 25, 3) := by decide +kernel
theorem dX6_refuse_6 : decode cX6_refuse 6 = .ok (.invokevirtual 73, 3) := by decide +kernel
theorem dX6_refuse_9 : decode cX6_refuse 9 = .ok (.ireturn, 1) := by decide +kernel
set_option maxRecDepth 100000 in
set_option maxHeartbeats 4000000 in
theorem s_X6_refuse (l : Launch) (dC : Nat → ClassId) (dI : Nat → Nat → Nat) (h0 : Nat) (ax6_0 : Nat) (ax6_1 : Nat) (xx6_2 : Int32) (xx6_3 : Int32) (xx6_4 : Int32) (xx6_5 : Int32) (xx6_6 : Int32) (xx6_7 : Int64) (xx6_8 : Int64) (xx6_9 : Int32) (xx6_10 : Int32) (xx6_11 : Int32) (xx6_12 : Int32) (xx6_13 : Int32) (p0 : Int32) (sz : Nat) : Met l yX6_refuse (.code yX6_refuse cX6_refuse 2 (some .boolean) :: pw) ({ frames := 1, cells := 0, slots := 0, locals := 22 }) (va_Pc [.ref h0, .int p0] (vPre dC dI [(h0, .inr (6, [.ref ax6_0, .ref ax6_1, .int xx6_2, .int xx6_3, .int xx6_4, .int xx6_5, .int xx6_6, .long xx6_7, .long xx6_8, .int xx6_9, .int xx6_10, .int xx6_11, .int xx6_12, .int xx6_13]))] [] sz)) (va_Qi (fun (r : Int32) (_ : Unit) => (r = 0)) (fun (_ : Unit) t => ∃ (y0_12 : Int32), ∃ (y0_13 : Int32), vPst dC dI (va_A [(h0, .inr (6, [.ref ax6_0, .ref ax6_1, .int xx6_2, .int xx6_3, .int xx6_4, .int xx6_5, .int xx6_6, .long xx6_7, .long xx6_8, .int xx6_9, .int xx6_10, .int xx6_11, .int xx6_12, .int xx6_13]))] sz) [(h0, .inr (6, [.ref ax6_0, .ref ax6_1, .int xx6_2, .int xx6_3, .int xx6_4, .int xx6_5, .int xx6_6, .long xx6_7, .long xx6_8, .int xx6_9, .int xx6_10, .int xx6_11, .int y0_12, .int y0_13]))] [] t) (va_A [(h0, .inr (6, [.ref ax6_0, .ref ax6_1, .int xx6_2, .int xx6_3, .int xx6_4, .int xx6_5, .int xx6_6, .long xx6_7, .long xx6_8, .int xx6_9, .int xx6_10, .int xx6_11, .int xx6_12, .int xx6_13]))] sz)) 0 0 (va_A [(h0, .inr (6, [.ref ax6_0, .ref ax6_1, .int xx6_2, .int xx6_3, .int xx6_4, .int xx6_5, .int xx6_6, .long xx6_7, .long xx6_8, .int xx6_9, .int xx6_10, .int xx6_11, .int xx6_12, .int xx6_13]))] sz) := by
  refine Met.ofW (cc := cX6_refuse) (maxL := 2) (ret := (some .boolean)) (by decide) rfl ?_
  intro p e s m args below meth c s₁ B hml hv
  obtain ⟨rfl, hsz, hP, hK, hD0, hN⟩ := hv
  have hx := B.exec
  have hb := B.bytes
  have hr := B.returns
  have hts := atoms_spec (ws := .code yX6_refuse cX6_refuse 2 (some .boolean) :: pw) B.pre
  have hts : ∀ w ∈ pw, w.before _ s = true := fun w h => hts w (List.mem_cons_of_mem _ h)
  have hown : s.vm.findClass RX6 = some m.cls := findClass_of_methodNamed B.named
  have hlocks := B.notSynchronized
  subst hsz
  have hD := hD0.self (sz := s.heap.size)
  generalize hAe : va_A [(h0, .inr (6, [.ref ax6_0, .ref ax6_1, .int xx6_2, .int xx6_3, .int xx6_4, .int xx6_5, .int xx6_6, .long xx6_7, .long xx6_8, .int xx6_9, .int xx6_10, .int xx6_11, .int xx6_12, .int xx6_13]))] s.heap.size = A at hD ⊢
  have hA : ∀ q : Nat, s.heap.size ≤ q → A q := fun q h => by rw [← hAe]; exact Or.inr h
  have hS : va_S A s.heap s.heap [] := va_S.rf
  have hP : va_P (dC, dI) vwCl [(h0, .inr (6, [.ref ax6_0, .ref ax6_1, .int xx6_2, .int xx6_3, .int xx6_4, .int xx6_5, .int xx6_6, .long xx6_7, .long xx6_8, .int xx6_9, .int xx6_10, .int xx6_11, .int xx6_12, .int xx6_13]))] s.heap := hP
  have hl := lv_entry ([.ref h0, .int p0]) (n := 2) (Nat.le_of_ble_eq_true rfl)
  rw [lg_entry_eq]
  generalize (lg_sl ([.ref h0, .int p0]) ++ List.replicate (2 - (lg_sl ([.ref h0, .int p0])).length) Slot.unset).toArray = ls at hl ⊢
  have hl : lv_has ls 2 [(0, .ref h0), (1, .int p0)] := hl
  refine lv_aload_n hx hb dX6_refuse_0 rfl (lv_at hl 0 rfl) ?_
  refine lv_iload_n hx hb dX6_refuse_1 rfl (lv_at hl 1 rfl) ?_
  refine lv_aload_n hx hb dX6_refuse_2 rfl (lv_at hl 0 rfl) ?_
  refine va_get (D := (dC, dI)) (ci := 6) (v := .int xx6_5) (C := RX6) (T := TX6) (N := 14) hx hb hts inlX6 hown hK hP 0 rfl rfl 5 (by decide) (hts (.fieldLink RX6 25 "ShapeReader$Tokens" "start" "I") mw_16_3) (fun _ h9 => h9) rfl dX6_refuse_3 ?_
  have hPc := hP.sub (ws' := [(h0, .inr (6, [.ref ax6_0, .ref ax6_1, .int xx6_2, .int xx6_3, .int xx6_4, .int xx6_5, .int xx6_6, .long xx6_7, .long xx6_8, .int xx6_9, .int xx6_10, .int xx6_11, .int xx6_12, .int xx6_13]))]) [0] rfl
  have hDc := hD.sub (ws' := [(h0, .inr (6, [.ref ax6_0, .ref ax6_1, .int xx6_2, .int xx6_3, .int xx6_4, .int xx6_5, .int xx6_6, .long xx6_7, .long xx6_8, .int xx6_9, .int xx6_10, .int xx6_11, .int xx6_12, .int xx6_13]))]) [0] (by decide) rfl
  have hKc := hK.sub (tys' := []) [] rfl
  have hFc := va_free (wc := [(h0, .inr (6, [.ref ax6_0, .ref ax6_1, .int xx6_2, .int xx6_3, .int xx6_4, .int xx6_5, .int xx6_6, .long xx6_7, .long xx6_8, .int xx6_9, .int xx6_10, .int xx6_11, .int xx6_12, .int xx6_13]))]) hD hS hA [0] rfl
  refine va_calli (va_runV (As := [.int p0, .int xx6_5]) (rest := []) ⟨hx, hb, hml, hown, hts⟩ (s_X6_refuseAt l dC dI h0 ax6_0 ax6_1 xx6_2 xx6_3 xx6_4 xx6_5 xx6_6 xx6_7 xx6_8 xx6_9 xx6_10 xx6_11 xx6_12 xx6_13 p0 xx6_5 s.heap.size) (cwV 2 hts (gV mw_16_21 mw_7_25 mw_7_26 mw_0_10 mw_50_4) rfl rfl rfl (by decide +kernel) ⟨(Nat.le_of_ble_eq_true rfl), (Nat.le_of_ble_eq_true rfl)⟩) (vV (ci := 6) (q0 := 0) hKc hPc hDc hN rfl rfl) rfl rfl hl.1 rfl (lv_room (Nat.le_of_ble_eq_true rfl)) dX6_refuse_6 ⟨(Nat.le_of_ble_eq_true rfl), (Nat.le_of_ble_eq_true rfl)⟩) hS (fun q _ h => hFc q h) hFc (fun r_1 u t H1 locs ht hvm hw hB hz1 hk1 hS => ?_)
  obtain ⟨y0_12_2, y0_13_3, hP1, hK1, hD1⟩ := hB
  rw [ht] at hP1
  have hK1 := va_K.moved hvm.symm hK1
  obtain ⟨hP, hD⟩ := va_join (wr := []) (w1 := [(h0, .inr (6, [.ref ax6_0, .ref ax6_1, .int xx6_2, .int xx6_3, .int xx6_4, .int xx6_5, .int xx6_6, .long xx6_7, .long xx6_8, .int xx6_9, .int xx6_10, .int xx6_11, .int y0_12_2, .int y0_13_3]))]) hP hD [0] [] rfl rfl (by decide) (by decide) hk1 hFc hP1 hD1
  clear hPc hDc hKc hP1 hK1 hD1 hFc hk1 hz1
  generalize H1 = H at hP hS ⊢
  have hP : va_P (dC, dI) vwCl [(h0, .inr (6, [.ref ax6_0, .ref ax6_1, .int xx6_2, .int xx6_3, .int xx6_4, .int xx6_5, .int xx6_6, .long xx6_7, .long xx6_8, .int xx6_9, .int xx6_10, .int xx6_11, .int y0_12_2, .int y0_13_3]))] H := hP
  have hD : va_D A [(h0, .inr (6, [.ref ax6_0, .ref ax6_1, .int xx6_2, .int xx6_3, .int xx6_4, .int xx6_5, .int xx6_6, .long xx6_7, .long xx6_8, .int xx6_9, .int xx6_10, .int xx6_11, .int y0_12_2, .int y0_13_3]))] := hD
  subst hw
  have hP9 := hP.sub (ws' := [(h0, .inr (6, [.ref ax6_0, .ref ax6_1, .int xx6_2, .int xx6_3, .int xx6_4, .int xx6_5, .int xx6_6, .long xx6_7, .long xx6_8, .int xx6_9, .int xx6_10, .int xx6_11, .int y0_12_2, .int y0_13_3]))]) [0] rfl
  have hD9 := hD.sub (ws' := [(h0, .inr (6, [.ref ax6_0, .ref ax6_1, .int xx6_2, .int xx6_3, .int xx6_4, .int xx6_5, .int xx6_6, .long xx6_7, .long xx6_8, .int xx6_9, .int xx6_10, .int xx6_11, .int y0_12_2, .int y0_13_3]))]) [0] (by decide) rfl
  have hK9 := hK.sub (tys' := []) [] rfl
  refine W.widen (k := 0) (n := 0) (Nat.le_of_ble_eq_true rfl) (Nat.le_of_ble_eq_true rfl) ?_
  exact W.zret (v := 0) hx hb hr rfl (fun t ht hW => ⟨⟨0, (), rfl, rfl, y0_12_2, y0_13_3, by rw [ht]; exact hP9, va_K.moved hW.alike hK9, hD9⟩, hS.F ht⟩) hS.2.2 dX6_refuse_9

set_option maxRecDepth 100000 in
set_option maxHeartbeats 4000000 in
theorem s_X6_fits (l : Launch) (dC : Nat → ClassId) (dI : Nat → Nat → Nat) (h0 : Nat) (ax6_0 : Nat) (ax6_1 : Nat) (xx6_2 : Int32) (xx6_3 : Int32) (xx6_4 : Int32) (xx6_5 : Int32) (xx6_6 : Int32) (xx6_7 : Int64) (xx6_8 : Int64) (xx6_9 : Int32) (xx6_10 : Int32) (xx6_11 : Int32) (xx6_12 : Int32) (xx6_13 : Int32) (p0 : Int32) (sz : Nat) : Met l yX6_fits (.code yX6_fits cX6_fits 2 (some .boolean) :: pw) ({ frames := 1, cells := 0, slots := 0, locals := 21 }) (va_Pc [.ref h0, .int p0] (vPre dC dI [(h0, .inr (6, [.ref ax6_0, .ref ax6_1, .int xx6_2, .int xx6_3, .int xx6_4, .int xx6_5, .int xx6_6, .long xx6_7, .long xx6_8, .int xx6_9, .int xx6_10, .int xx6_11, .int xx6_12, .int xx6_13]))] [] sz)) (va_Qi (fun (r : Int32) (_ : Unit) => (r = 0) ∨ (r = 1)) (fun (_ : Unit) t => vPst dC dI (va_A [(h0, .inr (6, [.ref ax6_0, .ref ax6_1, .int xx6_2, .int xx6_3, .int xx6_4, .int xx6_5, .int xx6_6, .long xx6_7, .long xx6_8, .int xx6_9, .int xx6_10, .int xx6_11, .int xx6_12, .int xx6_13]))] sz) [(h0, .inr (6, [.ref ax6_0, .ref ax6_1, .int xx6_2, .int xx6_3, .int xx6_4, .int xx6_5, .int xx6_6, .long xx6_7, .long xx6_8, .int xx6_9, .int xx6_10, .int xx6_11, .int xx6_12, .int xx6_13]))] [] t) (va_A [(h0, .inr (6, [.ref ax6_0, .ref ax6_1, .int xx6_2, .int xx6_3, .int xx6_4, .int xx6_5, .int xx6_6, .long xx6_7, .long xx6_8, .int xx6_9, .int xx6_10, .int xx6_11, .int xx6_12, .int xx6_13]))] sz)) 0 0 (va_A [(h0, .inr (6, [.ref ax6_0, .ref ax6_1, .int xx6_2, .int xx6_3, .int xx6_4, .int xx6_5, .int xx6_6, .long xx6_7, .long xx6_8, .int xx6_9, .int xx6_10, .int xx6_11, .int xx6_12, .int xx6_13]))] sz) := by
  refine Met.ofW (cc := cX6_fits) (maxL := 2) (ret := (some .boolean)) (by decide) rfl ?_
  intro p e s m args below meth c s₁ B hml hv
  obtain ⟨rfl, hsz, hP, hK, hD0, hN⟩ := hv
  have hx := B.exec
  have hb := B.bytes
  have hr := B.returns
  have hts := atoms_spec (ws := .code yX6_fits cX6_fits 2 (some .boolean) :: pw) B.pre
  have hts : ∀ w ∈ pw, w.before _ s = true := fun w h => hts w (List.mem_cons_of_mem _ h)
  have hown : s.vm.findClass RX6 = some m.cls := findClass_of_methodNamed B.named
  have hlocks := B.notSynchronized
  subst hsz
  have hD := hD0.self (sz := s.heap.size)
  generalize hAe : va_A [(h0, .inr (6, [.ref ax6_0, .ref ax6_1, .int xx6_2, .int xx6_3, .int xx6_4, .int xx6_5, .int xx6_6, .long xx6_7, .long xx6_8, .int xx6_9, .int xx6_10, .int xx6_11, .int xx6_12, .int xx6_13]))] s.heap.size = A at hD ⊢
  have hA : ∀ q : Nat, s.heap.size ≤ q → A q := fun q h => by rw [← hAe]; exact Or.inr h
  have hS : va_S A s.heap s.heap [] := va_S.rf
  have hP : va_P (dC, dI) vwCl [(h0, .inr (6, [.ref ax6_0, .ref ax6_1, .int xx6_2, .int xx6_3, .int xx6_4, .int xx6_5, .int xx6_6, .long xx6_7, .long xx6_8, .int xx6_9, .int xx6_10, .int xx6_11, .int xx6_12, .int xx6_13]))] s.heap := hP
  have hl := lv_entry ([.ref h0, .int p0]) (n := 2) (Nat.le_of_ble_eq_true rfl)
  rw [lg_entry_eq]
  generalize (lg_sl ([.ref h0, .int p0]) ++ List.replicate (2 - (lg_sl ([.ref h0, .int p0])).length) Slot.unset).toArray = ls at hl ⊢
  have hl : lv_has ls 2 [(0, .ref h0), (1, .int p0)] := hl
  refine lv_iload_n hx hb dX6_fits_0 rfl (lv_at hl 1 rfl) ?_
  rcases (il_sw8 p0 (0) (1) (2) (3) (4) (5) (6) (7)) with s_1 | s_2 | s_3 | s_4 | s_5 | s_6 | s_7 | s_8 | ⟨s_1, s_2, s_3, s_4, s_5, s_6, s_7, s_8⟩
  · refine lv_tableIn (off := 47) (tgt := 48) hx hb dX6_fits_1 (by rw [s_1]; decide) (by rw [s_1]; decide) (by rw [s_1]; rfl) (by decide) ?_
    refine lv_aload_n hx hb dX6_fits_48 rfl (lv_at hl 0 rfl) ?_
    refine lv_bipush (v := 7) hx hb dX6_fits_49 (by decide) ?_
    have hPc := hP.sub (ws' := [(h0, .inr (6, [.ref ax6_0, .ref ax6_1, .int xx6_2, .int xx6_3, .int xx6_4, .int xx6_5, .int xx6_6, .long xx6_7, .long xx6_8, .int xx6_9, .int xx6_10, .int xx6_11, .int xx6_12, .int xx6_13]))]) [0] rfl
    have hDc := hD.sub (ws' := [(h0, .inr (6, [.ref ax6_0, .ref ax6_1, .int xx6_2, .int xx6_3, .int xx6_4, .int xx6_5, .int xx6_6, .long xx6_7, .long xx6_8, .int xx6_9, .int xx6_10, .int xx6_11, .int xx6_12, .int xx6_13]))]) [0] (by decide) rfl
    have hKc := hK.sub (tys' := []) [] rfl
    have hFc := va_free (wc := [(h0, .inr (6, [.ref ax6_0, .ref ax6_1, .int xx6_2, .int xx6_3, .int xx6_4, .int xx6_5, .int xx6_6, .long xx6_7, .long xx6_8, .int xx6_9, .int xx6_10, .int xx6_11, .int xx6_12, .int xx6_13]))]) hD hS hA [0] rfl
    refine va_calli (va_runV (As := [.int 7]) (rest := []) ⟨hx, hb, hml, hown, hts⟩ (s_X6_isKeyword l dC dI h0 ax6_0 ax6_1 xx6_2 xx6_3 xx6_4 xx6_5 xx6_6 xx6_7 xx6_8 xx6_9 xx6_10 xx6_11 xx6_12 xx6_13 7 s.heap.size) (cwV 1 hts (gV mw_17_12 mw_7_3 mw_7_4 mw_0_10 mw_50_14) rfl rfl rfl (by decide +kernel) ⟨(Nat.le_of_ble_eq_true rfl), (Nat.le_of_ble_eq_true rfl)⟩) (vV (ci := 6) (q0 := 0) hKc hPc hDc hN rfl rfl) rfl rfl hl.1 rfl (lv_room (Nat.le_of_ble_eq_true rfl)) dX6_fits_51 ⟨(Nat.le_of_ble_eq_true rfl), (Nat.le_of_ble_eq_true rfl)⟩) hS (fun q _ h => hFc q h) hFc (fun r_9 u t H1 locs ht hvm hw hB hz1 hk1 hS => ?_)
    obtain ⟨hP1, hK1, hD1⟩ := hB
    rw [ht] at hP1
    have hK1 := va_K.moved hvm.symm hK1
    obtain ⟨hP, hD⟩ := va_join (wr := []) (w1 := [(h0, .inr (6, [.ref ax6_0, .ref ax6_1, .int xx6_2, .int xx6_3, .int xx6_4, .int xx6_5, .int xx6_6, .long xx6_7, .long xx6_8, .int xx6_9, .int xx6_10, .int xx6_11, .int xx6_12, .int xx6_13]))]) hP hD [0] [] rfl rfl (by decide) (by decide) hk1 hFc hP1 hD1
    clear hPc hDc hKc hP1 hK1 hD1 hFc hk1 hz1
    generalize H1 = H at hP hS ⊢
    have hP : va_P (dC, dI) vwCl [(h0, .inr (6, [.ref ax6_0, .ref ax6_1, .int xx6_2, .int xx6_3, .int xx6_4, .int xx6_5, .int xx6_6, .long xx6_7, .long xx6_8, .int xx6_9, .int xx6_10, .int xx6_11, .int xx6_12, .int xx6_13]))] H := hP
    have hD : va_D A [(h0, .inr (6, [.ref ax6_0, .ref ax6_1, .int xx6_2, .int xx6_3, .int xx6_4, .int xx6_5, .int xx6_6, .long xx6_7, .long xx6_8, .int xx6_9, .int xx6_10, .int xx6_11, .int xx6_12, .int xx6_13]))] := hD
    rcases hw with rfl | ⟨rfl, g_10, g_11⟩
    · have hP9 := hP.sub (ws' := [(h0, .inr (6, [.ref ax6_0, .ref ax6_1, .int xx6_2, .int xx6_3, .int xx6_4, .int xx6_5, .int xx6_6, .long xx6_7, .long xx6_8, .int xx6_9, .int xx6_10, .int xx6_11, .int xx6_12, .int xx6_13]))]) [0] rfl
      have hD9 := hD.sub (ws' := [(h0, .inr (6, [.ref ax6_0, .ref ax6_1, .int xx6_2, .int xx6_3, .int xx6_4, .int xx6_5, .int xx6_6, .long xx6_7, .long xx6_8, .int xx6_9, .int xx6_10, .int xx6_11, .int xx6_12, .int xx6_13]))]) [0] (by decide) rfl
      have hK9 := hK.sub (tys' := []) [] rfl
      refine W.widen (k := 0) (n := 0) (Nat.le_of_ble_eq_true rfl) (Nat.le_of_ble_eq_true rfl) ?_
      exact W.zret (v := 0) hx hb hr rfl (fun t ht hW => ⟨⟨0, (), rfl, Or.inl (rfl), by rw [ht]; exact hP9, va_K.moved hW.alike hK9, hD9⟩, hS.F ht⟩) hS.2.2 dX6_fits_54
    · have hP9 := hP.sub (ws' := [(h0, .inr (6, [.ref ax6_0, .ref ax6_1, .int xx6_2, .int xx6_3, .int xx6_4, .int xx6_5, .int xx6_6, .long xx6_7, .long xx6_8, .int xx6_9, .int xx6_10, .int xx6_11, .int xx6_12, .int xx6_13]))]) [0] rfl
      have hD9 := hD.sub (ws' := [(h0, .inr (6, [.ref ax6_0, .ref ax6_1, .int xx6_2, .int xx6_3, .int xx6_4, .int xx6_5, .int xx6_6, .long xx6_7, .long xx6_8, .int xx6_9, .int xx6_10, .int xx6_11, .int xx6_12, .int xx6_13]))]) [0] (by decide) rfl
      have hK9 := hK.sub (tys' := []) [] rfl
      refine W.widen (k := 0) (n := 0) (Nat.le_of_ble_eq_true rfl) (Nat.le_of_ble_eq_true rfl) ?_
      exact W.zret (v := 1) hx hb hr rfl (fun t ht hW => ⟨⟨1, (), rfl, Or.inr (rfl), by rw [ht]; exact hP9, va_K.moved hW.alike hK9, hD9⟩, hS.F ht⟩) hS.2.2 dX6_fits_54
  · refine lv_tableIn (off := 54) (tgt := 55) hx hb dX6_fits_1 (by rw [s_2]; decide) (by rw [s_2]; decide) (by rw [s_2]; rfl) (by decide) ?_
    refine lv_aload_n hx hb dX6_fits_55 rfl (lv_at hl 0 rfl) ?_
    refine lv_bipush (v := 13) hx hb dX6_fits_56 (by decide) ?_
    have hPc := hP.sub (ws' := [(h0, .inr (6, [.ref ax6_0, .ref ax6_1, .int xx6_2, .int xx6_3, .int xx6_4, .int xx6_5, .int xx6_6, .long xx6_7, .long xx6_8, .int xx6_9, .int xx6_10, .int xx6_11, .int xx6_12, .int xx6_13]))]) [0] rfl
    have hDc := hD.sub (ws' := [(h0, .inr (6, [.ref ax6_0, .ref ax6_1, .int xx6_2, .int xx6_3, .int xx6_4, .int xx6_5, .int xx6_6, .long xx6_7, .long xx6_8, .int xx6_9, .int xx6_10, .int xx6_11, .int xx6_12, .int xx6_13]))]) [0] (by decide) rfl
    have hKc := hK.sub (tys' := []) [] rfl
    have hFc := va_free (wc := [(h0, .inr (6, [.ref ax6_0, .ref ax6_1, .int xx6_2, .int xx6_3, .int xx6_4, .int xx6_5, .int xx6_6, .long xx6_7, .long xx6_8, .int xx6_9, .int xx6_10, .int xx6_11, .int xx6_12, .int xx6_13]))]) hD hS hA [0] rfl
    refine va_calli (va_runV (As := [.int 13]) (rest := []) ⟨hx, hb, hml, hown, hts⟩ (s_X6_isKeyword l dC dI h0 ax6_0 ax6_1 xx6_2 xx6_3 xx6_4 xx6_5 xx6_6 xx6_7 xx6_8 xx6_9 xx6_10 xx6_11 xx6_12 xx6_13 13 s.heap.size) (cwV 1 hts (gV mw_17_12 mw_7_3 mw_7_4 mw_0_10 mw_50_14) rfl rfl rfl (by decide +kernel) ⟨(Nat.le_of_ble_eq_true rfl), (Nat.le_of_ble_eq_true rfl)⟩) (vV (ci := 6) (q0 := 0) hKc hPc hDc hN rfl rfl) rfl rfl hl.1 rfl (lv_room (Nat.le_of_ble_eq_true rfl)) dX6_fits_58 ⟨(Nat.le_of_ble_eq_true rfl), (Nat.le_of_ble_eq_true rfl)⟩) hS (fun q _ h => hFc q h) hFc (fun r_12 u t H1 locs ht hvm hw hB hz1 hk1 hS => ?_)
    obtain ⟨hP1, hK1, hD1⟩ := hB
    rw [ht] at hP1
    have hK1 := va_K.moved hvm.symm hK1
    obtain ⟨hP, hD⟩ := va_join (wr := []) (w1 := [(h0, .inr (6, [.ref ax6_0, .ref ax6_1, .int xx6_2, .int xx6_3, .int xx6_4, .int xx6_5, .int xx6_6, .long xx6_7, .long xx6_8, .int xx6_9, .int xx6_10, .int xx6_11, .int xx6_12, .int xx6_13]))]) hP hD [0] [] rfl rfl (by decide) (by decide) hk1 hFc hP1 hD1
    clear hPc hDc hKc hP1 hK1 hD1 hFc hk1 hz1
    generalize H1 = H at hP hS ⊢
    have hP : va_P (dC, dI) vwCl [(h0, .inr (6, [.ref ax6_0, .ref ax6_1, .int xx6_2, .int xx6_3, .int xx6_4, .int xx6_5, .int xx6_6, .long xx6_7, .long xx6_8, .int xx6_9, .int xx6_10, .int xx6_11, .int xx6_12, .int xx6_13]))] H := hP
    have hD : va_D A [(h0, .inr (6, [.ref ax6_0, .ref ax6_1, .int xx6_2, .int xx6_3, .int xx6_4, .int xx6_5, .int xx6_6, .long xx6_7, .long xx6_8, .int xx6_9, .int xx6_10, .int xx6_11, .int xx6_12, .int xx6_13]))] := hD
    rcases hw with rfl | ⟨rfl, g_13, g_14⟩
    · refine lv_if_ne (tgt := 73) hx hb dX6_fits_61 (by decide) (fun h => absurd rfl h) (fun _ => ?_)
      refine lv_aload_n hx hb dX6_fits_64 rfl (lv_at hl 0 rfl) ?_
      refine lv_bipush (v := 14) hx hb dX6_fits_65 (by decide) ?_
      have hPc := hP.sub (ws' := [(h0, .inr (6, [.ref ax6_0, .ref ax6_1, .int xx6_2, .int xx6_3, .int xx6_4, .int xx6_5, .int xx6_6, .long xx6_7, .long xx6_8, .int xx6_9, .int xx6_10, .int xx6_11, .int xx6_12, .int xx6_13]))]) [0] rfl
      have hDc := hD.sub (ws' := [(h0, .inr (6, [.ref ax6_0, .ref ax6_1, .int xx6_2, .int xx6_3, .int xx6_4, .int xx6_5, .int xx6_6, .long xx6_7, .long xx6_8, .int xx6_9, .int xx6_10, .int xx6_11, .int xx6_12, .int xx6_13]))]) [0] (by decide) rfl
      have hKc := hK.sub (tys' := []) [] rfl
      have hFc := va_free (wc := [(h0, .inr (6, [.ref ax6_0, .ref ax6_1, .int xx6_2, .int xx6_3, .int xx6_4, .int xx6_5, .int xx6_6, .long xx6_7, .long xx6_8, .int xx6_9, .int xx6_10, .int xx6_11, .int xx6_12, .int xx6_13]))]) hD hS hA [0] rfl
      refine va_calli (va_runV (As := [.int 14]) (rest := []) ⟨hx, hb, hml, hown, hts⟩ (s_X6_isKeyword l dC dI h0 ax6_0 ax6_1 xx6_2 xx6_3 xx6_4 xx6_5 xx6_6 xx6_7 xx6_8 xx6_9 xx6_10 xx6_11 xx6_12 xx6_13 14 H.size) (cwV 1 hts (gV mw_17_12 mw_7_3 mw_7_4 mw_0_10 mw_50_14) rfl rfl rfl (by decide +kernel) ⟨(Nat.le_of_ble_eq_true rfl), (Nat.le_of_ble_eq_true rfl)⟩) (vV (ci := 6) (q0 := 0) hKc hPc hDc hN rfl rfl) rfl rfl hl.1 rfl (lv_room (Nat.le_of_ble_eq_true rfl)) dX6_fits_67 ⟨(Nat.le_of_ble_eq_true rfl), (Nat.le_of_ble_eq_true rfl)⟩) hS (fun q _ h => hFc q h) hFc (fun r_16 u t H1 locs ht hvm hw hB hz1 hk1 hS => ?_)
      obtain ⟨hP1, hK1, hD1⟩ := hB
      rw [ht] at hP1
      have hK1 := va_K.moved hvm.symm hK1
      obtain ⟨hP, hD⟩ := va_join (wr := []) (w1 := [(h0, .inr (6, [.ref ax6_0, .ref ax6_1, .int xx6_2, .int xx6_3, .int xx6_4, .int xx6_5, .int xx6_6, .long xx6_7, .long xx6_8, .int xx6_9, .int xx6_10, .int xx6_11, .int xx6_12, .int xx6_13]))]) hP hD [0] [] rfl rfl (by decide) (by decide) hk1 hFc hP1 hD1
      clear hPc hDc hKc hP1 hK1 hD1 hFc hk1 hz1
      generalize H1 = H at hP hS ⊢
      have hP : va_P (dC, dI) vwCl [(h0, .inr (6, [.ref ax6_0, .ref ax6_1, .int xx6_2, .int xx6_3, .int xx6_4, .int xx6_5, .int xx6_6, .long xx6_7, .long xx6_8, .int xx6_9, .int xx6_10, .int xx6_11, .int xx6_12, .int xx6_13]))] H := hP
      have hD : va_D A [(h0, .inr (6, [.ref ax6_0, .ref ax6_1, .int xx6_2, .int xx6_3, .int xx6_4, .int xx6_5, .int xx6_6, .long xx6_7, .long xx6_8, .int xx6_9, .int xx6_10, .int xx6_11, .int xx6_12, .int xx6_13]))] := hD
      rcases hw with rfl | ⟨rfl, g_17, g_18⟩
      · refine lv_if_eq (tgt := 77) hx hb dX6_fits_70 (by decide) (fun _ => ?_) (fun h => absurd (by decide) h)
        refine lv_iconst (v := 0) hx hb dX6_fits_77 (by decide) ?_
        have hP9 := hP.sub (ws' := [(h0, .inr (6, [.ref ax6_0, .ref ax6_1, .int xx6_2, .int xx6_3, .int xx6_4, .int xx6_5, .int xx6_6, .long xx6_7, .long xx6_8, .int xx6_9, .int xx6_10, .int xx6_11, .int xx6_12, .int xx6_13]))]) [0] rfl
        have hD9 := hD.sub (ws' := [(h0, .inr (6, [.ref ax6_0, .ref ax6_1, .int xx6_2, .int xx6_3, .int xx6_4, .int xx6_5, .int xx6_6, .long xx6_7, .long xx6_8, .int xx6_9, .int xx6_10, .int xx6_11, .int xx6_12, .int xx6_13]))]) [0] (by decide) rfl
        have hK9 := hK.sub (tys' := []) [] rfl
        refine W.widen (k := 0) (n := 0) (Nat.le_of_ble_eq_true rfl) (Nat.le_of_ble_eq_true rfl) ?_
        exact W.zret (v := 0) hx hb hr rfl (fun t ht hW => ⟨⟨0, (), rfl, Or.inl (rfl), by rw [ht]; exact hP9, va_K.moved hW.alike hK9, hD9⟩, hS.F ht⟩) hS.2.2 dX6_fits_78
      · refine lv_if_eq (tgt := 77) hx hb dX6_fits_70 (by decide) (fun h => absurd h (by decide)) (fun _ => ?_)
        refine lv_iconst (v := 1) hx hb dX6_fits_73 (by decide) ?_
        refine lv_goto (tgt := 78) hx hb dX6_fits_74 (by decide) ?_
        have hP9 := hP.sub (ws' := [(h0, .inr (6, [.ref ax6_0, .ref ax6_1, .int xx6_2, .int xx6_3, .int xx6_4, .int xx6_5, .int xx6_6, .long xx6_7, .long xx6_8, .int xx6_9, .int xx6_10, .int xx6_11, .int xx6_12, .int xx6_13]))]) [0] rfl
        have hD9 := hD.sub (ws' := [(h0, .inr (6, [.ref ax6_0, .ref ax6_1, .int xx6_2, .int xx6_3, .int xx6_4, .int xx6_5, .int xx6_6, .long xx6_7, .long xx6_8, .int xx6_9, .int xx6_10, .int xx6_11, .int xx6_12, .int xx6_13]))]) [0] (by decide) rfl
        have hK9 := hK.sub (tys' := []) [] rfl
        refine W.widen (k := 0) (n := 0) (Nat.le_of_ble_eq_true rfl) (Nat.le_of_ble_eq_true rfl) ?_
        exact W.zret (v := 1) hx hb hr rfl (fun t ht hW => ⟨⟨1, (), rfl, Or.inr (rfl), by rw [ht]; exact hP9, va_K.moved hW.alike hK9, hD9⟩, hS.F ht⟩) hS.2.2 dX6_fits_78
    · refine lv_if_ne (tgt := 73) hx hb dX6_fits_61 (by decide) (fun _ => ?_) (fun h => absurd h (by decide))
      refine lv_iconst (v := 1) hx hb dX6_fits_73 (by decide) ?_
      refine lv_goto (tgt := 78) hx hb dX6_fits_74 (by decide) ?_
      have hP9 := hP.sub (ws' := [(h0, .inr (6, [.ref ax6_0, .ref ax6_1, .int xx6_2, .int xx6_3, .int xx6_4, .int xx6_5, .int xx6_6, .long xx6_7, .long xx6_8, .int xx6_9, .int xx6_10, .int xx6_11, .int xx6_12, .int xx6_13]))]) [0] rfl
      have hD9 := hD.sub (ws' := [(h0, .inr (6, [.ref ax6_0, .ref ax6_1, .int xx6_2, .int xx6_3, .int xx6_4, .int xx6_5, .int xx6_6, .long xx6_7, .long xx6_8, .int xx6_9, .int xx6_10, .int xx6_11, .int xx6_12, .int xx6_13]))]) [0] (by decide) rfl
      have hK9 := hK.sub (tys' := []) [] rfl
      refine W.widen (k := 0) (n := 0) (Nat.le_of_ble_eq_true rfl) (Nat.le_of_ble_eq_true rfl) ?_
      exact W.zret (v := 1) hx hb hr rfl (fun t ht hW => ⟨⟨1, (), rfl, Or.inr (rfl), by rw [ht]; exact hP9, va_K.moved hW.alike hK9, hD9⟩, hS.F ht⟩) hS.2.2 dX6_fits_78
  · refine lv_tableIn (off := 78) (tgt := 79) hx hb dX6_fits_1 (by rw [s_3]; decide) (by rw [s_3]; decide) (by rw [s_3]; rfl) (by decide) ?_
    refine lv_aload_n hx hb dX6_fits_79 rfl (lv_at hl 0 rfl) ?_
    refine va_get (D := (dC, dI)) (ci := 6) (v := .int xx6_4) (C := RX6) (T := TX6) (N := 14) hx hb hts inlX6 hown hK hP 0 rfl rfl 4 (by decide) (hts (.fieldLink RX6 22 "ShapeReader$Tokens" "kind" "I") mw_16_2) (fun _ h9 => h9) rfl dX6_fits_80 ?_
    refine lv_iconst (v := 4) hx hb dX6_fits_83 (by decide) ?_
    refine lv_icmp_ne (tgt := 108) hx hb dX6_fits_84 (by decide) (fun c_22 => ?_) (fun c_22 => ?_)
    · refine lv_iconst (v := 0) hx hb dX6_fits_108 (by decide) ?_
      have hP9 := hP.sub (ws' := [(h0, .inr (6, [.ref ax6_0, .ref ax6_1, .int xx6_2, .int xx6_3, .int xx6_4, .int xx6_5, .int xx6_6, .long xx6_7, .long xx6_8, .int xx6_9, .int xx6_10, .int xx6_11, .int xx6_12, .int xx6_13]))]) [0] rfl
      have hD9 := hD.sub (ws' := [(h0, .inr (6, [.ref ax6_0, .ref ax6_1, .int xx6_2, .int xx6_3, .int xx6_4, .int xx6_5, .int xx6_6, .long xx6_7, .long xx6_8, .int xx6_9, .int xx6_10, .int xx6_11, .int xx6_12, .int xx6_13]))]) [0] (by decide) rfl
      have hK9 := hK.sub (tys' := []) [] rfl
      refine W.widen (k := 0) (n := 0) (Nat.le_of_ble_eq_true rfl) (Nat.le_of_ble_eq_true rfl) ?_
      exact W.zret (v := 0) hx hb hr rfl (fun t ht hW => ⟨⟨0, (), rfl, Or.inl (rfl), by rw [ht]; exact hP9, va_K.moved hW.alike hK9, hD9⟩, hS.F ht⟩) hS.2.2 dX6_fits_109
    · refine lv_aload_n hx hb dX6_fits_87 rfl (lv_at hl 0 rfl) ?_
      refine va_get (D := (dC, dI)) (ci := 6) (v := .int xx6_10) (C := RX6) (T := TX6) (N := 14) hx hb hts inlX6 hown hK hP 0 rfl rfl 10 (by decide) (hts (.fieldLink RX6 42 "ShapeReader$Tokens" "dotted" "Z") mw_16_8) (fun _ h9 => h9) rfl dX6_fits_88 ?_
      refine lv_if_ne (tgt := 108) hx hb dX6_fits_91 (by decide) (fun c_23 => ?_) (fun c_23 => ?_)
      · refine lv_iconst (v := 0) hx hb dX6_fits_108 (by decide) ?_
        have hP9 := hP.sub (ws' := [(h0, .inr (6, [.ref ax6_0, .ref ax6_1, .int xx6_2, .int xx6_3, .int xx6_4, .int xx6_5, .int xx6_6, .long xx6_7, .long xx6_8, .int xx6_9, .int xx6_10, .int xx6_11, .int xx6_12, .int xx6_13]))]) [0] rfl
        have hD9 := hD.sub (ws' := [(h0, .inr (6, [.ref ax6_0, .ref ax6_1, .int xx6_2, .int xx6_3, .int xx6_4, .int xx6_5, .int xx6_6, .long xx6_7, .long xx6_8, .int xx6_9, .int xx6_10, .int xx6_11, .int xx6_12, .int xx6_13]))]) [0] (by decide) rfl
        have hK9 := hK.sub (tys' := []) [] rfl
        refine W.widen (k := 0) (n := 0) (Nat.le_of_ble_eq_true rfl) (Nat.le_of_ble_eq_true rfl) ?_
        exact W.zret (v := 0) hx hb hr rfl (fun t ht hW => ⟨⟨0, (), rfl, Or.inl (rfl), by rw [ht]; exact hP9, va_K.moved hW.alike hK9, hD9⟩, hS.F ht⟩) hS.2.2 dX6_fits_109
      · refine lv_aload_n hx hb dX6_fits_94 rfl (lv_at hl 0 rfl) ?_
        have hPc := hP.sub (ws' := [(h0, .inr (6, [.ref ax6_0, .ref ax6_1, .int xx6_2, .int xx6_3, .int xx6_4, .int xx6_5, .int xx6_6, .long xx6_7, .long xx6_8, .int xx6_9, .int xx6_10, .int xx6_11, .int xx6_12, .int xx6_13]))]) [0] rfl
        have hDc := hD.sub (ws' := [(h0, .inr (6, [.ref ax6_0, .ref ax6_1, .int xx6_2, .int xx6_3, .int xx6_4, .int xx6_5, .int xx6_6, .long xx6_7, .long xx6_8, .int xx6_9, .int xx6_10, .int xx6_11, .int xx6_12, .int xx6_13]))]) [0] (by decide) rfl
        have hKc := hK.sub (tys' := []) [] rfl
        have hFc := va_free (wc := [(h0, .inr (6, [.ref ax6_0, .ref ax6_1, .int xx6_2, .int xx6_3, .int xx6_4, .int xx6_5, .int xx6_6, .long xx6_7, .long xx6_8, .int xx6_9, .int xx6_10, .int xx6_11, .int xx6_12, .int xx6_13]))]) hD hS hA [0] rfl
        refine va_calll (va_runV (As := []) (rest := []) ⟨hx, hb, hml, hown, hts⟩ (s_X6_whole l dC dI h0 ax6_0 ax6_1 xx6_2 xx6_3 xx6_4 xx6_5 xx6_6 xx6_7 xx6_8 xx6_9 xx6_10 xx6_11 xx6_12 xx6_13 s.heap.size) (cwV 0 hts (gV mw_17_13 mw_17_14 mw_17_15 mw_0_10 mw_50_18) rfl rfl rfl (by decide +kernel) ⟨(Nat.le_of_ble_eq_true rfl), (Nat.le_of_ble_eq_true rfl)⟩) (vV (ci := 6) (q0 := 0) hKc hPc hDc hN rfl rfl) rfl rfl hl.1 rfl (lv_room (Nat.le_of_ble_eq_true rfl)) dX6_fits_95 ⟨(Nat.le_of_ble_eq_true rfl), (Nat.le_of_ble_eq_true rfl)⟩) hS (fun q _ h => hFc q h) hFc (fun r_24 u t H1 locs ht hvm hw hB hz1 hk1 hS => ?_)
        obtain ⟨hP1, hK1, hD1⟩ := hB
        rw [ht] at hP1
        have hK1 := va_K.moved hvm.symm hK1
        obtain ⟨hP, hD⟩ := va_join (wr := []) (w1 := [(h0, .inr (6, [.ref ax6_0, .ref ax6_1, .int xx6_2, .int xx6_3, .int xx6_4, .int xx6_5, .int xx6_6, .long xx6_7, .long xx6_8, .int xx6_9, .int xx6_10, .int xx6_11, .int xx6_12, .int xx6_13]))]) hP hD [0] [] rfl rfl (by decide) (by decide) hk1 hFc hP1 hD1
        clear hPc hDc hKc hP1 hK1 hD1 hFc hk1 hz1
        generalize H1 = H at hP hS ⊢
        have hP : va_P (dC, dI) vwCl [(h0, .inr (6, [.ref ax6_0, .ref ax6_1, .int xx6_2, .int xx6_3, .int xx6_4, .int xx6_5, .int xx6_6, .long xx6_7, .long xx6_8, .int xx6_9, .int xx6_10, .int xx6_11, .int xx6_12, .int xx6_13]))] H := hP
        have hD : va_D A [(h0, .inr (6, [.ref ax6_0, .ref ax6_1, .int xx6_2, .int xx6_3, .int xx6_4, .int xx6_5, .int xx6_6, .long xx6_7, .long xx6_8, .int xx6_9, .int xx6_10, .int xx6_11, .int xx6_12, .int xx6_13]))] := hD
        have hr_24 := hw
        have hPc := hP.sub (ws' := []) [] rfl
        have hDc := hD.sub (ws' := []) [] (by decide) rfl
        have hKc := hK.sub (tys' := []) [] rfl
        have hFc := va_free (wc := []) hD hS hA [] rfl
        refine va_calli (va_runSN (As := [.long r_24]) (rest := []) ⟨hx, hb, hml, hown, hts⟩ (s_X10_isInt l dC dI r_24 H.size) ⟨va_cnB 1 hts (gI mw_52_22) rfl rfl rfl (hN _ (List.mem_of_getElem? (i := 2) rfl)) (hts (.initialized RX10) mw_0_14) (by decide +kernel) ⟨(Nat.le_of_ble_eq_true rfl), (Nat.le_of_ble_eq_true rfl)⟩, (hts (.static yX10_isInt) mw_13_29), trivial⟩ (vS hKc hPc hDc hN) rfl rfl hl.1 rfl (lv_room (Nat.le_of_ble_eq_true rfl)) dX6_fits_98 ⟨(Nat.le_of_ble_eq_true rfl), (Nat.le_of_ble_eq_true rfl)⟩) hS (fun q _ h => hFc q h) hFc (fun r_25 u t H1 locs ht hvm hw hB hz1 hk1 hS => ?_)
        obtain ⟨hP1, hK1, hD1⟩ := hB
        rw [ht] at hP1
        have hK1 := va_K.moved hvm.symm hK1
        obtain ⟨hP, hD⟩ := va_join (wr := [(h0, .inr (6, [.ref ax6_0, .ref ax6_1, .int xx6_2, .int xx6_3, .int xx6_4, .int xx6_5, .int xx6_6, .long xx6_7, .long xx6_8, .int xx6_9, .int xx6_10, .int xx6_11, .int xx6_12, .int xx6_13]))]) (w1 := []) hP hD [] [0] rfl rfl (by decide) (by decide) hk1 hFc hP1 hD1
        clear hPc hDc hKc hP1 hK1 hD1 hFc hk1 hz1
        generalize H1 = H at hP hS ⊢
        have hP : va_P (dC, dI) vwCl [(h0, .inr (6, [.ref ax6_0, .ref ax6_1, .int xx6_2, .int xx6_3, .int xx6_4, .int xx6_5, .int xx6_6, .long xx6_7, .long xx6_8, .int xx6_9, .int xx6_10, .int xx6_11, .int xx6_12, .int xx6_13]))] H := hP
        have hD : va_D A [(h0, .inr (6, [.ref ax6_0, .ref ax6_1, .int xx6_2, .int xx6_3, .int xx6_4, .int xx6_5, .int xx6_6, .long xx6_7, .long xx6_8, .int xx6_9, .int xx6_10, .int xx6_11, .int xx6_12, .int xx6_13]))] := hD
        rcases hw with rfl | rfl
        · refine lv_if_eq (tgt := 108) hx hb dX6_fits_101 (by decide) (fun _ => ?_) (fun h => absurd (by decide) h)
          refine lv_iconst (v := 0) hx hb dX6_fits_108 (by decide) ?_
          have hP9 := hP.sub (ws' := [(h0, .inr (6, [.ref ax6_0, .ref ax6_1, .int xx6_2, .int xx6_3, .int xx6_4, .int xx6_5, .int xx6_6, .long xx6_7, .long xx6_8, .int xx6_9, .int xx6_10, .int xx6_11, .int xx6_12, .int xx6_13]))]) [0] rfl
          have hD9 := hD.sub (ws' := [(h0, .inr (6, [.ref ax6_0, .ref ax6_1, .int xx6_2, .int xx6_3, .int xx6_4, .int xx6_5, .int xx6_6, .long xx6_7, .long xx6_8, .int xx6_9, .int xx6_10, .int xx6_11, .int xx6_12, .int xx6_13]))]) [0] (by decide) rfl
          have hK9 := hK.sub (tys' := []) [] rfl
          refine W.widen (k := 0) (n := 0) (Nat.le_of_ble_eq_true rfl) (Nat.le_of_ble_eq_true rfl) ?_
          exact W.zret (v := 0) hx hb hr rfl (fun t ht hW => ⟨⟨0, (), rfl, Or.inl (rfl), by rw [ht]; exact hP9, va_K.moved hW.alike hK9, hD9⟩, hS.F ht⟩) hS.2.2 dX6_fits_109
        · refine lv_if_eq (tgt := 108) hx hb dX6_fits_101 (by decide) (fun h => absurd h (by decide)) (fun _ => ?_)
          refine lv_iconst (v := 1) hx hb dX6_fits_104 (by decide) ?_
          refine lv_goto (tgt := 109) hx hb dX6_fits_105 (by decide) ?_
          have hP9 := hP.sub (ws' := [(h0, .inr (6, [.ref ax6_0, .ref ax6_1, .int xx6_2, .int xx6_3, .int xx6_4, .int xx6_5, .int xx6_6, .long xx6_7, .long xx6_8, .int xx6_9, .int xx6_10, .int xx6_11, .int xx6_12, .int xx6_13]))]) [0] rfl
          have hD9 := hD.sub (ws' := [(h0, .inr (6, [.ref ax6_0, .ref ax6_1, .int xx6_2, .int xx6_3, .int xx6_4, .int xx6_5, .int xx6_6, .long xx6_7, .long xx6_8, .int xx6_9, .int xx6_10, .int xx6_11, .int xx6_12, .int xx6_13]))]) [0] (by decide) rfl
          have hK9 := hK.sub (tys' := []) [] rfl
          refine W.widen (k := 0) (n := 0) (Nat.le_of_ble_eq_true rfl) (Nat.le_of_ble_eq_true rfl) ?_
          exact W.zret (v := 1) hx hb hr rfl (fun t ht hW => ⟨⟨1, (), rfl, Or.inr (rfl), by rw [ht]; exact hP9, va_K.moved hW.alike hK9, hD9⟩, hS.F ht⟩) hS.2.2 dX6_fits_109
  · refine lv_tableIn (off := 109) (tgt := 110) hx hb dX6_fits_1 (by rw [s_4]; decide) (by rw [s_4]; decide) (by rw [s_4]; rfl) (by decide) ?_
    refine lv_aload_n hx hb dX6_fits_110 rfl (lv_at hl 0 rfl) ?_
    refine va_get (D := (dC, dI)) (ci := 6) (v := .int xx6_4) (C := RX6) (T := TX6) (N := 14) hx hb hts inlX6 hown hK hP 0 rfl rfl 4 (by decide) (hts (.fieldLink RX6 22 "ShapeReader$Tokens" "kind" "I") mw_16_2) (fun _ h9 => h9) rfl dX6_fits_111 ?_
    refine lv_iconst (v := 4) hx hb dX6_fits_114 (by decide) ?_
    refine lv_icmp_ne (tgt := 129) hx hb dX6_fits_115 (by decide) (fun c_28 => ?_) (fun c_28 => ?_)
    · refine lv_iconst (v := 0) hx hb dX6_fits_129 (by decide) ?_
      have hP9 := hP.sub (ws' := [(h0, .inr (6, [.ref ax6_0, .ref ax6_1, .int xx6_2, .int xx6_3, .int xx6_4, .int xx6_5, .int xx6_6, .long xx6_7, .long xx6_8, .int xx6_9, .int xx6_10, .int xx6_11, .int xx6_12, .int xx6_13]))]) [0] rfl
      have hD9 := hD.sub (ws' := [(h0, .inr (6, [.ref ax6_0, .ref ax6_1, .int xx6_2, .int xx6_3, .int xx6_4, .int xx6_5, .int xx6_6, .long xx6_7, .long xx6_8, .int xx6_9, .int xx6_10, .int xx6_11, .int xx6_12, .int xx6_13]))]) [0] (by decide) rfl
      have hK9 := hK.sub (tys' := []) [] rfl
      refine W.widen (k := 0) (n := 0) (Nat.le_of_ble_eq_true rfl) (Nat.le_of_ble_eq_true rfl) ?_
      exact W.zret (v := 0) hx hb hr rfl (fun t ht hW => ⟨⟨0, (), rfl, Or.inl (rfl), by rw [ht]; exact hP9, va_K.moved hW.alike hK9, hD9⟩, hS.F ht⟩) hS.2.2 dX6_fits_130
    · refine lv_aload_n hx hb dX6_fits_118 rfl (lv_at hl 0 rfl) ?_
      refine va_get (D := (dC, dI)) (ci := 6) (v := .int xx6_10) (C := RX6) (T := TX6) (N := 14) hx hb hts inlX6 hown hK hP 0 rfl rfl 10 (by decide) (hts (.fieldLink RX6 42 "ShapeReader$Tokens" "dotted" "Z") mw_16_8) (fun _ h9 => h9) rfl dX6_fits_119 ?_
      refine lv_if_ne (tgt := 129) hx hb dX6_fits_122 (by decide) (fun c_29 => ?_) (fun c_29 => ?_)
      · refine lv_iconst (v := 0) hx hb dX6_fits_129 (by decide) ?_
        have hP9 := hP.sub (ws' := [(h0, .inr (6, [.ref ax6_0, .ref ax6_1, .int xx6_2, .int xx6_3, .int xx6_4, .int xx6_5, .int xx6_6, .long xx6_7, .long xx6_8, .int xx6_9, .int xx6_10, .int xx6_11, .int xx6_12, .int xx6_13]))]) [0] rfl
        have hD9 := hD.sub (ws' := [(h0, .inr (6, [.ref ax6_0, .ref ax6_1, .int xx6_2, .int xx6_3, .int xx6_4, .int xx6_5, .int xx6_6, .long xx6_7, .long xx6_8, .int xx6_9, .int xx6_10, .int xx6_11, .int xx6_12, .int xx6_13]))]) [0] (by decide) rfl
        have hK9 := hK.sub (tys' := []) [] rfl
        refine W.widen (k := 0) (n := 0) (Nat.le_of_ble_eq_true rfl) (Nat.le_of_ble_eq_true rfl) ?_
        exact W.zret (v := 0) hx hb hr rfl (fun t ht hW => ⟨⟨0, (), rfl, Or.inl (rfl), by rw [ht]; exact hP9, va_K.moved hW.alike hK9, hD9⟩, hS.F ht⟩) hS.2.2 dX6_fits_130
      · refine lv_iconst (v := 1) hx hb dX6_fits_125 (by decide) ?_
        refine lv_goto (tgt := 130) hx hb dX6_fits_126 (by decide) ?_
        have hP9 := hP.sub (ws' := [(h0, .inr (6, [.ref ax6_0, .ref ax6_1, .int xx6_2, .int xx6_3, .int xx6_4, .int xx6_5, .int xx6_6, .long xx6_7, .long xx6_8, .int xx6_9, .int xx6_10, .int xx6_11, .int xx6_12, .int xx6_13]))]) [0] rfl
        have hD9 := hD.sub (ws' := [(h0, .inr (6, [.ref ax6_0, .ref ax6_1, .int xx6_2, .int xx6_3, .int xx6_4, .int xx6_5, .int xx6_6, .long xx6_7, .long xx6_8, .int xx6_9, .int xx6_10, .int xx6_11, .int xx6_12, .int xx6_13]))]) [0] (by decide) rfl
        have hK9 := hK.sub (tys' := []) [] rfl
        refine W.widen (k := 0) (n := 0) (Nat.le_of_ble_eq_true rfl) (Nat.le_of_ble_eq_true rfl) ?_
        exact W.zret (v := 1) hx hb hr rfl (fun t ht hW => ⟨⟨1, (), rfl, Or.inr (rfl), by rw [ht]; exact hP9, va_K.moved hW.alike hK9, hD9⟩, hS.F ht⟩) hS.2.2 dX6_fits_130
  · refine lv_tableIn (off := 130) (tgt := 131) hx hb dX6_fits_1 (by rw [s_5]; decide) (by rw [s_5]; decide) (by rw [s_5]; rfl) (by decide) ?_
    refine lv_aload_n hx hb dX6_fits_131 rfl (lv_at hl 0 rfl) ?_
    refine va_get (D := (dC, dI)) (ci := 6) (v := .int xx6_4) (C := RX6) (T := TX6) (N := 14) hx hb hts inlX6 hown hK hP 0 rfl rfl 4 (by decide) (hts (.fieldLink RX6 22 "ShapeReader$Tokens" "kind" "I") mw_16_2) (fun _ h9 => h9) rfl dX6_fits_132 ?_
    refine lv_iconst (v := 4) hx hb dX6_fits_135 (by decide) ?_
    refine lv_icmp_ne (tgt := 143) hx hb dX6_fits_136 (by decide) (fun c_30 => ?_) (fun c_30 => ?_)
    · refine lv_iconst (v := 0) hx hb dX6_fits_143 (by decide) ?_
      have hP9 := hP.sub (ws' := [(h0, .inr (6, [.ref ax6_0, .ref ax6_1, .int xx6_2, .int xx6_3, .int xx6_4, .int xx6_5, .int xx6_6, .long xx6_7, .long xx6_8, .int xx6_9, .int xx6_10, .int xx6_11, .int xx6_12, .int xx6_13]))]) [0] rfl
      have hD9 := hD.sub (ws' := [(h0, .inr (6, [.ref ax6_0, .ref ax6_1, .int xx6_2, .int xx6_3, .int xx6_4, .int xx6_5, .int xx6_6, .long xx6_7, .long xx6_8, .int xx6_9, .int xx6_10, .int xx6_11, .int xx6_12, .int xx6_13]))]) [0] (by decide) rfl
      have hK9 := hK.sub (tys' := []) [] rfl
      refine W.widen (k := 0) (n := 0) (Nat.le_of_ble_eq_true rfl) (Nat.le_of_ble_eq_true rfl) ?_
      exact W.zret (v := 0) hx hb hr rfl (fun t ht hW => ⟨⟨0, (), rfl, Or.inl (rfl), by rw [ht]; exact hP9, va_K.moved hW.alike hK9, hD9⟩, hS.F ht⟩) hS.2.2 dX6_fits_144
    · refine lv_iconst (v := 1) hx hb dX6_fits_139 (by decide) ?_
      refine lv_goto (tgt := 144) hx hb dX6_fits_140 (by decide) ?_
      have hP9 := hP.sub (ws' := [(h0, .inr (6, [.ref ax6_0, .ref ax6_1, .int xx6_2, .int xx6_3, .int xx6_4, .int xx6_5, .int xx6_6, .long xx6_7, .long xx6_8, .int xx6_9, .int xx6_10, .int xx6_11, .int xx6_12, .int xx6_13]))]) [0] rfl
      have hD9 := hD.sub (ws' := [(h0, .inr (6, [.ref ax6_0, .ref ax6_1, .int xx6_2, .int xx6_3, .int xx6_4, .int xx6_5, .int xx6_6, .long xx6_7, .long xx6_8, .int xx6_9, .int xx6_10, .int xx6_11, .int xx6_12, .int xx6_13]))]) [0] (by decide) rfl
      have hK9 := hK.sub (tys' := []) [] rfl
      refine W.widen (k := 0) (n := 0) (Nat.le_of_ble_eq_true rfl) (Nat.le_of_ble_eq_true rfl) ?_
      exact W.zret (v := 1) hx hb hr rfl (fun t ht hW => ⟨⟨1, (), rfl, Or.inr (rfl), by rw [ht]; exact hP9, va_K.moved hW.alike hK9, hD9⟩, hS.F ht⟩) hS.2.2 dX6_fits_144
  · refine lv_tableIn (off := 144) (tgt := 145) hx hb dX6_fits_1 (by rw [s_6]; decide) (by rw [s_6]; decide) (by rw [s_6]; rfl) (by decide) ?_
    refine lv_aload_n hx hb dX6_fits_145 rfl (lv_at hl 0 rfl) ?_
    refine va_get (D := (dC, dI)) (ci := 6) (v := .int xx6_4) (C := RX6) (T := TX6) (N := 14) hx hb hts inlX6 hown hK hP 0 rfl rfl 4 (by decide) (hts (.fieldLink RX6 22 "ShapeReader$Tokens" "kind" "I") mw_16_2) (fun _ h9 => h9) rfl dX6_fits_146 ?_
    refine lv_iconst (v := 5) hx hb dX6_fits_149 (by decide) ?_
    refine lv_icmp_ne (tgt := 157) hx hb dX6_fits_150 (by decide) (fun c_31 => ?_) (fun c_31 => ?_)
    · refine lv_iconst (v := 0) hx hb dX6_fits_157 (by decide) ?_
      have hP9 := hP.sub (ws' := [(h0, .inr (6, [.ref ax6_0, .ref ax6_1, .int xx6_2, .int xx6_3, .int xx6_4, .int xx6_5, .int xx6_6, .long xx6_7, .long xx6_8, .int xx6_9, .int xx6_10, .int xx6_11, .int xx6_12, .int xx6_13]))]) [0] rfl
      have hD9 := hD.sub (ws' := [(h0, .inr (6, [.ref ax6_0, .ref ax6_1, .int xx6_2, .int xx6_3, .int xx6_4, .int xx6_5, .int xx6_6, .long xx6_7, .long xx6_8, .int xx6_9, .int xx6_10, .int xx6_11, .int xx6_12, .int xx6_13]))]) [0] (by decide) rfl
      have hK9 := hK.sub (tys' := []) [] rfl
      refine W.widen (k := 0) (n := 0) (Nat.le_of_ble_eq_true rfl) (Nat.le_of_ble_eq_true rfl) ?_
      exact W.zret (v := 0) hx hb hr rfl (fun t ht hW => ⟨⟨0, (), rfl, Or.inl (rfl), by rw [ht]; exact hP9, va_K.moved hW.alike hK9, hD9⟩, hS.F ht⟩) hS.2.2 dX6_fits_158
    · refine lv_iconst (v := 1) hx hb dX6_fits_153 (by decide) ?_
      refine lv_goto (tgt := 158) hx hb dX6_fits_154 (by decide) ?_
      have hP9 := hP.sub (ws' := [(h0, .inr (6, [.ref ax6_0, .ref ax6_1, .int xx6_2, .int xx6_3, .int xx6_4, .int xx6_5, .int xx6_6, .long xx6_7, .long xx6_8, .int xx6_9, .int xx6_10, .int xx6_11, .int xx6_12, .int xx6_13]))]) [0] rfl
      have hD9 := hD.sub (ws' := [(h0, .inr (6, [.ref ax6_0, .ref ax6_1, .int xx6_2, .int xx6_3, .int xx6_4, .int xx6_5, .int xx6_6, .long xx6_7, .long xx6_8, .int xx6_9, .int xx6_10, .int xx6_11, .int xx6_12, .int xx6_13]))]) [0] (by decide) rfl
      have hK9 := hK.sub (tys' := []) [] rfl
      refine W.widen (k := 0) (n := 0) (Nat.le_of_ble_eq_true rfl) (Nat.le_of_ble_eq_true rfl) ?_
      exact W.zret (v := 1) hx hb hr rfl (fun t ht hW => ⟨⟨1, (), rfl, Or.inr (rfl), by rw [ht]; exact hP9, va_K.moved hW.alike hK9, hD9⟩, hS.F ht⟩) hS.2.2 dX6_fits_158
  · refine lv_tableIn (off := 158) (tgt := 159) hx hb dX6_fits_1 (by rw [s_7]; decide) (by rw [s_7]; decide) (by rw [s_7]; rfl) (by decide) ?_
    refine lv_aload_n hx hb dX6_fits_159 rfl (lv_at hl 0 rfl) ?_
    refine va_get (D := (dC, dI)) (ci := 6) (v := .int xx6_4) (C := RX6) (T := TX6) (N := 14) hx hb hts inlX6 hown hK hP 0 rfl rfl 4 (by decide) (hts (.fieldLink RX6 22 "ShapeReader$Tokens" "kind" "I") mw_16_2) (fun _ h9 => h9) rfl dX6_fits_160 ?_
    refine lv_bipush (v := 91) hx hb dX6_fits_163 (by decide) ?_
    refine lv_icmp_ne (tgt := 172) hx hb dX6_fits_165 (by decide) (fun c_32 => ?_) (fun c_32 => ?_)
    · refine lv_iconst (v := 0) hx hb dX6_fits_172 (by decide) ?_
      have hP9 := hP.sub (ws' := [(h0, .inr (6, [.ref ax6_0, .ref ax6_1, .int xx6_2, .int xx6_3, .int xx6_4, .int xx6_5, .int xx6_6, .long xx6_7, .long xx6_8, .int xx6_9, .int xx6_10, .int xx6_11, .int xx6_12, .int xx6_13]))]) [0] rfl
      have hD9 := hD.sub (ws' := [(h0, .inr (6, [.ref ax6_0, .ref ax6_1, .int xx6_2, .int xx6_3, .int xx6_4, .int xx6_5, .int xx6_6, .long xx6_7, .long xx6_8, .int xx6_9, .int xx6_10, .int xx6_11, .int xx6_12, .int xx6_13]))]) [0] (by decide) rfl
      have hK9 := hK.sub (tys' := []) [] rfl
      refine W.widen (k := 0) (n := 0) (Nat.le_of_ble_eq_true rfl) (Nat.le_of_ble_eq_true rfl) ?_
      exact W.zret (v := 0) hx hb hr rfl (fun t ht hW => ⟨⟨0, (), rfl, Or.inl (rfl), by rw [ht]; exact hP9, va_K.moved hW.alike hK9, hD9⟩, hS.F ht⟩) hS.2.2 dX6_fits_173
    · refine lv_iconst (v := 1) hx hb dX6_fits_168 (by decide) ?_
      refine lv_goto (tgt := 173) hx hb dX6_fits_169 (by decide) ?_
      have hP9 := hP.sub (ws' := [(h0, .inr (6, [.ref ax6_0, .ref ax6_1, .int xx6_2, .int xx6_3, .int xx6_4, .int xx6_5, .int xx6_6, .long xx6_7, .long xx6_8, .int xx6_9, .int xx6_10, .int xx6_11, .int xx6_12, .int xx6_13]))]) [0] rfl
      have hD9 := hD.sub (ws' := [(h0, .inr (6, [.ref ax6_0, .ref ax6_1, .int xx6_2, .int xx6_3, .int xx6_4, .int xx6_5, .int xx6_6, .long xx6_7, .long xx6_8, .int xx6_9, .int xx6_10, .int xx6_11, .int xx6_12, .int xx6_13]))]) [0] (by decide) rfl
      have hK9 := hK.sub (tys' := []) [] rfl
      refine W.widen (k := 0) (n := 0) (Nat.le_of_ble_eq_true rfl) (Nat.le_of_ble_eq_true rfl) ?_
      exact W.zret (v := 1) hx hb hr rfl (fun t ht hW => ⟨⟨1, (), rfl, Or.inr (rfl), by rw [ht]; exact hP9, va_K.moved hW.alike hK9, hD9⟩, hS.F ht⟩) hS.2.2 dX6_fits_173
  · refine lv_tableIn (off := 173) (tgt := 174) hx hb dX6_fits_1 (by rw [s_8]; decide) (by rw [s_8]; decide) (by rw [s_8]; rfl) (by decide) ?_
    refine lv_aload_n hx hb dX6_fits_174 rfl (lv_at hl 0 rfl) ?_
    refine va_get (D := (dC, dI)) (ci := 6) (v := .int xx6_4) (C := RX6) (T := TX6) (N := 14) hx hb hts inlX6 hown hK hP 0 rfl rfl 4 (by decide) (hts (.fieldLink RX6 22 "ShapeReader$Tokens" "kind" "I") mw_16_2) (fun _ h9 => h9) rfl dX6_fits_175 ?_
    refine lv_bipush (v := 123) hx hb dX6_fits_178 (by decide) ?_
    refine lv_icmp_ne (tgt := 187) hx hb dX6_fits_180 (by decide) (fun c_33 => ?_) (fun c_33 => ?_)
    · refine lv_iconst (v := 0) hx hb dX6_fits_187 (by decide) ?_
      have hP9 := hP.sub (ws' := [(h0, .inr (6, [.ref ax6_0, .ref ax6_1, .int xx6_2, .int xx6_3, .int xx6_4, .int xx6_5, .int xx6_6, .long xx6_7, .long xx6_8, .int xx6_9, .int xx6_10, .int xx6_11, .int xx6_12, .int xx6_13]))]) [0] rfl
      have hD9 := hD.sub (ws' := [(h0, .inr (6, [.ref ax6_0, .ref ax6_1, .int xx6_2, .int xx6_3, .int xx6_4, .int xx6_5, .int xx6_6, .long xx6_7, .long xx6_8, .int xx6_9, .int xx6_10, .int xx6_11, .int xx6_12, .int xx6_13]))]) [0] (by decide) rfl
      have hK9 := hK.sub (tys' := []) [] rfl
      refine W.widen (k := 0) (n := 0) (Nat.le_of_ble_eq_true rfl) (Nat.le_of_ble_eq_true rfl) ?_
      exact W.zret (v := 0) hx hb hr rfl (fun t ht hW => ⟨⟨0, (), rfl, Or.inl (rfl), by rw [ht]; exact hP9, va_K.moved hW.alike hK9, hD9⟩, hS.F ht⟩) hS.2.2 dX6_fits_188
    · refine lv_iconst (v := 1) hx hb dX6_fits_183 (by decide) ?_
      refine lv_goto (tgt := 188) hx hb dX6_fits_184 (by decide) ?_
      have hP9 := hP.sub (ws' := [(h0, .inr (6, [.ref ax6_0, .ref ax6_1, .int xx6_2, .int xx6_3, .int xx6_4, .int xx6_5, .int xx6_6, .long xx6_7, .long xx6_8, .int xx6_9, .int xx6_10, .int xx6_11, .int xx6_12, .int xx6_13]))]) [0] rfl
      have hD9 := hD.sub (ws' := [(h0, .inr (6, [.ref ax6_0, .ref ax6_1, .int xx6_2, .int xx6_3, .int xx6_4, .int xx6_5, .int xx6_6, .long xx6_7, .long xx6_8, .int xx6_9, .int xx6_10, .int xx6_11, .int xx6_12, .int xx6_13]))]) [0] (by decide) rfl
      have hK9 := hK.sub (tys' := []) [] rfl
      refine W.widen (k := 0) (n := 0) (Nat.le_of_ble_eq_true rfl) (Nat.le_of_ble_eq_true rfl) ?_
      exact W.zret (v := 1) hx hb hr rfl (fun t ht hW => ⟨⟨1, (), rfl, Or.inr (rfl), by rw [ht]; exact hP9, va_K.moved hW.alike hK9, hD9⟩, hS.F ht⟩) hS.2.2 dX6_fits_188
  · refine lv_tableOut (tgt := 189) hx hb dX6_fits_1 (by have a0 := il_ne s_1; have e0 : (0 : Int32).toInt = 0 := (by decide); have a1 := il_ne s_2; have e1 : (1 : Int32).toInt = 1 := (by decide); have a2 := il_ne s_3; have e2 : (2 : Int32).toInt = 2 := (by decide); have a3 := il_ne s_4; have e3 : (3 : Int32).toInt = 3 := (by decide); have a4 := il_ne s_5; have e4 : (4 : Int32).toInt = 4 := (by decide); have a5 := il_ne s_6; have e5 : (5 : Int32).toInt = 5 := (by decide); have a6 := il_ne s_7; have e6 : (6 : Int32).toInt = 6 := (by decide); have a7 := il_ne s_8; have e7 : (7 : Int32).toInt = 7 := (by decide); omega) (by decide) ?_
    refine lv_iconst (v := 0) hx hb dX6_fits_189 (by decide) ?_
    have hP9 := hP.sub (ws' := [(h0, .inr (6, [.ref ax6_0, .ref ax6_1, .int xx6_2, .int xx6_3, .int xx6_4, .int xx6_5, .int xx6_6, .long xx6_7, .long xx6_8, .int xx6_9, .int xx6_10, .int xx6_11, .int xx6_12, .int xx6_13]))]) [0] rfl
    have hD9 := hD.sub (ws' := [(h0, .inr (6, [.ref ax6_0, .ref ax6_1, .int xx6_2, .int xx6_3, .int xx6_4, .int xx6_5, .int xx6_6, .long xx6_7, .long xx6_8, .int xx6_9, .int xx6_10, .int xx6_11, .int xx6_12, .int xx6_13]))]) [0] (by decide) rfl
    have hK9 := hK.sub (tys' := []) [] rfl
    refine W.widen (k := 0) (n := 0) (Nat.le_of_ble_eq_true rfl) (Nat.le_of_ble_eq_true rfl) ?_
    exact W.zret (v := 0) hx hb hr rfl (fun t ht hW => ⟨⟨0, (), rfl, Or.inl (rfl), by rw [ht]; exact hP9, va_K.moved hW.alike hK9, hD9⟩, hS.F ht⟩) hS.2.2 dX6_fits_190

set_option maxRecDepth 100000 in
set_option maxHeartbeats 4000000 in
theorem s_X10_record (l : Launch) (dC : Nat → ClassId) (dI : Nat → Nat → Nat) (h0 : Nat) (ax10_0 : Nat) (xx10_1 : Int32) (ox10_2 : Nat) (ox10_3 : Nat) (xx5_3_0 : Int32) (xx5_3_1 : Int32) (ax5_3_2 : Nat) (cx5_3_2 : ClassId) (fx5_3_2 : Nat → Int32) (ax5_3_3 : Nat) (ax5_3_4 : Nat) (cx5_3_4 : ClassId) (fx5_3_4 : Nat → Int32) (ax5_3_5 : Nat) (cx5_3_5 : ClassId) (fx5_3_5 : Nat → Int64) (ax5_3_6 : Nat) (ax5_3_7 : Nat) (ax5_3_8 : Nat) (ax5_3_9 : Nat) (ax5_3_10 : Nat) (ax5_3_11 : Nat) (ax5_3_12 : Nat) (ax5_3_13 : Nat) (ax5_3_14 : Nat) (ax5_3_15 : Nat) (ax5_3_16 : Nat) (ox10_4 : Nat) (ox10_5 : Nat) (ox10_6 : Nat) (ox10_7 : Nat) (ox10_8 : Nat) (ox10_9 : Nat) (ox10_10 : Nat) (ox10_11 : Nat) (ox10_12 : Nat) (ox10_13 : Nat) (ox10_14 : Nat) (ox10_15 : Nat) (p0 : Int32) (p1 : Int32) (p2 : Int32) (hi_xx5_3_0 : (0 : Int) ≤ xx5_3_0.toInt ∧ xx5_3_0.toInt ≤ (6 : Int)) (hi_xx5_3_1 : (0 : Int) ≤ xx5_3_1.toInt ∧ xx5_3_1.toInt ≤ (262 : Int)) (sz : Nat) : Met l yX10_record (.code yX10_record cX10_record 6 (some .int) :: pw) ({ frames := 2, cells := 0, slots := 0, locals := 44 }) (va_Pc [.ref h0, .int p0, .int p1, .int p2] (vPre dC dI [(h0, .inr (10, [.ref ax10_0, .int xx10_1, .ref ox10_2, .ref ox10_3, .ref ox10_4, .ref ox10_5, .ref ox10_6, .ref ox10_7, .ref ox10_8, .ref ox10_9, .ref ox10_10, .ref ox10_11, .ref ox10_12, .ref ox10_13, .ref ox10_14, .ref ox10_15])), (ox10_3, .inr (5, [.int xx5_3_0, .int xx5_3_1, .ref ax5_3_2, .ref ax5_3_3, .ref ax5_3_4, .ref ax5_3_5, .ref ax5_3_6, .ref ax5_3_7, .ref ax5_3_8, .ref ax5_3_9, .ref ax5_3_10, .ref ax5_3_11, .ref ax5_3_12, .ref ax5_3_13, .ref ax5_3_14, .ref ax5_3_15, .ref ax5_3_16])), (ax5_3_2, .inl (cx5_3_2, 6, .inl fx5_3_2)), (ax5_3_4, .inl (cx5_3_4, 36, .inl fx5_3_4)), (ax5_3_5, .inl (cx5_3_5, 36, .inr (.inl fx5_3_5)))] [(cx5_3_2, .int), (cx5_3_4, .int), (cx5_3_5, .long)] sz)) (va_Qi (fun (r : Int32) (_ : Unit) => True) (fun (_ : Unit) t => vPst dC dI (va_A [(h0, .inr (10, [.ref ax10_0, .int xx10_1, .ref ox10_2, .ref ox10_3, .ref ox10_4, .ref ox10_5, .ref ox10_6, .ref ox10_7, .ref ox10_8, .ref ox10_9, .ref ox10_10, .ref ox10_11, .ref ox10_12, .ref ox10_13, .ref ox10_14, .ref ox10_15])), (ox10_3, .inr (5, [.int xx5_3_0, .int xx5_3_1, .ref ax5_3_2, .ref ax5_3_3, .ref ax5_3_4, .ref ax5_3_5, .ref ax5_3_6, .ref ax5_3_7, .ref ax5_3_8, .ref ax5_3_9, .ref ax5_3_10, .ref ax5_3_11, .ref ax5_3_12, .ref ax5_3_13, .ref ax5_3_14, .ref ax5_3_15, .ref ax5_3_16])), (ax5_3_2, .inl (cx5_3_2, 6, .inl fx5_3_2)), (ax5_3_4, .inl (cx5_3_4, 36, .inl fx5_3_4)), (ax5_3_5, .inl (cx5_3_5, 36, .inr (.inl fx5_3_5)))] sz) [(h0, .inr (10, [.ref ax10_0, .int xx10_1, .ref ox10_2, .ref ox10_3, .ref ox10_4, .ref ox10_5, .ref ox10_6, .ref ox10_7, .ref ox10_8, .ref ox10_9, .ref ox10_10, .ref ox10_11, .ref ox10_12, .ref ox10_13, .ref ox10_14, .ref ox10_15])), (ox10_3, .inr (5, [.int xx5_3_0, .int xx5_3_1, .ref ax5_3_2, .ref ax5_3_3, .ref ax5_3_4, .ref ax5_3_5, .ref ax5_3_6, .ref ax5_3_7, .ref ax5_3_8, .ref ax5_3_9, .ref ax5_3_10, .ref ax5_3_11, .ref ax5_3_12, .ref ax5_3_13, .ref ax5_3_14, .ref ax5_3_15, .ref ax5_3_16])), (ax5_3_2, .inl (cx5_3_2, 6, .inl fx5_3_2)), (ax5_3_4, .inl (cx5_3_4, 36, .inl fx5_3_4)), (ax5_3_5, .inl (cx5_3_5, 36, .inr (.inl fx5_3_5)))] [(cx5_3_2, .int), (cx5_3_4, .int), (cx5_3_5, .long)] t) (va_A [(h0, .inr (10, [.ref ax10_0, .int xx10_1, .ref ox10_2, .ref ox10_3, .ref ox10_4, .ref ox10_5, .ref ox10_6, .ref ox10_7, .ref ox10_8, .ref ox10_9, .ref ox10_10, .ref ox10_11, .ref ox10_12, .ref ox10_13, .ref ox10_14, .ref ox10_15])), (ox10_3, .inr (5, [.int xx5_3_0, .int xx5_3_1, .ref ax5_3_2, .ref ax5_3_3, .ref ax5_3_4, .ref ax5_3_5, .ref ax5_3_6, .ref ax5_3_7, .ref ax5_3_8, .ref ax5_3_9, .ref ax5_3_10, .ref ax5_3_11, .ref ax5_3_12, .ref ax5_3_13, .ref ax5_3_14, .ref ax5_3_15, .ref ax5_3_16])), (ax5_3_2, .inl (cx5_3_2, 6, .inl fx5_3_2)), (ax5_3_4, .inl (cx5_3_4, 36, .inl fx5_3_4)), (ax5_3_5, .inl (cx5_3_5, 36, .inr (.inl fx5_3_5)))] sz)) 0 0 (va_A [(h0, .inr (10, [.ref ax10_0, .int xx10_1, .ref ox10_2, .ref ox10_3, .ref ox10_4, .ref ox10_5, .ref ox10_6, .ref ox10_7, .ref ox10_8, .ref ox10_9, .ref ox10_10, .ref ox10_11, .ref ox10_12, .ref ox10_13, .ref ox10_14, .ref ox10_15])), (ox10_3, .inr (5, [.int xx5_3_0, .int xx5_3_1, .ref ax5_3_2, .ref ax5_3_3, .ref ax5_3_4, .ref ax5_3_5, .ref ax5_3_6, .ref ax5_3_7, .ref ax5_3_8, .ref ax5_3_9, .ref ax5_3_10, .ref ax5_3_11, .ref ax5_3_12, .ref ax5_3_13, .ref ax5_3_14, .ref ax5_3_15, .ref ax5_3_16])), (ax5_3_2, .inl (cx5_3_2, 6, .inl fx5_3_2)), (ax5_3_4, .inl (cx5_3_4, 36, .inl fx5_3_4)), (ax5_3_5, .inl (cx5_3_5, 36, .inr (.inl fx5_3_5)))] sz) := by
  refine Met.ofW (cc := cX10_record) (maxL := 6) (ret := (some .int)) (by decide) rfl ?_
  intro p e s m args below meth c s₁ B hml hv
  obtain ⟨rfl, hsz, hP, hK, hD0, hN⟩ := hv
  have hx := B.exec
  have hb := B.bytes
  have hr := B.returns
  have hts := atoms_spec (ws := .code yX10_record cX10_record 6 (some .int) :: pw) B.pre
  have hts : ∀ w ∈ pw, w.before _ s = true := fun w h => hts w (List.mem_cons_of_mem _ h)
  have hown : s.vm.findClass RX10 = some m.cls := findClass_of_methodNamed B.named
  have hlocks := B.notSynchronized
  subst hsz
  have hD := hD0.self (sz := s.heap.size)
  generalize hAe : va_A [(h0, .inr (10, [.ref ax10_0, .int xx10_1, .ref ox10_2, .ref ox10_3, .ref ox10_4, .ref ox10_5, .ref ox10_6, .ref ox10_7, .ref ox10_8, .ref ox10_9, .ref ox10_10, .ref ox10_11, .ref ox10_12, .ref ox10_13, .ref ox10_14, .ref ox10_15])), (ox10_3, .inr (5, [.int xx5_3_0, .int xx5_3_1, .ref ax5_3_2, .ref ax5_3_3, .ref ax5_3_4, .ref ax5_3_5, .ref ax5_3_6, .ref ax5_3_7, .ref ax5_3_8, .ref ax5_3_9, .ref ax5_3_10, .ref ax5_3_11, .ref ax5_3_12, .ref ax5_3_13, .ref ax5_3_14, .ref ax5_3_15, .ref ax5_3_16])), (ax5_3_2, .inl (cx5_3_2, 6, .inl fx5_3_2)), (ax5_3_4, .inl (cx5_3_4, 36, .inl fx5_3_4)), (ax5_3_5, .inl (cx5_3_5, 36, .inr (.inl fx5_3_5)))] s.heap.size = A at hD ⊢
  have hA : ∀ q : Nat, s.heap.size ≤ q → A q := fun q h => by rw [← hAe]; exact Or.inr h
  have hS : va_S A s.heap s.heap [] := va_S.rf
  have hP : va_P (dC, dI) vwCl [(h0, .inr (10, [.ref ax10_0, .int xx10_1, .ref ox10_2, .ref ox10_3, .ref ox10_4, .ref ox10_5, .ref ox10_6, .ref ox10_7, .ref ox10_8, .ref ox10_9, .ref ox10_10, .ref ox10_11, .ref ox10_12, .ref ox10_13, .ref ox10_14, .ref ox10_15])), (ox10_3, .inr (5, [.int xx5_3_0, .int xx5_3_1, .ref ax5_3_2, .ref ax5_3_3, .ref ax5_3_4, .ref ax5_3_5, .ref ax5_3_6, .ref ax5_3_7, .ref ax5_3_8, .ref ax5_3_9, .ref ax5_3_10, .ref ax5_3_11, .ref ax5_3_12, .ref ax5_3_13, .ref ax5_3_14, .ref ax5_3_15, .ref ax5_3_16])), (ax5_3_2, .inl (cx5_3_2, 6, .inl fx5_3_2)), (ax5_3_4, .inl (cx5_3_4, 36, .inl fx5_3_4)), (ax5_3_5, .inl (cx5_3_5, 36, .inr (.inl fx5_3_5)))] s.heap := hP
  have hl := lv_entry ([.ref h0, .int p0, .int p1, .int p2]) (n := 6) (Nat.le_of_ble_eq_true rfl)
  rw [lg_entry_eq]
  generalize (lg_sl ([.ref h0, .int p0, .int p1, .int p2]) ++ List.replicate (6 - (lg_sl ([.ref h0, .int p0, .int p1, .int p2])).length) Slot.unset).toArray = ls at hl ⊢
  have hl : lv_has ls 6 [(0, .ref h0), (1, .int p0), (2, .int p1), (3, .int p2)] := hl
  refine lv_aload_n hx hb dX10_record_0 rfl (lv_at hl 0 rfl) ?_
  refine lv_iload_n hx hb dX10_record_1 rfl (lv_at hl 1 rfl) ?_
  have hPc := hP.sub (ws' := [(h0, .inr (10, [.ref ax10_0, .int xx10_1, .ref ox10_2, .ref ox10_3, .ref ox10_4, .ref ox10_5, .ref ox10_6, .ref ox10_7, .ref ox10_8, .ref ox10_9, .ref ox10_10, .ref ox10_11, .ref ox10_12, .ref ox10_13, .ref ox10_14, .ref ox10_15])), (ox10_3, .inr (5, [.int xx5_3_0, .int xx5_3_1, .ref ax5_3_2, .ref ax5_3_3, .ref ax5_3_4, .ref ax5_3_5, .ref ax5_3_6, .ref ax5_3_7, .ref ax5_3_8, .ref ax5_3_9, .ref ax5_3_10, .ref ax5_3_11, .ref ax5_3_12, .ref ax5_3_13, .ref ax5_3_14, .ref ax5_3_15, .ref ax5_3_16]))]) [0, 1] rfl
  have hDc := hD.sub (ws' := [(h0, .inr (10, [.ref ax10_0, .int xx10_1, .ref ox10_2, .ref ox10_3, .ref ox10_4, .ref ox10_5, .ref ox10_6, .ref ox10_7, .ref ox10_8, .ref ox10_9, .ref ox10_10, .ref ox10_11, .ref ox10_12, .ref ox10_13, .ref ox10_14, .ref ox10_15])), (ox10_3, .inr (5, [.int xx5_3_0, .int xx5_3_1, .ref ax5_3_2, .ref ax5_3_3, .ref ax5_3_4, .ref ax5_3_5, .ref ax5_3_6, .ref ax5_3_7, .ref ax5_3_8, .ref ax5_3_9, .ref ax5_3_10, .ref ax5_3_11, .ref ax5_3_12, .ref ax5_3_13, .ref ax5_3_14, .ref ax5_3_15, .ref ax5_3_16]))]) [0, 1] (by decide) rfl
  have hKc := hK.sub (tys' := []) [] rfl
  have hFc := va_free (wc := [(h0, .inr (10, [.ref ax10_0, .int xx10_1, .ref ox10_2, .ref ox10_3, .ref ox10_4, .ref ox10_5, .ref ox10_6, .ref ox10_7, .ref ox10_8, .ref ox10_9, .ref ox10_10, .ref ox10_11, .ref ox10_12, .ref ox10_13, .ref ox10_14, .ref ox10_15])), (ox10_3, .inr (5, [.int xx5_3_0, .int xx5_3_1, .ref ax5_3_2, .ref ax5_3_3, .ref ax5_3_4, .ref ax5_3_5, .ref ax5_3_6, .ref ax5_3_7, .ref ax5_3_8, .ref ax5_3_9, .ref ax5_3_10, .ref ax5_3_11, .ref ax5_3_12, .ref ax5_3_13, .ref ax5_3_14, .ref ax5_3_15, .ref ax5_3_16]))]) hD hS hA [0, 1] rfl
  refine va_calli (va_runV (As := [.int p0]) (rest := []) ⟨hx, hb, hml, hown, hts⟩ (s_X10_isPlan l dC dI h0 ax10_0 xx10_1 ox10_2 ox10_3 xx5_3_0 xx5_3_1 ax5_3_2 ax5_3_3 ax5_3_4 ax5_3_5 ax5_3_6 ax5_3_7 ax5_3_8 ax5_3_9 ax5_3_10 ax5_3_11 ax5_3_12 ax5_3_13 ax5_3_14 ax5_3_15 ax5_3_16 ox10_4 ox10_5 ox10_6 ox10_7 ox10_8 ox10_9 ox10_10 ox10_11 ox10_12 ox10_13 ox10_14 ox10_15 p0 (by have a0 := hi_xx5_3_0.1; have a1 := hi_xx5_3_0.2; omega) (by have a0 := hi_xx5_3_1.1; have a1 := hi_xx5_3_1.2; omega) s.heap.size) (cwV 1 hts (gV mw_23_4 mw_23_5 mw_23_6 mw_0_14 mw_51_27) rfl rfl rfl (by decide +kernel) ⟨(Nat.le_of_ble_eq_true rfl), (Nat.le_of_ble_eq_true rfl)⟩) (vV (ci := 10) (q0 := 0) hKc hPc hDc hN rfl rfl) rfl rfl hl.1 rfl (lv_room (Nat.le_of_ble_eq_true rfl)) dX10_record_2 ⟨(Nat.le_of_ble_eq_true rfl), (Nat.le_of_ble_eq_true rfl)⟩) hS (fun q _ h => hFc q h) hFc (fun r_1 u t H1 locs ht hvm hw hB hz1 hk1 hS => ?_)
  obtain ⟨hP1, hK1, hD1⟩ := hB
  rw [ht] at hP1
  have hK1 := va_K.moved hvm.symm hK1
  obtain ⟨hP, hD⟩ := va_join (wr := [(ax5_3_2, .inl (cx5_3_2, 6, .inl fx5_3_2)), (ax5_3_4, .inl (cx5_3_4, 36, .inl fx5_3_4)), (ax5_3_5, .inl (cx5_3_5, 36, .inr (.inl fx5_3_5)))]) (w1 := [(h0, .inr (10, [.ref ax10_0, .int xx10_1, .ref ox10_2, .ref ox10_3, .ref ox10_4, .ref ox10_5, .ref ox10_6, .ref ox10_7, .ref ox10_8, .ref ox10_9, .ref ox10_10, .ref ox10_11, .ref ox10_12, .ref ox10_13, .ref ox10_14, .ref ox10_15])), (ox10_3, .inr (5, [.int xx5_3_0, .int xx5_3_1, .ref ax5_3_2, .ref ax5_3_3, .ref ax5_3_4, .ref ax5_3_5, .ref ax5_3_6, .ref ax5_3_7, .ref ax5_3_8, .ref ax5_3_9, .ref ax5_3_10, .ref ax5_3_11, .ref ax5_3_12, .ref ax5_3_13, .ref ax5_3_14, .ref ax5_3_15, .ref ax5_3_16]))]) hP hD [0, 1] [2, 3, 4] rfl rfl (by decide) (by decide) hk1 hFc hP1 hD1
  clear hPc hDc hKc hP1 hK1 hD1 hFc hk1 hz1
  generalize H1 = H at hP hS ⊢
  have hP : va_P (dC, dI) vwCl [(ax5_3_2, .inl (cx5_3_2, 6, .inl fx5_3_2)), (ax5_3_4, .inl (cx5_3_4, 36, .inl fx5_3_4)), (ax5_3_5, .inl (cx5_3_5, 36, .inr (.inl fx5_3_5))), (h0, .inr (10, [.ref ax10_0, .int xx10_1, .ref ox10_2, .ref ox10_3, .ref ox10_4, .ref ox10_5, .ref ox10_6, .ref ox10_7, .ref ox10_8, .ref ox10_9, .ref ox10_10, .ref ox10_11, .ref ox10_12, .ref ox10_13, .ref ox10_14, .ref ox10_15])), (ox10_3, .inr (5, [.int xx5_3_0, .int xx5_3_1, .ref ax5_3_2, .ref ax5_3_3, .ref ax5_3_4, .ref ax5_3_5, .ref ax5_3_6, .ref ax5_3_7, .ref ax5_3_8, .ref ax5_3_9, .ref ax5_3_10, .ref ax5_3_11, .ref ax5_3_12, .ref ax5_3_13, .ref ax5_3_14, .ref ax5_3_15, .ref ax5_3_16]))] H := hP
  have hD : va_D A [(ax5_3_2, .inl (cx5_3_2, 6, .inl fx5_3_2)), (ax5_3_4, .inl (cx5_3_4, 36, .inl fx5_3_4)), (ax5_3_5, .inl (cx5_3_5, 36, .inr (.inl fx5_3_5))), (h0, .inr (10, [.ref ax10_0, .int xx10_1, .ref ox10_2, .ref ox10_3, .ref ox10_4, .ref ox10_5, .ref ox10_6, .ref ox10_7, .ref ox10_8, .ref ox10_9, .ref ox10_10, .ref ox10_11, .ref ox10_12, .ref ox10_13, .ref ox10_14, .ref ox10_15])), (ox10_3, .inr (5, [.int xx5_3_0, .int xx5_3_1, .ref ax5_3_2, .ref ax5_3_3, .ref ax5_3_4, .ref ax5_3_5, .ref ax5_3_6, .ref ax5_3_7, .ref ax5_3_8, .ref ax5_3_9, .ref ax5_3_10, .ref ax5_3_11, .ref ax5_3_12, .ref ax5_3_13, .ref ax5_3_14, .ref ax5_3_15, .ref ax5_3_16]))] := hD
  rcases hw with rfl | ⟨rfl, g_2, g_3⟩
  · refine lv_if_ne (tgt := 10) hx hb dX10_record_5 (by decide) (fun h => absurd rfl h) (fun _ => ?_)
    refine lv_iconst (v := (-1)) hx hb dX10_record_8 (by decide) ?_
    have hP9 := hP.sub (ws' := [(h0, .inr (10, [.ref ax10_0, .int xx10_1, .ref ox10_2, .ref ox10_3, .ref ox10_4, .ref ox10_5, .ref ox10_6, .ref ox10_7, .ref ox10_8, .ref ox10_9, .ref ox10_10, .ref ox10_11, .ref ox10_12, .ref ox10_13, .ref ox10_14, .ref ox10_15])), (ox10_3, .inr (5, [.int xx5_3_0, .int xx5_3_1, .ref ax5_3_2, .ref ax5_3_3, .ref ax5_3_4, .ref ax5_3_5, .ref ax5_3_6, .ref ax5_3_7, .ref ax5_3_8, .ref ax5_3_9, .ref ax5_3_10, .ref ax5_3_11, .ref ax5_3_12, .ref ax5_3_13, .ref ax5_3_14, .ref ax5_3_15, .ref ax5_3_16])), (ax5_3_2, .inl (cx5_3_2, 6, .inl fx5_3_2)), (ax5_3_4, .inl (cx5_3_4, 36, .inl fx5_3_4)), (ax5_3_5, .inl (cx5_3_5, 36, .inr (.inl fx5_3_5)))]) [3, 4, 0, 1, 2] rfl
    have hD9 := hD.sub (ws' := [(h0, .inr (10, [.ref ax10_0, .int xx10_1, .ref ox10_2, .ref ox10_3, .ref ox10_4, .ref ox10_5, .ref ox10_6, .ref ox10_7, .ref ox10_8, .ref ox10_9, .ref ox10_10, .ref ox10_11, .ref ox10_12, .ref ox10_13, .ref ox10_14, .ref ox10_15])), (ox10_3, .inr (5, [.int xx5_3_0, .int xx5_3_1, .ref ax5_3_2, .ref ax5_3_3, .ref ax5_3_4, .ref ax5_3_5, .ref ax5_3_6, .ref ax5_3_7, .ref ax5_3_8, .ref ax5_3_9, .ref ax5_3_10, .ref ax5_3_11, .ref ax5_3_12, .ref ax5_3_13, .ref ax5_3_14, .ref ax5_3_15, .ref ax5_3_16])), (ax5_3_2, .inl (cx5_3_2, 6, .inl fx5_3_2)), (ax5_3_4, .inl (cx5_3_4, 36, .inl fx5_3_4)), (ax5_3_5, .inl (cx5_3_5, 36, .inr (.inl fx5_3_5)))]) [3, 4, 0, 1, 2] (by decide) rfl
    have hK9 := hK.sub (tys' := [(cx5_3_2, .int), (cx5_3_4, .int), (cx5_3_5, .long)]) [0, 1, 2] rfl
    refine W.widen (k := 0) (n := 0) (Nat.le_of_ble_eq_true rfl) (Nat.le_of_ble_eq_true rfl) ?_
    exact W.iret (v := (-1)) hx hb hr (fun t ht hW => ⟨⟨(-1), (), rfl, trivial, by rw [ht]; exact hP9, va_K.moved hW.alike hK9, hD9⟩, hS.F ht⟩) hS.2.2 dX10_record_9
  · refine lv_if_ne (tgt := 10) hx hb dX10_record_5 (by decide) (fun _ => ?_) (fun h => absurd h (by decide))
    refine lv_aload_n hx hb dX10_record_10 rfl (lv_at hl 0 rfl) ?_
    refine va_get (D := (dC, dI)) (ci := 10) (v := .ref ox10_3) (C := RX10) (T := TX10) (N := 16) hx hb hts inlX10 hown hK hP 3 rfl rfl 3 (by decide) (hts (.fieldLink RX10 29 "ShapeReader" "shapes" "LShapeReader$Shapes;") mw_20_20) (fun _ h9 => h9) rfl dX10_record_11 ?_
    refine lv_iload_n hx hb dX10_record_14 rfl (lv_at hl 1 rfl) ?_
    have hPc := hP.sub (ws' := [(ox10_3, .inr (5, [.int xx5_3_0, .int xx5_3_1, .ref ax5_3_2, .ref ax5_3_3, .ref ax5_3_4, .ref ax5_3_5, .ref ax5_3_6, .ref ax5_3_7, .ref ax5_3_8, .ref ax5_3_9, .ref ax5_3_10, .ref ax5_3_11, .ref ax5_3_12, .ref ax5_3_13, .ref ax5_3_14, .ref ax5_3_15, .ref ax5_3_16])), (ax5_3_2, .inl (cx5_3_2, 6, .inl fx5_3_2))]) [4, 0] rfl
    have hDc := hD.sub (ws' := [(ox10_3, .inr (5, [.int xx5_3_0, .int xx5_3_1, .ref ax5_3_2, .ref ax5_3_3, .ref ax5_3_4, .ref ax5_3_5, .ref ax5_3_6, .ref ax5_3_7, .ref ax5_3_8, .ref ax5_3_9, .ref ax5_3_10, .ref ax5_3_11, .ref ax5_3_12, .ref ax5_3_13, .ref ax5_3_14, .ref ax5_3_15, .ref ax5_3_16])), (ax5_3_2, .inl (cx5_3_2, 6, .inl fx5_3_2))]) [4, 0] (by decide) rfl
    have hKc := hK.sub (tys' := [(cx5_3_2, .int)]) [0] rfl
    have hFc := va_free (wc := [(ox10_3, .inr (5, [.int xx5_3_0, .int xx5_3_1, .ref ax5_3_2, .ref ax5_3_3, .ref ax5_3_4, .ref ax5_3_5, .ref ax5_3_6, .ref ax5_3_7, .ref ax5_3_8, .ref ax5_3_9, .ref ax5_3_10, .ref ax5_3_11, .ref ax5_3_12, .ref ax5_3_13, .ref ax5_3_14, .ref ax5_3_15, .ref ax5_3_16])), (ax5_3_2, .inl (cx5_3_2, 6, .inl fx5_3_2))]) hD hS hA [4, 0] rfl
    refine va_calli (va_runV (As := [.int p0]) (rest := []) ⟨hx, hb, hml, hown, hts⟩ (s_X5_recordsOf l dC dI ox10_3 xx5_3_0 xx5_3_1 ax5_3_2 cx5_3_2 fx5_3_2 ax5_3_3 ax5_3_4 ax5_3_5 ax5_3_6 ax5_3_7 ax5_3_8 ax5_3_9 ax5_3_10 ax5_3_11 ax5_3_12 ax5_3_13 ax5_3_14 ax5_3_15 ax5_3_16 p0 (by have a0 := hi_xx5_3_0.1; have a1 := hi_xx5_3_0.2; omega) (by have a0 := hi_xx5_3_1.1; have a1 := hi_xx5_3_1.2; omega) H.size) (cwV 1 hts (gV mw_23_19 mw_1_13 mw_1_14 mw_0_9 mw_48_27) rfl rfl rfl (by decide +kernel) ⟨(Nat.le_of_ble_eq_true rfl), (Nat.le_of_ble_eq_true rfl)⟩) (vV (ci := 5) (q0 := 0) hKc hPc hDc hN rfl rfl) rfl rfl hl.1 rfl (lv_room (Nat.le_of_ble_eq_true rfl)) dX10_record_15 ⟨(Nat.le_of_ble_eq_true rfl), (Nat.le_of_ble_eq_true rfl)⟩) hS (fun q _ h => hFc q h) hFc (fun r_6 u t H1 locs ht hvm hw hB hz1 hk1 hS => ?_)
    obtain ⟨hP1, hK1, hD1⟩ := hB
    rw [ht] at hP1
    have hK1 := va_K.moved hvm.symm hK1
    obtain ⟨hP, hD⟩ := va_join (wr := [(ax5_3_4, .inl (cx5_3_4, 36, .inl fx5_3_4)), (ax5_3_5, .inl (cx5_3_5, 36, .inr (.inl fx5_3_5))), (h0, .inr (10, [.ref ax10_0, .int xx10_1, .ref ox10_2, .ref ox10_3, .ref ox10_4, .ref ox10_5, .ref ox10_6, .ref ox10_7, .ref ox10_8, .ref ox10_9, .ref ox10_10, .ref ox10_11, .ref ox10_12, .ref ox10_13, .ref ox10_14, .ref ox10_15]))]) (w1 := [(ox10_3, .inr (5, [.int xx5_3_0, .int xx5_3_1, .ref ax5_3_2, .ref ax5_3_3, .ref ax5_3_4, .ref ax5_3_5, .ref ax5_3_6, .ref ax5_3_7, .ref ax5_3_8, .ref ax5_3_9, .ref ax5_3_10, .ref ax5_3_11, .ref ax5_3_12, .ref ax5_3_13, .ref ax5_3_14, .ref ax5_3_15, .ref ax5_3_16])), (ax5_3_2, .inl (cx5_3_2, 6, .inl fx5_3_2))]) hP hD [4, 0] [1, 2, 3] rfl rfl (by decide) (by decide) hk1 hFc hP1 hD1
    clear hPc hDc hKc hP1 hK1 hD1 hFc hk1 hz1
    generalize H1 = H at hP hS ⊢
    have hP : va_P (dC, dI) vwCl [(ax5_3_4, .inl (cx5_3_4, 36, .inl fx5_3_4)), (ax5_3_5, .inl (cx5_3_5, 36, .inr (.inl fx5_3_5))), (h0, .inr (10, [.ref ax10_0, .int xx10_1, .ref ox10_2, .ref ox10_3, .ref ox10_4, .ref ox10_5, .ref ox10_6, .ref ox10_7, .ref ox10_8, .ref ox10_9, .ref ox10_10, .ref ox10_11, .ref ox10_12, .ref ox10_13, .ref ox10_14, .ref ox10_15])), (ox10_3, .inr (5, [.int xx5_3_0, .int xx5_3_1, .ref ax5_3_2, .ref ax5_3_3, .ref ax5_3_4, .ref ax5_3_5, .ref ax5_3_6, .ref ax5_3_7, .ref ax5_3_8, .ref ax5_3_9, .ref ax5_3_10, .ref ax5_3_11, .ref ax5_3_12, .ref ax5_3_13, .ref ax5_3_14, .ref ax5_3_15, .ref ax5_3_16])), (ax5_3_2, .inl (cx5_3_2, 6, .inl fx5_3_2))] H := hP
    have hD : va_D A [(ax5_3_4, .inl (cx5_3_4, 36, .inl fx5_3_4)), (ax5_3_5, .inl (cx5_3_5, 36, .inr (.inl fx5_3_5))), (h0, .inr (10, [.ref ax10_0, .int xx10_1, .ref ox10_2, .ref ox10_3, .ref ox10_4, .ref ox10_5, .ref ox10_6, .ref ox10_7, .ref ox10_8, .ref ox10_9, .ref ox10_10, .ref ox10_11, .ref ox10_12, .ref ox10_13, .ref ox10_14, .ref ox10_15])), (ox10_3, .inr (5, [.int xx5_3_0, .int xx5_3_1, .ref ax5_3_2, .ref ax5_3_3, .ref ax5_3_4, .ref ax5_3_5, .ref ax5_3_6, .ref ax5_3_7, .ref ax5_3_8, .ref ax5_3_9, .ref ax5_3_10, .ref ax5_3_11, .ref ax5_3_12, .ref ax5_3_13, .ref ax5_3_14, .ref ax5_3_15, .ref ax5_3_16])), (ax5_3_2, .inl (cx5_3_2, 6, .inl fx5_3_2))] := hD
    rcases hw with ⟨q_9, g_7, g_8⟩ | rfl
    · refine lv_istore (lv' := [(4, .int r_6), (0, .ref h0), (1, .int p0), (2, .int p1), (3, .int p2)]) hx hb dX10_record_18 hl (by decide) rfl (fun ls hl => ?_)
      refine lv_iload_n hx hb dX10_record_20 rfl (lv_at hl 3 rfl) ?_
      refine lv_iconst (v := (-1)) hx hb dX10_record_21 (by decide) ?_
      refine lv_icmp_ne (tgt := 28) hx hb dX10_record_22 (by decide) (fun c_10 => ?_) (fun c_10 => ?_)
      · refine lv_iload_n hx hb dX10_record_28 rfl (lv_at hl 3 rfl) ?_
        refine lv_if_lt (tgt := 38) hx hb dX10_record_29 (by decide) (fun c_11 => ?_) (fun c_11 => ?_)
        · refine lv_iconst (v := (-1)) hx hb dX10_record_38 (by decide) ?_
          have hP9 := hP.sub (ws' := [(h0, .inr (10, [.ref ax10_0, .int xx10_1, .ref ox10_2, .ref ox10_3, .ref ox10_4, .ref ox10_5, .ref ox10_6, .ref ox10_7, .ref ox10_8, .ref ox10_9, .ref ox10_10, .ref ox10_11, .ref ox10_12, .ref ox10_13, .ref ox10_14, .ref ox10_15])), (ox10_3, .inr (5, [.int xx5_3_0, .int xx5_3_1, .ref ax5_3_2, .ref ax5_3_3, .ref ax5_3_4, .ref ax5_3_5, .ref ax5_3_6, .ref ax5_3_7, .ref ax5_3_8, .ref ax5_3_9, .ref ax5_3_10, .ref ax5_3_11, .ref ax5_3_12, .ref ax5_3_13, .ref ax5_3_14, .ref ax5_3_15, .ref ax5_3_16])), (ax5_3_2, .inl (cx5_3_2, 6, .inl fx5_3_2)), (ax5_3_4, .inl (cx5_3_4, 36, .inl fx5_3_4)), (ax5_3_5, .inl (cx5_3_5, 36, .inr (.inl fx5_3_5)))]) [2, 3, 4, 0, 1] rfl
          have hD9 := hD.sub (ws' := [(h0, .inr (10, [.ref ax10_0, .int xx10_1, .ref ox10_2, .ref ox10_3, .ref ox10_4, .ref ox10_5, .ref ox10_6, .ref ox10_7, .ref ox10_8, .ref ox10_9, .ref ox10_10, .ref ox10_11, .ref ox10_12, .ref ox10_13, .ref ox10_14, .ref ox10_15])), (ox10_3, .inr (5, [.int xx5_3_0, .int xx5_3_1, .ref ax5_3_2, .ref ax5_3_3, .ref ax5_3_4, .ref ax5_3_5, .ref ax5_3_6, .ref ax5_3_7, .ref ax5_3_8, .ref ax5_3_9, .ref ax5_3_10, .ref ax5_3_11, .ref ax5_3_12, .ref ax5_3_13, .ref ax5_3_14, .ref ax5_3_15, .ref ax5_3_16])), (ax5_3_2, .inl (cx5_3_2, 6, .inl fx5_3_2)), (ax5_3_4, .inl (cx5_3_4, 36, .inl fx5_3_4)), (ax5_3_5, .inl (cx5_3_5, 36, .inr (.inl fx5_3_5)))]) [2, 3, 4, 0, 1] (by decide) rfl
          have hK9 := hK.sub (tys' := [(cx5_3_2, .int), (cx5_3_4, .int), (cx5_3_5, .long)]) [0, 1, 2] rfl
          refine W.widen (k := 0) (n := 0) (Nat.le_of_ble_eq_true rfl) (Nat.le_of_ble_eq_true rfl) ?_
          exact W.iret (v := (-1)) hx hb hr (fun t ht hW => ⟨⟨(-1), (), rfl, trivial, by rw [ht]; exact hP9, va_K.moved hW.alike hK9, hD9⟩, hS.F ht⟩) hS.2.2 dX10_record_39
        · refine lv_iload_n hx hb dX10_record_32 rfl (lv_at hl 3 rfl) ?_
          refine lv_iload hx hb dX10_record_33 (lv_at hl 0 rfl) ?_
          refine lv_icmp_lt (tgt := 40) hx hb dX10_record_35 (by decide) (fun c_12 => ?_) (fun c_12 => ?_)
          · refine lv_iload_n hx hb dX10_record_40 rfl (lv_at hl 2 rfl) ?_
            refine lv_bipush (v := 6) hx hb dX10_record_41 (by decide) ?_
            refine lv_imul hx hb dX10_record_43 ?_
            refine lv_topi (fun x_13 ex_13 => ?_)
            have bx_13 : (0 : Int) ≤ x_13.toInt ∧ x_13.toInt ≤ (30 : Int) := by have r0 := il_rng p0; have a0 := il_nlt g_2; have a1 := il_nlt g_7; have a2 := il_nle g_8; have e0 : (0 : Int32).toInt = 0 := (by decide); have e1 : (6 : Int32).toInt = 6 := (by decide); rw [ex_13]; have m9 := il_mulE (x := p0) (y := 6) (by rw [e1]; omega) (by rw [e1]; omega); rw [m9, e1]; omega
            refine lv_iload_n hx hb dX10_record_44 rfl (lv_at hl 3 rfl) ?_
            refine lv_iadd hx hb dX10_record_45 ?_
            refine lv_topi (fun x_14 ex_14 => ?_)
            refine lv_istore (lv' := [(5, .int x_14), (4, .int r_6), (0, .ref h0), (1, .int p0), (2, .int p1), (3, .int p2)]) hx hb dX10_record_46 hl (by decide) rfl (fun ls hl => ?_)
            refine lv_iload_n hx hb dX10_record_48 rfl (lv_at hl 5 rfl) ?_
            rcases (il_sw2 p2 (0) (1)) with s_15 | s_16 | ⟨s_15, s_16⟩
            · refine lv_lookup (off := 27) (tgt := 76) hx hb dX10_record_49 (by decide) (by rw [s_15]; decide) (by decide) ?_
              refine lv_aload_n hx hb dX10_record_76 rfl (lv_at hl 2 rfl) ?_
              refine va_get (D := (dC, dI)) (ci := 10) (v := .ref ox10_3) (C := RX10) (T := TX10) (N := 16) hx hb hts inlX10 hown hK hP 2 rfl rfl 3 (by decide) (hts (.fieldLink RX10 29 "ShapeReader" "shapes" "LShapeReader$Shapes;") mw_20_20) (fun _ h9 => h9) rfl dX10_record_77 ?_
              refine lv_iload hx hb dX10_record_80 (lv_at hl 0 rfl) ?_
              have hPc := hP.sub (ws' := [(ox10_3, .inr (5, [.int xx5_3_0, .int xx5_3_1, .ref ax5_3_2, .ref ax5_3_3, .ref ax5_3_4, .ref ax5_3_5, .ref ax5_3_6, .ref ax5_3_7, .ref ax5_3_8, .ref ax5_3_9, .ref ax5_3_10, .ref ax5_3_11, .ref ax5_3_12, .ref ax5_3_13, .ref ax5_3_14, .ref ax5_3_15, .ref ax5_3_16])), (ax5_3_4, .inl (cx5_3_4, 36, .inl fx5_3_4))]) [3, 0] rfl
              have hDc := hD.sub (ws' := [(ox10_3, .inr (5, [.int xx5_3_0, .int xx5_3_1, .ref ax5_3_2, .ref ax5_3_3, .ref ax5_3_4, .ref ax5_3_5, .ref ax5_3_6, .ref ax5_3_7, .ref ax5_3_8, .ref ax5_3_9, .ref ax5_3_10, .ref ax5_3_11, .ref ax5_3_12, .ref ax5_3_13, .ref ax5_3_14, .ref ax5_3_15, .ref ax5_3_16])), (ax5_3_4, .inl (cx5_3_4, 36, .inl fx5_3_4))]) [3, 0] (by decide) rfl
              have hKc := hK.sub (tys' := [(cx5_3_4, .int)]) [1] rfl
              have hFc := va_free (wc := [(ox10_3, .inr (5, [.int xx5_3_0, .int xx5_3_1, .ref ax5_3_2, .ref ax5_3_3, .ref ax5_3_4, .ref ax5_3_5, .ref ax5_3_6, .ref ax5_3_7, .ref ax5_3_8, .ref ax5_3_9, .ref ax5_3_10, .ref ax5_3_11, .ref ax5_3_12, .ref ax5_3_13, .ref ax5_3_14, .ref ax5_3_15, .ref ax5_3_16])), (ax5_3_4, .inl (cx5_3_4, 36, .inl fx5_3_4))]) hD hS hA [3, 0] rfl
              refine va_calli (va_runV (As := [.int x_14]) (rest := []) ⟨hx, hb, hml, hown, hts⟩ (s_X5_fieldsOf l dC dI ox10_3 xx5_3_0 xx5_3_1 ax5_3_2 ax5_3_3 ax5_3_4 cx5_3_4 fx5_3_4 ax5_3_5 ax5_3_6 ax5_3_7 ax5_3_8 ax5_3_9 ax5_3_10 ax5_3_11 ax5_3_12 ax5_3_13 ax5_3_14 ax5_3_15 ax5_3_16 x_14 (by have a0 := hi_xx5_3_0.1; have a1 := hi_xx5_3_0.2; omega) (by have a0 := hi_xx5_3_1.1; have a1 := hi_xx5_3_1.2; omega) H.size) (cwV 1 hts (gV mw_23_20 mw_1_28 mw_1_29 mw_0_9 mw_48_29) rfl rfl rfl (by decide +kernel) ⟨(Nat.le_of_ble_eq_true rfl), (Nat.le_of_ble_eq_true rfl)⟩) (vV (ci := 5) (q0 := 0) hKc hPc hDc hN rfl rfl) rfl rfl hl.1 rfl (lv_room (Nat.le_of_ble_eq_true rfl)) dX10_record_82 ⟨(Nat.le_of_ble_eq_true rfl), (Nat.le_of_ble_eq_true rfl)⟩) hS (fun q _ h => hFc q h) hFc (fun r_17 u t H1 locs ht hvm hw hB hz1 hk1 hS => ?_)
              obtain ⟨hP1, hK1, hD1⟩ := hB
              rw [ht] at hP1
              have hK1 := va_K.moved hvm.symm hK1
              obtain ⟨hP, hD⟩ := va_join (wr := [(ax5_3_5, .inl (cx5_3_5, 36, .inr (.inl fx5_3_5))), (h0, .inr (10, [.ref ax10_0, .int xx10_1, .ref ox10_2, .ref ox10_3, .ref ox10_4, .ref ox10_5, .ref ox10_6, .ref ox10_7, .ref ox10_8, .ref ox10_9, .ref ox10_10, .ref ox10_11, .ref ox10_12, .ref ox10_13, .ref ox10_14, .ref ox10_15])), (ax5_3_2, .inl (cx5_3_2, 6, .inl fx5_3_2))]) (w1 := [(ox10_3, .inr (5, [.int xx5_3_0, .int xx5_3_1, .ref ax5_3_2, .ref ax5_3_3, .ref ax5_3_4, .ref ax5_3_5, .ref ax5_3_6, .ref ax5_3_7, .ref ax5_3_8, .ref ax5_3_9, .ref ax5_3_10, .ref ax5_3_11, .ref ax5_3_12, .ref ax5_3_13, .ref ax5_3_14, .ref ax5_3_15, .ref ax5_3_16])), (ax5_3_4, .inl (cx5_3_4, 36, .inl fx5_3_4))]) hP hD [3, 0] [1, 2, 4] rfl rfl (by decide) (by decide) hk1 hFc hP1 hD1
              clear hPc hDc hKc hP1 hK1 hD1 hFc hk1 hz1
              generalize H1 = H at hP hS ⊢
              have hP : va_P (dC, dI) vwCl [(ax5_3_5, .inl (cx5_3_5, 36, .inr (.inl fx5_3_5))), (h0, .inr (10, [.ref ax10_0, .int xx10_1, .ref ox10_2, .ref ox10_3, .ref ox10_4, .ref ox10_5, .ref ox10_6, .ref ox10_7, .ref ox10_8, .ref ox10_9, .ref ox10_10, .ref ox10_11, .ref ox10_12, .ref ox10_13, .ref ox10_14, .ref ox10_15])), (ax5_3_2, .inl (cx5_3_2, 6, .inl fx5_3_2)), (ox10_3, .inr (5, [.int xx5_3_0, .int xx5_3_1, .ref ax5_3_2, .ref ax5_3_3, .ref ax5_3_4, .ref ax5_3_5, .ref ax5_3_6, .ref ax5_3_7, .ref ax5_3_8, .ref ax5_3_9, .ref ax5_3_10, .ref ax5_3_11, .ref ax5_3_12, .ref ax5_3_13, .ref ax5_3_14, .ref ax5_3_15, .ref ax5_3_16])), (ax5_3_4, .inl (cx5_3_4, 36, .inl fx5_3_4))] H := hP
              have hD : va_D A [(ax5_3_5, .inl (cx5_3_5, 36, .inr (.inl fx5_3_5))), (h0, .inr (10, [.ref ax10_0, .int xx10_1, .ref ox10_2, .ref ox10_3, .ref ox10_4, .ref ox10_5, .ref ox10_6, .ref ox10_7, .ref ox10_8, .ref ox10_9, .ref ox10_10, .ref ox10_11, .ref ox10_12, .ref ox10_13, .ref ox10_14, .ref ox10_15])), (ax5_3_2, .inl (cx5_3_2, 6, .inl fx5_3_2)), (ox10_3, .inr (5, [.int xx5_3_0, .int xx5_3_1, .ref ax5_3_2, .ref ax5_3_3, .ref ax5_3_4, .ref ax5_3_5, .ref ax5_3_6, .ref ax5_3_7, .ref ax5_3_8, .ref ax5_3_9, .ref ax5_3_10, .ref ax5_3_11, .ref ax5_3_12, .ref ax5_3_13, .ref ax5_3_14, .ref ax5_3_15, .ref ax5_3_16])), (ax5_3_4, .inl (cx5_3_4, 36, .inl fx5_3_4))] := hD
              rcases hw with q_18 | rfl
              · have hP9 := hP.sub (ws' := [(h0, .inr (10, [.ref ax10_0, .int xx10_1, .ref ox10_2, .ref ox10_3, .ref ox10_4, .ref ox10_5, .ref ox10_6, .ref ox10_7, .ref ox10_8, .ref ox10_9, .ref ox10_10, .ref ox10_11, .ref ox10_12, .ref ox10_13, .ref ox10_14, .ref ox10_15])), (ox10_3, .inr (5, [.int xx5_3_0, .int xx5_3_1, .ref ax5_3_2, .ref ax5_3_3, .ref ax5_3_4, .ref ax5_3_5, .ref ax5_3_6, .ref ax5_3_7, .ref ax5_3_8, .ref ax5_3_9, .ref ax5_3_10, .ref ax5_3_11, .ref ax5_3_12, .ref ax5_3_13, .ref ax5_3_14, .ref ax5_3_15, .ref ax5_3_16])), (ax5_3_2, .inl (cx5_3_2, 6, .inl fx5_3_2)), (ax5_3_4, .inl (cx5_3_4, 36, .inl fx5_3_4)), (ax5_3_5, .inl (cx5_3_5, 36, .inr (.inl fx5_3_5)))]) [1, 3, 2, 4, 0] rfl
                have hD9 := hD.sub (ws' := [(h0, .inr (10, [.ref ax10_0, .int xx10_1, .ref ox10_2, .ref ox10_3, .ref ox10_4, .ref ox10_5, .ref ox10_6, .ref ox10_7, .ref ox10_8, .ref ox10_9, .ref ox10_10, .ref ox10_11, .ref ox10_12, .ref ox10_13, .ref ox10_14, .ref ox10_15])), (ox10_3, .inr (5, [.int xx5_3_0, .int xx5_3_1, .ref ax5_3_2, .ref ax5_3_3, .ref ax5_3_4, .ref ax5_3_5, .ref ax5_3_6, .ref ax5_3_7, .ref ax5_3_8, .ref ax5_3_9, .ref ax5_3_10, .ref ax5_3_11, .ref ax5_3_12, .ref ax5_3_13, .ref ax5_3_14, .ref ax5_3_15, .ref ax5_3_16])), (ax5_3_2, .inl (cx5_3_2, 6, .inl fx5_3_2)), (ax5_3_4, .inl (cx5_3_4, 36, .inl fx5_3_4)), (ax5_3_5, .inl (cx5_3_5, 36, .inr (.inl fx5_3_5)))]) [1, 3, 2, 4, 0] (by decide) rfl
                have hK9 := hK.sub (tys' := [(cx5_3_2, .int), (cx5_3_4, .int), (cx5_3_5, .long)]) [0, 1, 2] rfl
                refine W.widen (k := 0) (n := 0) (Nat.le_of_ble_eq_true rfl) (Nat.le_of_ble_eq_true rfl) ?_
                exact W.iret (v := r_17) hx hb hr (fun t ht hW => ⟨⟨r_17, (), rfl, trivial, by rw [ht]; exact hP9, va_K.moved hW.alike hK9, hD9⟩, hS.F ht⟩) hS.2.2 dX10_record_85
              · have hP9 := hP.sub (ws' := [(h0, .inr (10, [.ref ax10_0, .int xx10_1, .ref ox10_2, .ref ox10_3, .ref ox10_4, .ref ox10_5, .ref ox10_6, .ref ox10_7, .ref ox10_8, .ref ox10_9, .ref ox10_10, .ref ox10_11, .ref ox10_12, .ref ox10_13, .ref ox10_14, .ref ox10_15])), (ox10_3, .inr (5, [.int xx5_3_0, .int xx5_3_1, .ref ax5_3_2, .ref ax5_3_3, .ref ax5_3_4, .ref ax5_3_5, .ref ax5_3_6, .ref ax5_3_7, .ref ax5_3_8, .ref ax5_3_9, .ref ax5_3_10, .ref ax5_3_11, .ref ax5_3_12, .ref ax5_3_13, .ref ax5_3_14, .ref ax5_3_15, .ref ax5_3_16])), (ax5_3_2, .inl (cx5_3_2, 6, .inl fx5_3_2)), (ax5_3_4, .inl (cx5_3_4, 36, .inl fx5_3_4)), (ax5_3_5, .inl (cx5_3_5, 36, .inr (.inl fx5_3_5)))]) [1, 3, 2, 4, 0] rfl
                have hD9 := hD.sub (ws' := [(h0, .inr (10, [.ref ax10_0, .int xx10_1, .ref ox10_2, .ref ox10_3, .ref ox10_4, .ref ox10_5, .ref ox10_6, .ref ox10_7, .ref ox10_8, .ref ox10_9, .ref ox10_10, .ref ox10_11, .ref ox10_12, .ref ox10_13, .ref ox10_14, .ref ox10_15])), (ox10_3, .inr (5, [.int xx5_3_0, .int xx5_3_1, .ref ax5_3_2, .ref ax5_3_3, .ref ax5_3_4, .ref ax5_3_5, .ref ax5_3_6, .ref ax5_3_7, .ref ax5_3_8, .ref ax5_3_9, .ref ax5_3_10, .ref ax5_3_11, .ref ax5_3_12, .ref ax5_3_13, .ref ax5_3_14, .ref ax5_3_15, .ref ax5_3_16])), (ax5_3_2, .inl (cx5_3_2, 6, .inl fx5_3_2)), (ax5_3_4, .inl (cx5_3_4, 36, .inl fx5_3_4)), (ax5_3_5, .inl (cx5_3_5, 36, .inr (.inl fx5_3_5)))]) [1, 3, 2, 4, 0] (by decide) rfl
                have hK9 := hK.sub (tys' := [(cx5_3_2, .int), (cx5_3_4, .int), (cx5_3_5, .long)]) [0, 1, 2] rfl
                refine W.widen (k := 0) (n := 0) (Nat.le_of_ble_eq_true rfl) (Nat.le_of_ble_eq_true rfl) ?_
                exact W.iret (v := 0) hx hb hr (fun t ht hW => ⟨⟨0, (), rfl, trivial, by rw [ht]; exact hP9, va_K.moved hW.alike hK9, hD9⟩, hS.F ht⟩) hS.2.2 dX10_record_85
            · refine lv_lookup (off := 37) (tgt := 86) hx hb dX10_record_49 (by decide) (by rw [s_16]; decide) (by decide) ?_
              refine lv_aload_n hx hb dX10_record_86 rfl (lv_at hl 2 rfl) ?_
              refine va_get (D := (dC, dI)) (ci := 10) (v := .ref ox10_3) (C := RX10) (T := TX10) (N := 16) hx hb hts inlX10 hown hK hP 2 rfl rfl 3 (by decide) (hts (.fieldLink RX10 29 "ShapeReader" "shapes" "LShapeReader$Shapes;") mw_20_20) (fun _ h9 => h9) rfl dX10_record_87 ?_
              refine lv_iload hx hb dX10_record_90 (lv_at hl 0 rfl) ?_
              have hPc := hP.sub (ws' := [(ox10_3, .inr (5, [.int xx5_3_0, .int xx5_3_1, .ref ax5_3_2, .ref ax5_3_3, .ref ax5_3_4, .ref ax5_3_5, .ref ax5_3_6, .ref ax5_3_7, .ref ax5_3_8, .ref ax5_3_9, .ref ax5_3_10, .ref ax5_3_11, .ref ax5_3_12, .ref ax5_3_13, .ref ax5_3_14, .ref ax5_3_15, .ref ax5_3_16])), (ax5_3_5, .inl (cx5_3_5, 36, .inr (.inl fx5_3_5)))]) [3, 1] rfl
              have hDc := hD.sub (ws' := [(ox10_3, .inr (5, [.int xx5_3_0, .int xx5_3_1, .ref ax5_3_2, .ref ax5_3_3, .ref ax5_3_4, .ref ax5_3_5, .ref ax5_3_6, .ref ax5_3_7, .ref ax5_3_8, .ref ax5_3_9, .ref ax5_3_10, .ref ax5_3_11, .ref ax5_3_12, .ref ax5_3_13, .ref ax5_3_14, .ref ax5_3_15, .ref ax5_3_16])), (ax5_3_5, .inl (cx5_3_5, 36, .inr (.inl fx5_3_5)))]) [3, 1] (by decide) rfl
              have hKc := hK.sub (tys' := [(cx5_3_5, .long)]) [2] rfl
              have hFc := va_free (wc := [(ox10_3, .inr (5, [.int xx5_3_0, .int xx5_3_1, .ref ax5_3_2, .ref ax5_3_3, .ref ax5_3_4, .ref ax5_3_5, .ref ax5_3_6, .ref ax5_3_7, .ref ax5_3_8, .ref ax5_3_9, .ref ax5_3_10, .ref ax5_3_11, .ref ax5_3_12, .ref ax5_3_13, .ref ax5_3_14, .ref ax5_3_15, .ref ax5_3_16])), (ax5_3_5, .inl (cx5_3_5, 36, .inr (.inl fx5_3_5)))]) hD hS hA [3, 1] rfl
              refine va_calll (va_runV (As := [.int x_14]) (rest := []) ⟨hx, hb, hml, hown, hts⟩ (s_X5_recordName l dC dI ox10_3 xx5_3_0 xx5_3_1 ax5_3_2 ax5_3_3 ax5_3_4 ax5_3_5 cx5_3_5 fx5_3_5 ax5_3_6 ax5_3_7 ax5_3_8 ax5_3_9 ax5_3_10 ax5_3_11 ax5_3_12 ax5_3_13 ax5_3_14 ax5_3_15 ax5_3_16 x_14 (by have a0 := hi_xx5_3_0.1; have a1 := hi_xx5_3_0.2; omega) (by have a0 := hi_xx5_3_1.1; have a1 := hi_xx5_3_1.2; omega) H.size) (cwV 1 hts (gV mw_23_21 mw_1_25 mw_1_26 mw_0_9 mw_49_0) rfl rfl rfl (by decide +kernel) ⟨(Nat.le_of_ble_eq_true rfl), (Nat.le_of_ble_eq_true rfl)⟩) (vV (ci := 5) (q0 := 0) hKc hPc hDc hN rfl rfl) rfl rfl hl.1 rfl (lv_room (Nat.le_of_ble_eq_true rfl)) dX10_record_92 ⟨(Nat.le_of_ble_eq_true rfl), (Nat.le_of_ble_eq_true rfl)⟩) hS (fun q _ h => hFc q h) hFc (fun r_19 u t H1 locs ht hvm hw hB hz1 hk1 hS => ?_)
              obtain ⟨hP1, hK1, hD1⟩ := hB
              rw [ht] at hP1
              have hK1 := va_K.moved hvm.symm hK1
              obtain ⟨hP, hD⟩ := va_join (wr := [(ax5_3_4, .inl (cx5_3_4, 36, .inl fx5_3_4)), (h0, .inr (10, [.ref ax10_0, .int xx10_1, .ref ox10_2, .ref ox10_3, .ref ox10_4, .ref ox10_5, .ref ox10_6, .ref ox10_7, .ref ox10_8, .ref ox10_9, .ref ox10_10, .ref ox10_11, .ref ox10_12, .ref ox10_13, .ref ox10_14, .ref ox10_15])), (ax5_3_2, .inl (cx5_3_2, 6, .inl fx5_3_2))]) (w1 := [(ox10_3, .inr (5, [.int xx5_3_0, .int xx5_3_1, .ref ax5_3_2, .ref ax5_3_3, .ref ax5_3_4, .ref ax5_3_5, .ref ax5_3_6, .ref ax5_3_7, .ref ax5_3_8, .ref ax5_3_9, .ref ax5_3_10, .ref ax5_3_11, .ref ax5_3_12, .ref ax5_3_13, .ref ax5_3_14, .ref ax5_3_15, .ref ax5_3_16])), (ax5_3_5, .inl (cx5_3_5, 36, .inr (.inl fx5_3_5)))]) hP hD [3, 1] [0, 2, 4] rfl rfl (by decide) (by decide) hk1 hFc hP1 hD1
              clear hPc hDc hKc hP1 hK1 hD1 hFc hk1 hz1
              generalize H1 = H at hP hS ⊢
              have hP : va_P (dC, dI) vwCl [(ax5_3_4, .inl (cx5_3_4, 36, .inl fx5_3_4)), (h0, .inr (10, [.ref ax10_0, .int xx10_1, .ref ox10_2, .ref ox10_3, .ref ox10_4, .ref ox10_5, .ref ox10_6, .ref ox10_7, .ref ox10_8, .ref ox10_9, .ref ox10_10, .ref ox10_11, .ref ox10_12, .ref ox10_13, .ref ox10_14, .ref ox10_15])), (ax5_3_2, .inl (cx5_3_2, 6, .inl fx5_3_2)), (ox10_3, .inr (5, [.int xx5_3_0, .int xx5_3_1, .ref ax5_3_2, .ref ax5_3_3, .ref ax5_3_4, .ref ax5_3_5, .ref ax5_3_6, .ref ax5_3_7, .ref ax5_3_8, .ref ax5_3_9, .ref ax5_3_10, .ref ax5_3_11, .ref ax5_3_12, .ref ax5_3_13, .ref ax5_3_14, .ref ax5_3_15, .ref ax5_3_16])), (ax5_3_5, .inl (cx5_3_5, 36, .inr (.inl fx5_3_5)))] H := hP
              have hD : va_D A [(ax5_3_4, .inl (cx5_3_4, 36, .inl fx5_3_4)), (h0, .inr (10, [.ref ax10_0, .int xx10_1, .ref ox10_2, .ref ox10_3, .ref ox10_4, .ref ox10_5, .ref ox10_6, .ref ox10_7, .ref ox10_8, .ref ox10_9, .ref ox10_10, .ref ox10_11, .ref ox10_12, .ref ox10_13, .ref ox10_14, .ref ox10_15])), (ax5_3_2, .inl (cx5_3_2, 6, .inl fx5_3_2)), (ox10_3, .inr (5, [.int xx5_3_0, .int xx5_3_1, .ref ax5_3_2, .ref ax5_3_3, .ref ax5_3_4, .ref ax5_3_5, .ref ax5_3_6, .ref ax5_3_7, .ref ax5_3_8, .ref ax5_3_9, .ref ax5_3_10, .ref ax5_3_11, .ref ax5_3_12, .ref ax5_3_13, .ref ax5_3_14, .ref ax5_3_15, .ref ax5_3_16])), (ax5_3_5, .inl (cx5_3_5, 36, .inr (.inl fx5_3_5)))] := hD
              rcases hw with q_20 | rfl
              · have hPc := hP.sub (ws' := []) [] rfl
                have hDc := hD.sub (ws' := []) [] (by decide) rfl
                have hKc := hK.sub (tys' := []) [] rfl
                have hFc := va_free (wc := []) hD hS hA [] rfl
                refine va_calli (va_runS (As := [.long r_19]) (rest := []) ⟨hx, hb, hml, hown, hts⟩ (s_X10_lettersIn l dC dI r_19 H.size) (va_cwS 1 hts (gS mw_23_22 mw_6_21 mw_0_14 mw_52_19) rfl rfl rfl (by decide +kernel) ⟨(Nat.le_of_ble_eq_true rfl), (Nat.le_of_ble_eq_true rfl)⟩) (vS hKc hPc hDc hN) rfl rfl hl.1 rfl (lv_room (Nat.le_of_ble_eq_true rfl)) dX10_record_95 ⟨(Nat.le_of_ble_eq_true rfl), (Nat.le_of_ble_eq_true rfl)⟩) hS (fun q _ h => hFc q h) hFc (fun r_21 u t H1 locs ht hvm hw hB hz1 hk1 hS => ?_)
                obtain ⟨hP1, hK1, hD1⟩ := hB
                rw [ht] at hP1
                have hK1 := va_K.moved hvm.symm hK1
                obtain ⟨hP, hD⟩ := va_join (wr := [(ax5_3_4, .inl (cx5_3_4, 36, .inl fx5_3_4)), (h0, .inr (10, [.ref ax10_0, .int xx10_1, .ref ox10_2, .ref ox10_3, .ref ox10_4, .ref ox10_5, .ref ox10_6, .ref ox10_7, .ref ox10_8, .ref ox10_9, .ref ox10_10, .ref ox10_11, .ref ox10_12, .ref ox10_13, .ref ox10_14, .ref ox10_15])), (ax5_3_2, .inl (cx5_3_2, 6, .inl fx5_3_2)), (ox10_3, .inr (5, [.int xx5_3_0, .int xx5_3_1, .ref ax5_3_2, .ref ax5_3_3, .ref ax5_3_4, .ref ax5_3_5, .ref ax5_3_6, .ref ax5_3_7, .ref ax5_3_8, .ref ax5_3_9, .ref ax5_3_10, .ref ax5_3_11, .ref ax5_3_12, .ref ax5_3_13, .ref ax5_3_14, .ref ax5_3_15, .ref ax5_3_16])), (ax5_3_5, .inl (cx5_3_5, 36, .inr (.inl fx5_3_5)))]) (w1 := []) hP hD [] [0, 1, 2, 3, 4] rfl rfl (by decide) (by decide) hk1 hFc hP1 hD1
                clear hPc hDc hKc hP1 hK1 hD1 hFc hk1 hz1
                generalize H1 = H at hP hS ⊢
                have hP : va_P (dC, dI) vwCl [(ax5_3_4, .inl (cx5_3_4, 36, .inl fx5_3_4)), (h0, .inr (10, [.ref ax10_0, .int xx10_1, .ref ox10_2, .ref ox10_3, .ref ox10_4, .ref ox10_5, .ref ox10_6, .ref ox10_7, .ref ox10_8, .ref ox10_9, .ref ox10_10, .ref ox10_11, .ref ox10_12, .ref ox10_13, .ref ox10_14, .ref ox10_15])), (ax5_3_2, .inl (cx5_3_2, 6, .inl fx5_3_2)), (ox10_3, .inr (5, [.int xx5_3_0, .int xx5_3_1, .ref ax5_3_2, .ref ax5_3_3, .ref ax5_3_4, .ref ax5_3_5, .ref ax5_3_6, .ref ax5_3_7, .ref ax5_3_8, .ref ax5_3_9, .ref ax5_3_10, .ref ax5_3_11, .ref ax5_3_12, .ref ax5_3_13, .ref ax5_3_14, .ref ax5_3_15, .ref ax5_3_16])), (ax5_3_5, .inl (cx5_3_5, 36, .inr (.inl fx5_3_5)))] H := hP
                have hD : va_D A [(ax5_3_4, .inl (cx5_3_4, 36, .inl fx5_3_4)), (h0, .inr (10, [.ref ax10_0, .int xx10_1, .ref ox10_2, .ref ox10_3, .ref ox10_4, .ref ox10_5, .ref ox10_6, .ref ox10_7, .ref ox10_8, .ref ox10_9, .ref ox10_10, .ref ox10_11, .ref ox10_12, .ref ox10_13, .ref ox10_14, .ref ox10_15])), (ax5_3_2, .inl (cx5_3_2, 6, .inl fx5_3_2)), (ox10_3, .inr (5, [.int xx5_3_0, .int xx5_3_1, .ref ax5_3_2, .ref ax5_3_3, .ref ax5_3_4, .ref ax5_3_5, .ref ax5_3_6, .ref ax5_3_7, .ref ax5_3_8, .ref ax5_3_9, .ref ax5_3_10, .ref ax5_3_11, .ref ax5_3_12, .ref ax5_3_13, .ref ax5_3_14, .ref ax5_3_15, .ref ax5_3_16])), (ax5_3_5, .inl (cx5_3_5, 36, .inr (.inl fx5_3_5)))] := hD
                have hr_21 := hw
                have hP9 := hP.sub (ws' := [(h0, .inr (10, [.ref ax10_0, .int xx10_1, .ref ox10_2, .ref ox10_3, .ref ox10_4, .ref ox10_5, .ref ox10_6, .ref ox10_7, .ref ox10_8, .ref ox10_9, .ref ox10_10, .ref ox10_11, .ref ox10_12, .ref ox10_13, .ref ox10_14, .ref ox10_15])), (ox10_3, .inr (5, [.int xx5_3_0, .int xx5_3_1, .ref ax5_3_2, .ref ax5_3_3, .ref ax5_3_4, .ref ax5_3_5, .ref ax5_3_6, .ref ax5_3_7, .ref ax5_3_8, .ref ax5_3_9, .ref ax5_3_10, .ref ax5_3_11, .ref ax5_3_12, .ref ax5_3_13, .ref ax5_3_14, .ref ax5_3_15, .ref ax5_3_16])), (ax5_3_2, .inl (cx5_3_2, 6, .inl fx5_3_2)), (ax5_3_4, .inl (cx5_3_4, 36, .inl fx5_3_4)), (ax5_3_5, .inl (cx5_3_5, 36, .inr (.inl fx5_3_5)))]) [1, 3, 2, 0, 4] rfl
                have hD9 := hD.sub (ws' := [(h0, .inr (10, [.ref ax10_0, .int xx10_1, .ref ox10_2, .ref ox10_3, .ref ox10_4, .ref ox10_5, .ref ox10_6, .ref ox10_7, .ref ox10_8, .ref ox10_9, .ref ox10_10, .ref ox10_11, .ref ox10_12, .ref ox10_13, .ref ox10_14, .ref ox10_15])), (ox10_3, .inr (5, [.int xx5_3_0, .int xx5_3_1, .ref ax5_3_2, .ref ax5_3_3, .ref ax5_3_4, .ref ax5_3_5, .ref ax5_3_6, .ref ax5_3_7, .ref ax5_3_8, .ref ax5_3_9, .ref ax5_3_10, .ref ax5_3_11, .ref ax5_3_12, .ref ax5_3_13, .ref ax5_3_14, .ref ax5_3_15, .ref ax5_3_16])), (ax5_3_2, .inl (cx5_3_2, 6, .inl fx5_3_2)), (ax5_3_4, .inl (cx5_3_4, 36, .inl fx5_3_4)), (ax5_3_5, .inl (cx5_3_5, 36, .inr (.inl fx5_3_5)))]) [1, 3, 2, 0, 4] (by decide) rfl
                have hK9 := hK.sub (tys' := [(cx5_3_2, .int), (cx5_3_4, .int), (cx5_3_5, .long)]) [0, 1, 2] rfl
                refine W.widen (k := 0) (n := 0) (Nat.le_of_ble_eq_true rfl) (Nat.le_of_ble_eq_true rfl) ?_
                exact W.iret (v := r_21) hx hb hr (fun t ht hW => ⟨⟨r_21, (), rfl, trivial, by rw [ht]; exact hP9, va_K.moved hW.alike hK9, hD9⟩, hS.F ht⟩) hS.2.2 dX10_record_98
              · have hPc := hP.sub (ws' := []) [] rfl
                have hDc := hD.sub (ws' := []) [] (by decide) rfl
                have hKc := hK.sub (tys' := []) [] rfl
                have hFc := va_free (wc := []) hD hS hA [] rfl
                refine va_calli (va_runS (As := [.long 0]) (rest := []) ⟨hx, hb, hml, hown, hts⟩ (s_X10_lettersIn l dC dI 0 H.size) (va_cwS 1 hts (gS mw_23_22 mw_6_21 mw_0_14 mw_52_19) rfl rfl rfl (by decide +kernel) ⟨(Nat.le_of_ble_eq_true rfl), (Nat.le_of_ble_eq_true rfl)⟩) (vS hKc hPc hDc hN) rfl rfl hl.1 rfl (lv_room (Nat.le_of_ble_eq_true rfl)) dX10_record_95 ⟨(Nat.le_of_ble_eq_true rfl), (Nat.le_of_ble_eq_true rfl)⟩) hS (fun q _ h => hFc q h) hFc (fun r_22 u t H1 locs ht hvm hw hB hz1 hk1 hS => ?_)
                obtain ⟨hP1, hK1, hD1⟩ := hB
                rw [ht] at hP1
                have hK1 := va_K.moved hvm.symm hK1
                obtain ⟨hP, hD⟩ := va_join (wr := [(ax5_3_4, .inl (cx5_3_4, 36, .inl fx5_3_4)), (h0, .inr (10, [.ref ax10_0, .int xx10_1, .ref ox10_2, .ref ox10_3, .ref ox10_4, .ref ox10_5, .ref ox10_6, .ref ox10_7, .ref ox10_8, .ref ox10_9, .ref ox10_10, .ref ox10_11, .ref ox10_12, .ref ox10_13, .ref ox10_14, .ref ox10_15])), (ax5_3_2, .inl (cx5_3_2, 6, .inl fx5_3_2)), (ox10_3, .inr (5, [.int xx5_3_0, .int xx5_3_1, .ref ax5_3_2, .ref ax5_3_3, .ref ax5_3_4, .ref ax5_3_5, .ref ax5_3_6, .ref ax5_3_7, .ref ax5_3_8, .ref ax5_3_9, .ref ax5_3_10, .ref ax5_3_11, .ref ax5_3_12, .ref ax5_3_13, .ref ax5_3_14, .ref ax5_3_15, .ref ax5_3_16])), (ax5_3_5, .inl (cx5_3_5, 36, .inr (.inl fx5_3_5)))]) (w1 := []) hP hD [] [0, 1, 2, 3, 4] rfl rfl (by decide) (by decide) hk1 hFc hP1 hD1
                clear hPc hDc hKc hP1 hK1 hD1 hFc hk1 hz1
                generalize H1 = H at hP hS ⊢
                have hP : va_P (dC, dI) vwCl [(ax5_3_4, .inl (cx5_3_4, 36, .inl fx5_3_4)), (h0, .inr (10, [.ref ax10_0, .int xx10_1, .ref ox10_2, .ref ox10_3, .ref ox10_4, .ref ox10_5, .ref ox10_6, .ref ox10_7, .ref ox10_8, .ref ox10_9, .ref ox10_10, .ref ox10_11, .ref ox10_12, .ref ox10_13, .ref ox10_14, .ref ox10_15])), (ax5_3_2, .inl (cx5_3_2, 6, .inl fx5_3_2)), (ox10_3, .inr (5, [.int xx5_3_0, .int xx5_3_1, .ref ax5_3_2, .ref ax5_3_3, .ref ax5_3_4, .ref ax5_3_5, .ref ax5_3_6, .ref ax5_3_7, .ref ax5_3_8, .ref ax5_3_9, .ref ax5_3_10, .ref ax5_3_11, .ref ax5_3_12, .ref ax5_3_13, .ref ax5_3_14, .ref ax5_3_15, .ref ax5_3_16])), (ax5_3_5, .inl (cx5_3_5, 36, .inr (.inl fx5_3_5)))] H := hP
                have hD : va_D A [(ax5_3_4, .inl (cx5_3_4, 36, .inl fx5_3_4)), (h0, .inr (10, [.ref ax10_0, .int xx10_1, .ref ox10_2, .ref ox10_3, .ref ox10_4, .ref ox10_5, .ref ox10_6, .ref ox10_7, .ref ox10_8, .ref ox10_9, .ref ox10_10, .ref ox10_11, .ref ox10_12, .ref ox10_13, .ref ox10_14, .ref ox10_15])), (ax5_3_2, .inl (cx5_3_2, 6, .inl fx5_3_2)), (ox10_3, .inr (5, [.int xx5_3_0, .int xx5_3_1, .ref ax5_3_2, .ref ax5_3_3, .ref ax5_3_4, .ref ax5_3_5, .ref ax5_3_6, .ref ax5_3_7, .ref ax5_3_8, .ref ax5_3_9, .ref ax5_3_10, .ref ax5_3_11, .ref ax5_3_12, .ref ax5_3_13, .ref ax5_3_14, .ref ax5_3_15, .ref ax5_3_16])), (ax5_3_5, .inl (cx5_3_5, 36, .inr (.inl fx5_3_5)))] := hD
                have hr_22 := hw
                have hP9 := hP.sub (ws' := [(h0, .inr (10, [.ref ax10_0, .int xx10_1, .ref ox10_2, .ref ox10_3, .ref ox10_4, .ref ox10_5, .ref ox10_6, .ref ox10_7, .ref ox10_8, .ref ox10_9, .ref ox10_10, .ref ox10_11, .ref ox10_12, .ref ox10_13, .ref ox10_14, .ref ox10_15])), (ox10_3, .inr (5, [.int xx5_3_0, .int xx5_3_1, .ref ax5_3_2, .ref ax5_3_3, .ref ax5_3_4, .ref ax5_3_5, .ref ax5_3_6, .ref ax5_3_7, .ref ax5_3_8, .ref ax5_3_9, .ref ax5_3_10, .ref ax5_3_11, .ref ax5_3_12, .ref ax5_3_13, .ref ax5_3_14, .ref ax5_3_15, .ref ax5_3_16])), (ax5_3_2, .inl (cx5_3_2, 6, .inl fx5_3_2)), (ax5_3_4, .inl (cx5_3_4, 36, .inl fx5_3_4)), (ax5_3_5, .inl (cx5_3_5, 36, .inr (.inl fx5_3_5)))]) [1, 3, 2, 0, 4] rfl
                have hD9 := hD.sub (ws' := [(h0, .inr (10, [.ref ax10_0, .int xx10_1, .ref ox10_2, .ref ox10_3, .ref ox10_4, .ref ox10_5, .ref ox10_6, .ref ox10_7, .ref ox10_8, .ref ox10_9, .ref ox10_10, .ref ox10_11, .ref ox10_12, .ref ox10_13, .ref ox10_14, .ref ox10_15])), (ox10_3, .inr (5, [.int xx5_3_0, .int xx5_3_1, .ref ax5_3_2, .ref ax5_3_3, .ref ax5_3_4, .ref ax5_3_5, .ref ax5_3_6, .ref ax5_3_7, .ref ax5_3_8, .ref ax5_3_9, .ref ax5_3_10, .ref ax5_3_11, .ref ax5_3_12, .ref ax5_3_13, .ref ax5_3_14, .ref ax5_3_15, .ref ax5_3_16])), (ax5_3_2, .inl (cx5_3_2, 6, .inl fx5_3_2)), (ax5_3_4, .inl (cx5_3_4, 36, .inl fx5_3_4)), (ax5_3_5, .inl (cx5_3_5, 36, .inr (.inl fx5_3_5)))]) [1, 3, 2, 0, 4] (by decide) rfl
                have hK9 := hK.sub (tys' := [(cx5_3_2, .int), (cx5_3_4, .int), (cx5_3_5, .long)]) [0, 1, 2] rfl
                refine W.widen (k := 0) (n := 0) (Nat.le_of_ble_eq_true rfl) (Nat.le_of_ble_eq_true rfl) ?_
                exact W.iret (v := r_22) hx hb hr (fun t ht hW => ⟨⟨r_22, (), rfl, trivial, by rw [ht]; exact hP9, va_K.moved hW.alike hK9, hD9⟩, hS.F ht⟩) hS.2.2 dX10_record_98
            · refine lv_lookup (off := 50) (tgt := 99) hx hb dX10_record_49 (by decide) (by have a0 := il_ne s_15; have e0 : (0 : Int32).toInt = 0 := (by decide); have a1 := il_ne s_16; have e1 : (1 : Int32).toInt = 1 := (by decide); exact lk_dflt2 (by omega)) (by decide) ?_
              refine lv_iconst (v := (-1)) hx hb dX10_record_99 (by decide) ?_
              have hP9 := hP.sub (ws' := [(h0, .inr (10, [.ref ax10_0, .int xx10_1, .ref ox10_2, .ref ox10_3, .ref ox10_4, .ref ox10_5, .ref ox10_6, .ref ox10_7, .ref ox10_8, .ref ox10_9, .ref ox10_10, .ref ox10_11, .ref ox10_12, .ref ox10_13, .ref ox10_14, .ref ox10_15])), (ox10_3, .inr (5, [.int xx5_3_0, .int xx5_3_1, .ref ax5_3_2, .ref ax5_3_3, .ref ax5_3_4, .ref ax5_3_5, .ref ax5_3_6, .ref ax5_3_7, .ref ax5_3_8, .ref ax5_3_9, .ref ax5_3_10, .ref ax5_3_11, .ref ax5_3_12, .ref ax5_3_13, .ref ax5_3_14, .ref ax5_3_15, .ref ax5_3_16])), (ax5_3_2, .inl (cx5_3_2, 6, .inl fx5_3_2)), (ax5_3_4, .inl (cx5_3_4, 36, .inl fx5_3_4)), (ax5_3_5, .inl (cx5_3_5, 36, .inr (.inl fx5_3_5)))]) [2, 3, 4, 0, 1] rfl
              have hD9 := hD.sub (ws' := [(h0, .inr (10, [.ref ax10_0, .int xx10_1, .ref ox10_2, .ref ox10_3, .ref ox10_4, .ref ox10_5, .ref ox10_6, .ref ox10_7, .ref ox10_8, .ref ox10_9, .ref ox10_10, .ref ox10_11, .ref ox10_12, .ref ox10_13, .ref ox10_14, .ref ox10_15])), (ox10_3, .inr (5, [.int xx5_3_0, .int xx5_3_1, .ref ax5_3_2, .ref ax5_3_3, .ref ax5_3_4, .ref ax5_3_5, .ref ax5_3_6, .ref ax5_3_7, .ref ax5_3_8, .ref ax5_3_9, .ref ax5_3_10, .ref ax5_3_11, .ref ax5_3_12, .ref ax5_3_13, .ref ax5_3_14, .ref ax5_3_15, .ref ax5_3_16])), (ax5_3_2, .inl (cx5_3_2, 6, .inl fx5_3_2)), (ax5_3_4, .inl (cx5_3_4, 36, .inl fx5_3_4)), (ax5_3_5, .inl (cx5_3_5, 36, .inr (.inl fx5_3_5)))]) [2, 3, 4, 0, 1] (by decide) rfl
              have hK9 := hK.sub (tys' := [(cx5_3_2, .int), (cx5_3_4, .int), (cx5_3_5, .long)]) [0, 1, 2] rfl
              refine W.widen (k := 0) (n := 0) (Nat.le_of_ble_eq_true rfl) (Nat.le_of_ble_eq_true rfl) ?_
              exact W.iret (v := (-1)) hx hb hr (fun t ht hW => ⟨⟨(-1), (), rfl, trivial, by rw [ht]; exact hP9, va_K.moved hW.alike hK9, hD9⟩, hS.F ht⟩) hS.2.2 dX10_record_100
          · refine lv_iconst (v := (-1)) hx hb dX10_record_38 (by decide) ?_
            have hP9 := hP.sub (ws' := [(h0, .inr (10, [.ref ax10_0, .int xx10_1, .ref ox10_2, .ref ox10_3, .ref ox10_4, .ref ox10_5, .ref ox10_6, .ref ox10_7, .ref ox10_8, .ref ox10_9, .ref ox10_10, .ref ox10_11, .ref ox10_12, .ref ox10_13, .ref ox10_14, .ref ox10_15])), (ox10_3, .inr (5, [.int xx5_3_0, .int xx5_3_1, .ref ax5_3_2, .ref ax5_3_3, .ref ax5_3_4, .ref ax5_3_5, .ref ax5_3_6, .ref ax5_3_7, .ref ax5_3_8, .ref ax5_3_9, .ref ax5_3_10, .ref ax5_3_11, .ref ax5_3_12, .ref ax5_3_13, .ref ax5_3_14, .ref ax5_3_15, .ref ax5_3_16])), (ax5_3_2, .inl (cx5_3_2, 6, .inl fx5_3_2)), (ax5_3_4, .inl (cx5_3_4, 36, .inl fx5_3_4)), (ax5_3_5, .inl (cx5_3_5, 36, .inr (.inl fx5_3_5)))]) [2, 3, 4, 0, 1] rfl
            have hD9 := hD.sub (ws' := [(h0, .inr (10, [.ref ax10_0, .int xx10_1, .ref ox10_2, .ref ox10_3, .ref ox10_4, .ref ox10_5, .ref ox10_6, .ref ox10_7, .ref ox10_8, .ref ox10_9, .ref ox10_10, .ref ox10_11, .ref ox10_12, .ref ox10_13, .ref ox10_14, .ref ox10_15])), (ox10_3, .inr (5, [.int xx5_3_0, .int xx5_3_1, .ref ax5_3_2, .ref ax5_3_3, .ref ax5_3_4, .ref ax5_3_5, .ref ax5_3_6, .ref ax5_3_7, .ref ax5_3_8, .ref ax5_3_9, .ref ax5_3_10, .ref ax5_3_11, .ref ax5_3_12, .ref ax5_3_13, .ref ax5_3_14, .ref ax5_3_15, .ref ax5_3_16])), (ax5_3_2, .inl (cx5_3_2, 6, .inl fx5_3_2)), (ax5_3_4, .inl (cx5_3_4, 36, .inl fx5_3_4)), (ax5_3_5, .inl (cx5_3_5, 36, .inr (.inl fx5_3_5)))]) [2, 3, 4, 0, 1] (by decide) rfl
            have hK9 := hK.sub (tys' := [(cx5_3_2, .int), (cx5_3_4, .int), (cx5_3_5, .long)]) [0, 1, 2] rfl
            refine W.widen (k := 0) (n := 0) (Nat.le_of_ble_eq_true rfl) (Nat.le_of_ble_eq_true rfl) ?_
            exact W.iret (v := (-1)) hx hb hr (fun t ht hW => ⟨⟨(-1), (), rfl, trivial, by rw [ht]; exact hP9, va_K.moved hW.alike hK9, hD9⟩, hS.F ht⟩) hS.2.2 dX10_record_39
      · refine lv_iload hx hb dX10_record_25 (lv_at hl 0 rfl) ?_
        have hP9 := hP.sub (ws' := [(h0, .inr (10, [.ref ax10_0, .int xx10_1, .ref ox10_2, .ref ox10_3, .ref ox10_4, .ref ox10_5, .ref ox10_6, .ref ox10_7, .ref ox10_8, .ref ox10_9, .ref ox10_10, .ref ox10_11, .ref ox10_12, .ref ox10_13, .ref ox10_14, .ref ox10_15])), (ox10_3, .inr (5, [.int xx5_3_0, .int xx5_3_1, .ref ax5_3_2, .ref ax5_3_3, .ref ax5_3_4, .ref ax5_3_5, .ref ax5_3_6, .ref ax5_3_7, .ref ax5_3_8, .ref ax5_3_9, .ref ax5_3_10, .ref ax5_3_11, .ref ax5_3_12, .ref ax5_3_13, .ref ax5_3_14, .ref ax5_3_15, .ref ax5_3_16])), (ax5_3_2, .inl (cx5_3_2, 6, .inl fx5_3_2)), (ax5_3_4, .inl (cx5_3_4, 36, .inl fx5_3_4)), (ax5_3_5, .inl (cx5_3_5, 36, .inr (.inl fx5_3_5)))]) [2, 3, 4, 0, 1] rfl
        have hD9 := hD.sub (ws' := [(h0, .inr (10, [.ref ax10_0, .int xx10_1, .ref ox10_2, .ref ox10_3, .ref ox10_4, .ref ox10_5, .ref ox10_6, .ref ox10_7, .ref ox10_8, .ref ox10_9, .ref ox10_10, .ref ox10_11, .ref ox10_12, .ref ox10_13, .ref ox10_14, .ref ox10_15])), (ox10_3, .inr (5, [.int xx5_3_0, .int xx5_3_1, .ref ax5_3_2, .ref ax5_3_3, .ref ax5_3_4, .ref ax5_3_5, .ref ax5_3_6, .ref ax5_3_7, .ref ax5_3_8, .ref ax5_3_9, .ref ax5_3_10, .ref ax5_3_11, .ref ax5_3_12, .ref ax5_3_13, .ref ax5_3_14, .ref ax5_3_15, .ref ax5_3_16])), (ax5_3_2, .inl (cx5_3_2, 6, .inl fx5_3_2)), (ax5_3_4, .inl (cx5_3_4, 36, .inl fx5_3_4)), (ax5_3_5, .inl (cx5_3_5, 36, .inr (.inl fx5_3_5)))]) [2, 3, 4, 0, 1] (by decide) rfl
        have hK9 := hK.sub (tys' := [(cx5_3_2, .int), (cx5_3_4, .int), (cx5_3_5, .long)]) [0, 1, 2] rfl
        refine W.widen (k := 0) (n := 0) (Nat.le_of_ble_eq_true rfl) (Nat.le_of_ble_eq_true rfl) ?_
        exact W.iret (v := r_6) hx hb hr (fun t ht hW => ⟨⟨r_6, (), rfl, trivial, by rw [ht]; exact hP9, va_K.moved hW.alike hK9, hD9⟩, hS.F ht⟩) hS.2.2 dX10_record_27
    · refine lv_istore (lv' := [(4, .int 0), (0, .ref h0), (1, .int p0), (2, .int p1), (3, .int p2)]) hx hb dX10_record_18 hl (by decide) rfl (fun ls hl => ?_)
      refine lv_iload_n hx hb dX10_record_20 rfl (lv_at hl 3 rfl) ?_
      refine lv_iconst (v := (-1)) hx hb dX10_record_21 (by decide) ?_
      refine lv_icmp_ne (tgt := 28) hx hb dX10_record_22 (by decide) (fun c_23 => ?_) (fun c_23 => ?_)
      · refine lv_iload_n hx hb dX10_record_28 rfl (lv_at hl 3 rfl) ?_
        refine lv_if_lt (tgt := 38) hx hb dX10_record_29 (by decide) (fun c_24 => ?_) (fun c_24 => ?_)
        · refine lv_iconst (v := (-1)) hx hb dX10_record_38 (by decide) ?_
          have hP9 := hP.sub (ws' := [(h0, .inr (10, [.ref ax10_0, .int xx10_1, .ref ox10_2, .ref ox10_3, .ref ox10_4, .ref ox10_5, .ref ox10_6, .ref ox10_7, .ref ox10_8, .ref ox10_9, .ref ox10_10, .ref ox10_11, .ref ox10_12, .ref ox10_13, .ref ox10_14, .ref ox10_15])), (ox10_3, .inr (5, [.int xx5_3_0, .int xx5_3_1, .ref ax5_3_2, .ref ax5_3_3, .ref ax5_3_4, .ref ax5_3_5, .ref ax5_3_6, .ref ax5_3_7, .ref ax5_3_8, .ref ax5_3_9, .ref ax5_3_10, .ref ax5_3_11, .ref ax5_3_12, .ref ax5_3_13, .ref ax5_3_14, .ref ax5_3_15, .ref ax5_3_16])), (ax5_3_2, .inl (cx5_3_2, 6, .inl fx5_3_2)), (ax5_3_4, .inl (cx5_3_4, 36, .inl fx5_3_4)), (ax5_3_5, .inl (cx5_3_5, 36, .inr (.inl fx5_3_5)))]) [2, 3, 4, 0, 1] rfl
          have hD9 := hD.sub (ws' := [(h0, .inr (10, [.ref ax10_0, .int xx10_1, .ref ox10_2, .ref ox10_3, .ref ox10_4, .ref ox10_5, .ref ox10_6, .ref ox10_7, .ref ox10_8, .ref ox10_9, .ref ox10_10, .ref ox10_11, .ref ox10_12, .ref ox10_13, .ref ox10_14, .ref ox10_15])), (ox10_3, .inr (5, [.int xx5_3_0, .int xx5_3_1, .ref ax5_3_2, .ref ax5_3_3, .ref ax5_3_4, .ref ax5_3_5, .ref ax5_3_6, .ref ax5_3_7, .ref ax5_3_8, .ref ax5_3_9, .ref ax5_3_10, .ref ax5_3_11, .ref ax5_3_12, .ref ax5_3_13, .ref ax5_3_14, .ref ax5_3_15, .ref ax5_3_16])), (ax5_3_2, .inl (cx5_3_2, 6, .inl fx5_3_2)), (ax5_3_4, .inl (cx5_3_4, 36, .inl fx5_3_4)), (ax5_3_5, .inl (cx5_3_5, 36, .inr (.inl fx5_3_5)))]) [2, 3, 4, 0, 1] (by decide) rfl
          have hK9 := hK.sub (tys' := [(cx5_3_2, .int), (cx5_3_4, .int), (cx5_3_5, .long)]) [0, 1, 2] rfl
          refine W.widen (k := 0) (n := 0) (Nat.le_of_ble_eq_true rfl) (Nat.le_of_ble_eq_true rfl) ?_
          exact W.iret (v := (-1)) hx hb hr (fun t ht hW => ⟨⟨(-1), (), rfl, trivial, by rw [ht]; exact hP9, va_K.moved hW.alike hK9, hD9⟩, hS.F ht⟩) hS.2.2 dX10_record_39
        · refine lv_iload_n hx hb dX10_record_32 rfl (lv_at hl 3 rfl) ?_
          refine lv_iload hx hb dX10_record_33 (lv_at hl 0 rfl) ?_
          refine lv_icmp_lt (tgt := 40) hx hb dX10_record_35 (by decide) (fun c_25 => False.elim (by have a0 := il_nlt c_24; have a1 := il_lt c_25; have e0 : (0 : Int32).toInt = 0 := (by decide); omega)) (fun c_25 => ?_)
          refine lv_iconst (v := (-1)) hx hb dX10_record_38 (by decide) ?_
          have hP9 := hP.sub (ws' := [(h0, .inr (10, [.ref ax10_0, .int xx10_1, .ref ox10_2, .ref ox10_3, .ref ox10_4, .ref ox10_5, .ref ox10_6, .ref ox10_7, .ref ox10_8, .ref ox10_9, .ref ox10_10, .ref ox10_11, .ref ox10_12, .ref ox10_13, .ref ox10_14, .ref ox10_15])), (ox10_3, .inr (5, [.int xx5_3_0, .int xx5_3_1, .ref ax5_3_2, .ref ax5_3_3, .ref ax5_3_4, .ref ax5_3_5, .ref ax5_3_6, .ref ax5_3_7, .ref ax5_3_8, .ref ax5_3_9, .ref ax5_3_10, .ref ax5_3_11, .ref ax5_3_12, .ref ax5_3_13, .ref ax5_3_14, .ref ax5_3_15, .ref ax5_3_16])), (ax5_3_2, .inl (cx5_3_2, 6, .inl fx5_3_2)), (ax5_3_4, .inl (cx5_3_4, 36, .inl fx5_3_4)), (ax5_3_5, .inl (cx5_3_5, 36, .inr (.inl fx5_3_5)))]) [2, 3, 4, 0, 1] rfl
          have hD9 := hD.sub (ws' := [(h0, .inr (10, [.ref ax10_0, .int xx10_1, .ref ox10_2, .ref ox10_3, .ref ox10_4, .ref ox10_5, .ref ox10_6, .ref ox10_7, .ref ox10_8, .ref ox10_9, .ref ox10_10, .ref ox10_11, .ref ox10_12, .ref ox10_13, .ref ox10_14, .ref ox10_15])), (ox10_3, .inr (5, [.int xx5_3_0, .int xx5_3_1, .ref ax5_3_2, .ref ax5_3_3, .ref ax5_3_4, .ref ax5_3_5, .ref ax5_3_6, .ref ax5_3_7, .ref ax5_3_8, .ref ax5_3_9, .ref ax5_3_10, .ref ax5_3_11, .ref ax5_3_12, .ref ax5_3_13, .ref ax5_3_14, .ref ax5_3_15, .ref ax5_3_16])), (ax5_3_2, .inl (cx5_3_2, 6, .inl fx5_3_2)), (ax5_3_4, .inl (cx5_3_4, 36, .inl fx5_3_4)), (ax5_3_5, .inl (cx5_3_5, 36, .inr (.inl fx5_3_5)))]) [2, 3, 4, 0, 1] (by decide) rfl
          have hK9 := hK.sub (tys' := [(cx5_3_2, .int), (cx5_3_4, .int), (cx5_3_5, .long)]) [0, 1, 2] rfl
          refine W.widen (k := 0) (n := 0) (Nat.le_of_ble_eq_true rfl) (Nat.le_of_ble_eq_true rfl) ?_
          exact W.iret (v := (-1)) hx hb hr (fun t ht hW => ⟨⟨(-1), (), rfl, trivial, by rw [ht]; exact hP9, va_K.moved hW.alike hK9, hD9⟩, hS.F ht⟩) hS.2.2 dX10_record_39
      · refine lv_iload hx hb dX10_record_25 (lv_at hl 0 rfl) ?_
        have hP9 := hP.sub (ws' := [(h0, .inr (10, [.ref ax10_0, .int xx10_1, .ref ox10_2, .ref ox10_3, .ref ox10_4, .ref ox10_5, .ref ox10_6, .ref ox10_7, .ref ox10_8, .ref ox10_9, .ref ox10_10, .ref ox10_11, .ref ox10_12, .ref ox10_13, .ref ox10_14, .ref ox10_15])), (ox10_3, .inr (5, [.int xx5_3_0, .int xx5_3_1, .ref ax5_3_2, .ref ax5_3_3, .ref ax5_3_4, .ref ax5_3_5, .ref ax5_3_6, .ref ax5_3_7, .ref ax5_3_8, .ref ax5_3_9, .ref ax5_3_10, .ref ax5_3_11, .ref ax5_3_12, .ref ax5_3_13, .ref ax5_3_14, .ref ax5_3_15, .ref ax5_3_16])), (ax5_3_2, .inl (cx5_3_2, 6, .inl fx5_3_2)), (ax5_3_4, .inl (cx5_3_4, 36, .inl fx5_3_4)), (ax5_3_5, .inl (cx5_3_5, 36, .inr (.inl fx5_3_5)))]) [2, 3, 4, 0, 1] rfl
        have hD9 := hD.sub (ws' := [(h0, .inr (10, [.ref ax10_0, .int xx10_1, .ref ox10_2, .ref ox10_3, .ref ox10_4, .ref ox10_5, .ref ox10_6, .ref ox10_7, .ref ox10_8, .ref ox10_9, .ref ox10_10, .ref ox10_11, .ref ox10_12, .ref ox10_13, .ref ox10_14, .ref ox10_15])), (ox10_3, .inr (5, [.int xx5_3_0, .int xx5_3_1, .ref ax5_3_2, .ref ax5_3_3, .ref ax5_3_4, .ref ax5_3_5, .ref ax5_3_6, .ref ax5_3_7, .ref ax5_3_8, .ref ax5_3_9, .ref ax5_3_10, .ref ax5_3_11, .ref ax5_3_12, .ref ax5_3_13, .ref ax5_3_14, .ref ax5_3_15, .ref ax5_3_16])), (ax5_3_2, .inl (cx5_3_2, 6, .inl fx5_3_2)), (ax5_3_4, .inl (cx5_3_4, 36, .inl fx5_3_4)), (ax5_3_5, .inl (cx5_3_5, 36, .inr (.inl fx5_3_5)))]) [2, 3, 4, 0, 1] (by decide) rfl
        have hK9 := hK.sub (tys' := [(cx5_3_2, .int), (cx5_3_4, .int), (cx5_3_5, .long)]) [0, 1, 2] rfl
        refine W.widen (k := 0) (n := 0) (Nat.le_of_ble_eq_true rfl) (Nat.le_of_ble_eq_true rfl) ?_
        exact W.iret (v := 0) hx hb hr (fun t ht hW => ⟨⟨0, (), rfl, trivial, by rw [ht]; exact hP9, va_K.moved hW.alike hK9, hD9⟩, hS.F ht⟩) hS.2.2 dX10_record_27
