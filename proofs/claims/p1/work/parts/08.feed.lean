theorem dX10_feed_0 : decode cX10_feed 0 = .ok (.aload_n 0, 1) := by decide +kernel
theorem dX10_feed_1 : decode cX10_feed 1 = .ok (.getfield 13, 3) := by decide +kernel
theorem dX10_feed_4 : decode cX10_feed 4 = .ok (.bipush 20, 2) := by decide +kernel
theorem dX10_feed_6 : decode cX10_feed 6 = .ok (.iadd, 1) := by decide +kernel
theorem dX10_feed_7 : decode cX10_feed 7 = .ok (.sipush 1000, 3) := by decide +kernel
theorem dX10_feed_10 : decode cX10_feed 10 = .ok (.if_icmp .le 5, 3) := by decide +kernel
theorem dX10_feed_15 : decode cX10_feed 15 = .ok (.aload_n 0, 1) := by decide +kernel
theorem dX10_feed_16 : decode cX10_feed 16 = .ok (.iload_n 1, 1) := by decide +kernel
theorem dX10_feed_17 : decode cX10_feed 17 = .ok (.invokevirtual 111, 3) := by decide +kernel
theorem dX10_feed_20 : decode cX10_feed 20 = .ok (.aload_n 0, 1) := by decide +kernel
theorem dX10_feed_21 : decode cX10_feed 21 = .ok (.iload_n 2, 1) := by decide +kernel
theorem dX10_feed_22 : decode cX10_feed 22 = .ok (.invokevirtual 111, 3) := by decide +kernel
theorem dX10_feed_25 : decode cX10_feed 25 = .ok (.aload_n 0, 1) := by decide +kernel
theorem dX10_feed_26 : decode cX10_feed 26 = .ok (.iload_n 3, 1) := by decide +kernel
theorem dX10_feed_27 : decode cX10_feed 27 = .ok (.invokevirtual 111, 3) := by decide +kernel
theorem dX10_feed_30 : decode cX10_feed 30 = .ok (.aload_n 0, 1) := by decide +kernel
theorem dX10_feed_31 : decode cX10_feed 31 = .ok (.iload 4, 2) := by decide +kernel
theorem dX10_feed_33 : decode cX10_feed 33 = .ok (.invokevirtual 111, 3) := by decide +kernel
theorem dX10_feed_36 : decode cX10_feed 36 = .ok (.aload_n 0, 1) := by decide +kernel
theorem dX10_feed_37 : decode cX10_feed 37 = .ok (.iload 5, 2) := by decide +kernel
theorem dX10_feed_39 : decode cX10_feed 39 = .ok (.invokevirtual 111, 3) := by decide +kernel
theorem dX10_feed_42 : decode cX10_feed 42 = .ok (.aload_n 0, 1) := by decide +kernel
theorem dX10_feed_43 : decode cX10_feed 43 = .ok (.getfield 13, 3) := by decide +kernel
theorem dX10_feed_46 : decode cX10_feed 46 = .ok (.ireturn, 1) := by decide +kernel
theorem dX10_feedFour_0 : decode cX10_feedFour 0 = .ok (.bipush 24, 2) := by decide +kernel
theorem dX10_feedFour_2 : decode cX10_feedFour 2 = .ok (.istore_n 2, 1) := by decide +kernel
theorem dX10_feedFour_3 : decode cX10_feedFour 3 = .ok (.iload_n 2, 1) := by decide +kernel
theorem dX10_feedFour_4 : decode cX10_feedFour 4 = .ok (.ifCond .lt 42, 3) := by decide +kernel
theorem dX10_feedFour_7 : decode cX10_feedFour 7 = .ok (.aload_n 0, 1) := by decide +kernel
theorem dX10_feedFour_8 : decode cX10_feedFour 8 = .ok (.getfield 13, 3) := by decide +kernel
theorem dX10_feedFour_11 : decode cX10_feedFour 11 = .ok (.sipush 1000, 3) := by decide +kernel
theorem dX10_feedFour_14 : decode cX10_feedFour 14 = .ok (.if_icmp .ge 26, 3) := by decide +kernel
theorem dX10_feedFour_17 : decode cX10_feedFour 17 = .ok (.aload_n 0, 1) := by decide +kernel
theorem dX10_feedFour_18 : decode cX10_feedFour 18 = .ok (.getfield 9, 3) := by decide +kernel
theorem dX10_feedFour_21 : decode cX10_feedFour 21 = .ok (.aload_n 0, 1) := by decide +kernel
theorem dX10_feedFour_22 : decode cX10_feedFour 22 = .ok (.getfield 13, 3) := by decide +kernel
theorem dX10_feedFour_25 : decode cX10_feedFour 25 = .ok (.iload_n 1, 1) := by decide +kernel
theorem dX10_feedFour_26 : decode cX10_feedFour 26 = .ok (.iload_n 2, 1) := by decide +kernel
theorem dX10_feedFour_27 : decode cX10_feedFour 27 = .ok (.ishr, 1) := by decide +kernel
theorem dX10_feedFour_28 : decode cX10_feedFour 28 = .ok (.i2b, 1) := by decide +kernel
theorem dX10_feedFour_29 : decode cX10_feedFour 29 = .ok (.bastore, 1) := by decide +kernel
theorem dX10_feedFour_30 : decode cX10_feedFour 30 = .ok (.aload_n 0, 1) := by decide +kernel
theorem dX10_feedFour_31 : decode cX10_feedFour 31 = .ok (.dup, 1) := by decide +kernel
theorem dX10_feedFour_32 : decode cX10_feedFour 32 = .ok (.getfield 13, 3) := by decide +kernel
theorem dX10_feedFour_35 : decode cX10_feedFour 35 = .ok (.iconst 1, 1) := by decide +kernel
theorem dX10_feedFour_36 : decode cX10_feedFour 36 = .ok (.iadd, 1) := by decide +kernel
theorem dX10_feedFour_37 : decode cX10_feedFour 37 = .ok (.putfield 13, 3) := by decide +kernel
theorem dX10_feedFour_40 : decode cX10_feedFour 40 = .ok (.iinc 2 (-8), 3) := by decide +kernel
theorem dX10_feedFour_43 : decode cX10_feedFour 43 = .ok (.goto (-40), 3) := by decide +kernel
theorem dX10_feedFour_46 : decode cX10_feedFour 46 = .ok (.return_, 1) := by decide +kernel
theorem dX11_feed_0 : decode cX11_feed 0 = .ok (.aload_n 0, 1) := by decide +kernel
theorem dX11_feed_1 : decode cX11_feed 1 = .ok (.iconst 0, 1) := by decide +kernel
theorem dX11_feed_2 : decode cX11_feed 2 = .ok (.putfield 178, 3) := by decide +kernel
theorem dX11_feed_5 : decode cX11_feed 5 = .ok (.aload_n 0, 1) := by decide +kernel
theorem dX11_feed_6 : decode cX11_feed 6 = .ok (.getfield 182, 3) := by decide +kernel
theorem dX11_feed_9 : decode cX11_feed 9 = .ok (.bipush 20, 2) := by decide +kernel
theorem dX11_feed_11 : decode cX11_feed 11 = .ok (.iadd, 1) := by decide +kernel
theorem dX11_feed_12 : decode cX11_feed 12 = .ok (.sipush 1000, 3) := by decide +kernel
theorem dX11_feed_15 : decode cX11_feed 15 = .ok (.if_icmp .le 5, 3) := by decide +kernel
theorem dX11_feed_20 : decode cX11_feed 20 = .ok (.aload_n 0, 1) := by decide +kernel
theorem dX11_feed_21 : decode cX11_feed 21 = .ok (.iload_n 1, 1) := by decide +kernel
theorem dX11_feed_22 : decode cX11_feed 22 = .ok (.invokevirtual 185, 3) := by decide +kernel
theorem dX11_feed_25 : decode cX11_feed 25 = .ok (.aload_n 0, 1) := by decide +kernel
theorem dX11_feed_26 : decode cX11_feed 26 = .ok (.iload_n 2, 1) := by decide +kernel
theorem dX11_feed_27 : decode cX11_feed 27 = .ok (.invokevirtual 185, 3) := by decide +kernel
theorem dX11_feed_30 : decode cX11_feed 30 = .ok (.aload_n 0, 1) := by decide +kernel
theorem dX11_feed_31 : decode cX11_feed 31 = .ok (.iload_n 3, 1) := by decide +kernel
theorem dX11_feed_32 : decode cX11_feed 32 = .ok (.invokevirtual 185, 3) := by decide +kernel
theorem dX11_feed_35 : decode cX11_feed 35 = .ok (.aload_n 0, 1) := by decide +kernel
theorem dX11_feed_36 : decode cX11_feed 36 = .ok (.iload 4, 2) := by decide +kernel
theorem dX11_feed_38 : decode cX11_feed 38 = .ok (.invokevirtual 185, 3) := by decide +kernel
theorem dX11_feed_41 : decode cX11_feed 41 = .ok (.aload_n 0, 1) := by decide +kernel
theorem dX11_feed_42 : decode cX11_feed 42 = .ok (.iload 5, 2) := by decide +kernel
theorem dX11_feed_44 : decode cX11_feed 44 = .ok (.invokevirtual 185, 3) := by decide +kernel
theorem dX11_feed_47 : decode cX11_feed 47 = .ok (.aload_n 0, 1) := by decide +kernel
theorem dX11_feed_48 : decode cX11_feed 48 = .ok (.getfield 182, 3) := by decide +kernel
theorem dX11_feed_51 : decode cX11_feed 51 = .ok (.ireturn, 1) := by decide +kernel
theorem dX11_puts_0 : decode cX11_puts 0 = .ok (.bipush 24, 2) := by decide +kernel
theorem dX11_puts_2 : decode cX11_puts 2 = .ok (.istore_n 2, 1) := by decide +kernel
theorem dX11_puts_3 : decode cX11_puts 3 = .ok (.iload_n 2, 1) := by decide +kernel
theorem dX11_puts_4 : decode cX11_puts 4 = .ok (.ifCond .lt 32, 3) := by decide +kernel
theorem dX11_puts_7 : decode cX11_puts 7 = .ok (.aload_n 0, 1) := by decide +kernel
theorem dX11_puts_8 : decode cX11_puts 8 = .ok (.getfield 7, 3) := by decide +kernel
theorem dX11_puts_11 : decode cX11_puts 11 = .ok (.aload_n 0, 1) := by decide +kernel
theorem dX11_puts_12 : decode cX11_puts 12 = .ok (.getfield 182, 3) := by decide +kernel
theorem dX11_puts_15 : decode cX11_puts 15 = .ok (.iload_n 1, 1) := by decide +kernel
theorem dX11_puts_16 : decode cX11_puts 16 = .ok (.iload_n 2, 1) := by decide +kernel
theorem dX11_puts_17 : decode cX11_puts 17 = .ok (.ishr, 1) := by decide +kernel
theorem dX11_puts_18 : decode cX11_puts 18 = .ok (.i2b, 1) := by decide +kernel
theorem dX11_puts_19 : decode cX11_puts 19 = .ok (.bastore, 1) := by decide +kernel
theorem dX11_puts_20 : decode cX11_puts 20 = .ok (.aload_n 0, 1) := by decide +kernel
theorem dX11_puts_21 : decode cX11_puts 21 = .ok (.dup, 1) := by decide +kernel
theorem dX11_puts_22 : decode cX11_puts 22 = .ok (.getfield 182, 3) := by decide +kernel
theorem dX11_puts_25 : decode cX11_puts 25 = .ok (.iconst 1, 1) := by decide +kernel
theorem dX11_puts_26 : decode cX11_puts 26 = .ok (.iadd, 1) := by decide +kernel
theorem dX11_puts_27 : decode cX11_puts 27 = .ok (.putfield 182, 3) := by decide +kernel
theorem dX11_puts_30 : decode cX11_puts 30 = .ok (.iinc 2 (-8), 3) := by decide +kernel
theorem dX11_puts_33 : decode cX11_puts 33 = .ok (.goto (-30), 3) := by decide +kernel
theorem dX11_puts_36 : decode cX11_puts 36 = .ok (.return_, 1) := by decide +kernel
set_option maxRecDepth 100000 in
set_option maxHeartbeats 4000000 in
theorem c_feedFour0 (l : Launch) (dC : Nat → ClassId) (dI : Nat → Nat → Nat) (h0 : Nat) (h1 : Nat) (cA : ClassId) (f : Nat → Int32) (g : Nat → Value) (p0 : Int32) (sz : Nat) : Met l yX10_feedFour (.code yX10_feedFour cX10_feedFour 3 none :: pw) ({ frames := 0, cells := 0, slots := 0, locals := 0 }) (va_Pc [.ref h0, .int p0] (vPre dC dI [(h0, .inr (10, [.ref h1, .int 0, (g 2), (g 3), (g 4), (g 5), (g 6), (g 7), (g 8), (g 9), (g 10), (g 11), (g 12), (g 13), (g 14), (g 15)])), (h1, .inl (cA, 1000, .inl f))] [(cA, .byte)] sz)) (va_Qv (fun (_ : Unit) => True) (fun (_ : Unit) t => ∃ (f9 : Nat → Int32), vPst dC dI (va_A [(h0, .inr (10, [.ref h1, .int 0, (g 2), (g 3), (g 4), (g 5), (g 6), (g 7), (g 8), (g 9), (g 10), (g 11), (g 12), (g 13), (g 14), (g 15)])), (h1, .inl (cA, 1000, .inl f))] sz) [(h0, .inr (10, [.ref h1, .int 4, (g 2), (g 3), (g 4), (g 5), (g 6), (g 7), (g 8), (g 9), (g 10), (g 11), (g 12), (g 13), (g 14), (g 15)])), (h1, .inl (cA, 1000, .inl f9))] [(cA, .byte)] t) (va_A [(h0, .inr (10, [.ref h1, .int 0, (g 2), (g 3), (g 4), (g 5), (g 6), (g 7), (g 8), (g 9), (g 10), (g 11), (g 12), (g 13), (g 14), (g 15)])), (h1, .inl (cA, 1000, .inl f))] sz)) 0 0 (va_A [(h0, .inr (10, [.ref h1, .int 0, (g 2), (g 3), (g 4), (g 5), (g 6), (g 7), (g 8), (g 9), (g 10), (g 11), (g 12), (g 13), (g 14), (g 15)])), (h1, .inl (cA, 1000, .inl f))] sz) := by
  refine Met.ofW (cc := cX10_feedFour) (maxL := 3) (ret := none) (by decide) rfl ?_
  intro p e s m args below meth c s₁ B hml hv
  obtain ⟨rfl, hsz, hP, hK, hD0⟩ := hv
  have hx := B.exec
  have hb := B.bytes
  have hr := B.returns
  have hts := atoms_spec (ws := .code yX10_feedFour cX10_feedFour 3 none :: pw) B.pre
  have hts : ∀ w ∈ pw, w.before _ s = true := fun w h => hts w (List.mem_cons_of_mem _ h)
  have hown : s.vm.findClass RX10 = some m.cls := findClass_of_methodNamed B.named
  have hlocks := B.notSynchronized
  subst hsz
  have hD := hD0.self (sz := s.heap.size)
  generalize hAe : va_A [(h0, .inr (10, [.ref h1, .int 0, (g 2), (g 3), (g 4), (g 5), (g 6), (g 7), (g 8), (g 9), (g 10), (g 11), (g 12), (g 13), (g 14), (g 15)])), (h1, .inl (cA, 1000, .inl f))] s.heap.size = A at hD ⊢
  have hA : ∀ q : Nat, s.heap.size ≤ q → A q := fun q h => by rw [← hAe]; exact Or.inr h
  have hS : va_S A s.heap s.heap [] := va_S.rf
  have hP : va_P (dC, dI) vwCl [(h0, .inr (10, [.ref h1, .int 0, (g 2), (g 3), (g 4), (g 5), (g 6), (g 7), (g 8), (g 9), (g 10), (g 11), (g 12), (g 13), (g 14), (g 15)])), (h1, .inl (cA, 1000, .inl f))] s.heap := hP
  have hl := lv_entry ([.ref h0, .int p0]) (n := 3) (Nat.le_of_ble_eq_true rfl)
  rw [lg_entry_eq]
  generalize (lg_sl ([.ref h0, .int p0]) ++ List.replicate (3 - (lg_sl ([.ref h0, .int p0])).length) Slot.unset).toArray = ls at hl ⊢
  have hl : lv_has ls 3 [(0, .ref h0), (1, .int p0)] := hl
  refine lv_bipush (v := 24) hx hb dX10_feedFour_0 (by decide) ?_
  refine lv_istore_n (lv' := [(2, .int 24), (0, .ref h0), (1, .int p0)]) hx hb dX10_feedFour_2 rfl hl (by decide) rfl (fun ls hl => ?_)
  refine lv_iload_n hx hb dX10_feedFour_3 rfl (lv_at hl 0 rfl) ?_
  refine lv_if_lt (tgt := 46) hx hb dX10_feedFour_4 (by decide) (fun h => absurd h (by decide)) (fun _ => ?_)
  refine lv_aload_n hx hb dX10_feedFour_7 rfl (lv_at hl 1 rfl) ?_
  refine va_get (D := (dC, dI)) (ci := 10) (v := .int 0) (C := RX10) (T := TX10) (N := 16) hx hb hts inlX10 hown hK hP 0 rfl rfl 1 (by decide) (hts (.fieldLink RX10 13 "ShapeReader" "tapeSize" "I") mw_0_19) (fun _ h9 => h9) rfl dX10_feedFour_8 ?_
  refine lv_sipush (v := 1000) hx hb dX10_feedFour_11 (by decide) ?_
  refine lv_icmp_ge (tgt := 40) hx hb dX10_feedFour_14 (by decide) (fun h => absurd h (by decide)) (fun _ => ?_)
  refine lv_aload_n hx hb dX10_feedFour_17 rfl (lv_at hl 1 rfl) ?_
  refine va_get (D := (dC, dI)) (ci := 10) (v := .ref h1) (C := RX10) (T := TX10) (N := 16) hx hb hts inlX10 hown hK hP 0 rfl rfl 0 (by decide) (hts (.fieldLink RX10 9 "ShapeReader" "tape" "[B") mw_0_18) (fun _ h9 => h9) rfl dX10_feedFour_18 ?_
  refine lv_aload_n hx hb dX10_feedFour_21 rfl (lv_at hl 1 rfl) ?_
  refine va_get (D := (dC, dI)) (ci := 10) (v := .int 0) (C := RX10) (T := TX10) (N := 16) hx hb hts inlX10 hown hK hP 0 rfl rfl 1 (by decide) (hts (.fieldLink RX10 13 "ShapeReader" "tapeSize" "I") mw_0_19) (fun _ h9 => h9) rfl dX10_feedFour_22 ?_
  refine lv_iload_n hx hb dX10_feedFour_25 rfl (lv_at hl 2 rfl) ?_
  refine lv_iload_n hx hb dX10_feedFour_26 rfl (lv_at hl 0 rfl) ?_
  refine lv_ishr hx hb dX10_feedFour_27 ?_
  refine lv_topi (fun x_3 ex_3 => ?_)
  refine lv_i2b (v := x_3.toInt8.toInt32) hx hb dX10_feedFour_28 rfl ?_
  generalize x_3.toInt8.toInt32 = x_4
  refine va_bast hx hb hK hP hD hS 1 0 rfl rfl (vp_in_iff.mpr (by decide)) dX10_feedFour_29 (fun H locs hP hD hS => ?_)
  obtain ⟨f_5, hP, hD⟩ : ∃ f_5 : Nat → Int32, va_P (dC, dI) vwCl [(h0, .inr (10, [.ref h1, .int 0, (g 2), (g 3), (g 4), (g 5), (g 6), (g 7), (g 8), (g 9), (g 10), (g 11), (g 12), (g 13), (g 14), (g 15)])), (h1, .inl (cA, 1000, .inl f_5))] H ∧ va_D A [(h0, .inr (10, [.ref h1, .int 0, (g 2), (g 3), (g 4), (g 5), (g 6), (g 7), (g 8), (g 9), (g 10), (g 11), (g 12), (g 13), (g 14), (g 15)])), (h1, .inl (cA, 1000, .inl f_5))] := ⟨_, hP, hD⟩
  refine lv_aload_n hx hb dX10_feedFour_30 rfl (lv_at hl 1 rfl) ?_
  refine lv_dup hx hb dX10_feedFour_31 rfl ?_
  refine va_get (D := (dC, dI)) (ci := 10) (v := .int 0) (C := RX10) (T := TX10) (N := 16) hx hb hts inlX10 hown hK hP 0 rfl rfl 1 (by decide) (hts (.fieldLink RX10 13 "ShapeReader" "tapeSize" "I") mw_0_19) (fun _ h9 => h9) rfl dX10_feedFour_32 ?_
  refine lv_iconst (v := 1) hx hb dX10_feedFour_35 (by decide) ?_
  refine lv_iadd hx hb dX10_feedFour_36 ?_
  refine lv_topi (fun k_6 ek_6 => ?_)
  obtain rfl : k_6 = 1 := ek_6.trans (by decide)
  refine va_put (D := (dC, dI)) (ci := 10) (v := .int 1) (ty := .int) (C := RX10) (T := TX10) (N := 16) hx hb hts inlX10 tyX10 tyX10_ok nmX10 hown hK hP hD hS 0 rfl rfl 1 (by decide) (hts (.fieldLink RX10 13 "ShapeReader" "tapeSize" "I") mw_0_19) (fun _ h9 => h9) rfl (by decide +kernel) rfl rfl (Nat.le_of_ble_eq_true rfl) dX10_feedFour_37 (fun H locs hP hD hS => ?_)
  have hP : va_P (dC, dI) vwCl [(h0, .inr (10, [.ref h1, .int 1, (g 2), (g 3), (g 4), (g 5), (g 6), (g 7), (g 8), (g 9), (g 10), (g 11), (g 12), (g 13), (g 14), (g 15)])), (h1, .inl (cA, 1000, .inl f_5))] H := hP
  have hD : va_D A [(h0, .inr (10, [.ref h1, .int 1, (g 2), (g 3), (g 4), (g 5), (g 6), (g 7), (g 8), (g 9), (g 10), (g 11), (g 12), (g 13), (g 14), (g 15)])), (h1, .inl (cA, 1000, .inl f_5))] := hD
  refine lv_iinc (v := 16) (lv' := [(2, .int 16), (0, .ref h0), (1, .int p0)]) hx hb dX10_feedFour_40 hl (k := 0) rfl (by decide) (by decide) rfl (fun ls hl => ?_)
  refine lv_goto (tgt := 3) hx hb dX10_feedFour_43 (by decide) ?_
  refine lv_iload_n hx hb dX10_feedFour_3 rfl (lv_at hl 0 rfl) ?_
  refine lv_if_lt (tgt := 46) hx hb dX10_feedFour_4 (by decide) (fun h => absurd h (by decide)) (fun _ => ?_)
  refine lv_aload_n hx hb dX10_feedFour_7 rfl (lv_at hl 1 rfl) ?_
  refine va_get (D := (dC, dI)) (ci := 10) (v := .int 1) (C := RX10) (T := TX10) (N := 16) hx hb hts inlX10 hown hK hP 0 rfl rfl 1 (by decide) (hts (.fieldLink RX10 13 "ShapeReader" "tapeSize" "I") mw_0_19) (fun _ h9 => h9) rfl dX10_feedFour_8 ?_
  refine lv_sipush (v := 1000) hx hb dX10_feedFour_11 (by decide) ?_
  refine lv_icmp_ge (tgt := 40) hx hb dX10_feedFour_14 (by decide) (fun h => absurd h (by decide)) (fun _ => ?_)
  refine lv_aload_n hx hb dX10_feedFour_17 rfl (lv_at hl 1 rfl) ?_
  refine va_get (D := (dC, dI)) (ci := 10) (v := .ref h1) (C := RX10) (T := TX10) (N := 16) hx hb hts inlX10 hown hK hP 0 rfl rfl 0 (by decide) (hts (.fieldLink RX10 9 "ShapeReader" "tape" "[B") mw_0_18) (fun _ h9 => h9) rfl dX10_feedFour_18 ?_
  refine lv_aload_n hx hb dX10_feedFour_21 rfl (lv_at hl 1 rfl) ?_
  refine va_get (D := (dC, dI)) (ci := 10) (v := .int 1) (C := RX10) (T := TX10) (N := 16) hx hb hts inlX10 hown hK hP 0 rfl rfl 1 (by decide) (hts (.fieldLink RX10 13 "ShapeReader" "tapeSize" "I") mw_0_19) (fun _ h9 => h9) rfl dX10_feedFour_22 ?_
  refine lv_iload_n hx hb dX10_feedFour_25 rfl (lv_at hl 2 rfl) ?_
  refine lv_iload_n hx hb dX10_feedFour_26 rfl (lv_at hl 0 rfl) ?_
  refine lv_ishr hx hb dX10_feedFour_27 ?_
  refine lv_topi (fun x_9 ex_9 => ?_)
  refine lv_i2b (v := x_9.toInt8.toInt32) hx hb dX10_feedFour_28 rfl ?_
  generalize x_9.toInt8.toInt32 = x_10
  refine va_bast hx hb hK hP hD hS 1 0 rfl rfl (vp_in_iff.mpr (by decide)) dX10_feedFour_29 (fun H locs hP hD hS => ?_)
  obtain ⟨f_11, hP, hD⟩ : ∃ f_11 : Nat → Int32, va_P (dC, dI) vwCl [(h0, .inr (10, [.ref h1, .int 1, (g 2), (g 3), (g 4), (g 5), (g 6), (g 7), (g 8), (g 9), (g 10), (g 11), (g 12), (g 13), (g 14), (g 15)])), (h1, .inl (cA, 1000, .inl f_11))] H ∧ va_D A [(h0, .inr (10, [.ref h1, .int 1, (g 2), (g 3), (g 4), (g 5), (g 6), (g 7), (g 8), (g 9), (g 10), (g 11), (g 12), (g 13), (g 14), (g 15)])), (h1, .inl (cA, 1000, .inl f_11))] := ⟨_, hP, hD⟩
  refine lv_aload_n hx hb dX10_feedFour_30 rfl (lv_at hl 1 rfl) ?_
  refine lv_dup hx hb dX10_feedFour_31 rfl ?_
  refine va_get (D := (dC, dI)) (ci := 10) (v := .int 1) (C := RX10) (T := TX10) (N := 16) hx hb hts inlX10 hown hK hP 0 rfl rfl 1 (by decide) (hts (.fieldLink RX10 13 "ShapeReader" "tapeSize" "I") mw_0_19) (fun _ h9 => h9) rfl dX10_feedFour_32 ?_
  refine lv_iconst (v := 1) hx hb dX10_feedFour_35 (by decide) ?_
  refine lv_iadd hx hb dX10_feedFour_36 ?_
  refine lv_topi (fun k_12 ek_12 => ?_)
  obtain rfl : k_12 = 2 := ek_12.trans (by decide)
  refine va_put (D := (dC, dI)) (ci := 10) (v := .int 2) (ty := .int) (C := RX10) (T := TX10) (N := 16) hx hb hts inlX10 tyX10 tyX10_ok nmX10 hown hK hP hD hS 0 rfl rfl 1 (by decide) (hts (.fieldLink RX10 13 "ShapeReader" "tapeSize" "I") mw_0_19) (fun _ h9 => h9) rfl (by decide +kernel) rfl rfl (Nat.le_of_ble_eq_true rfl) dX10_feedFour_37 (fun H locs hP hD hS => ?_)
  have hP : va_P (dC, dI) vwCl [(h0, .inr (10, [.ref h1, .int 2, (g 2), (g 3), (g 4), (g 5), (g 6), (g 7), (g 8), (g 9), (g 10), (g 11), (g 12), (g 13), (g 14), (g 15)])), (h1, .inl (cA, 1000, .inl f_11))] H := hP
  have hD : va_D A [(h0, .inr (10, [.ref h1, .int 2, (g 2), (g 3), (g 4), (g 5), (g 6), (g 7), (g 8), (g 9), (g 10), (g 11), (g 12), (g 13), (g 14), (g 15)])), (h1, .inl (cA, 1000, .inl f_11))] := hD
  refine lv_iinc (v := 8) (lv' := [(2, .int 8), (0, .ref h0), (1, .int p0)]) hx hb dX10_feedFour_40 hl (k := 0) rfl (by decide) (by decide) rfl (fun ls hl => ?_)
  refine lv_goto (tgt := 3) hx hb dX10_feedFour_43 (by decide) ?_
  refine lv_iload_n hx hb dX10_feedFour_3 rfl (lv_at hl 0 rfl) ?_
  refine lv_if_lt (tgt := 46) hx hb dX10_feedFour_4 (by decide) (fun h => absurd h (by decide)) (fun _ => ?_)
  refine lv_aload_n hx hb dX10_feedFour_7 rfl (lv_at hl 1 rfl) ?_
  refine va_get (D := (dC, dI)) (ci := 10) (v := .int 2) (C := RX10) (T := TX10) (N := 16) hx hb hts inlX10 hown hK hP 0 rfl rfl 1 (by decide) (hts (.fieldLink RX10 13 "ShapeReader" "tapeSize" "I") mw_0_19) (fun _ h9 => h9) rfl dX10_feedFour_8 ?_
  refine lv_sipush (v := 1000) hx hb dX10_feedFour_11 (by decide) ?_
  refine lv_icmp_ge (tgt := 40) hx hb dX10_feedFour_14 (by decide) (fun h => absurd h (by decide)) (fun _ => ?_)
  refine lv_aload_n hx hb dX10_feedFour_17 rfl (lv_at hl 1 rfl) ?_
  refine va_get (D := (dC, dI)) (ci := 10) (v := .ref h1) (C := RX10) (T := TX10) (N := 16) hx hb hts inlX10 hown hK hP 0 rfl rfl 0 (by decide) (hts (.fieldLink RX10 9 "ShapeReader" "tape" "[B") mw_0_18) (fun _ h9 => h9) rfl dX10_feedFour_18 ?_
  refine lv_aload_n hx hb dX10_feedFour_21 rfl (lv_at hl 1 rfl) ?_
  refine va_get (D := (dC, dI)) (ci := 10) (v := .int 2) (C := RX10) (T := TX10) (N := 16) hx hb hts inlX10 hown hK hP 0 rfl rfl 1 (by decide) (hts (.fieldLink RX10 13 "ShapeReader" "tapeSize" "I") mw_0_19) (fun _ h9 => h9) rfl dX10_feedFour_22 ?_
  refine lv_iload_n hx hb dX10_feedFour_25 rfl (lv_at hl 2 rfl) ?_
  refine lv_iload_n hx hb dX10_feedFour_26 rfl (lv_at hl 0 rfl) ?_
  refine lv_ishr hx hb dX10_feedFour_27 ?_
  refine lv_topi (fun x_15 ex_15 => ?_)
  refine lv_i2b (v := x_15.toInt8.toInt32) hx hb dX10_feedFour_28 rfl ?_
  generalize x_15.toInt8.toInt32 = x_16
  refine va_bast hx hb hK hP hD hS 1 0 rfl rfl (vp_in_iff.mpr (by decide)) dX10_feedFour_29 (fun H locs hP hD hS => ?_)
  obtain ⟨f_17, hP, hD⟩ : ∃ f_17 : Nat → Int32, va_P (dC, dI) vwCl [(h0, .inr (10, [.ref h1, .int 2, (g 2), (g 3), (g 4), (g 5), (g 6), (g 7), (g 8), (g 9), (g 10), (g 11), (g 12), (g 13), (g 14), (g 15)])), (h1, .inl (cA, 1000, .inl f_17))] H ∧ va_D A [(h0, .inr (10, [.ref h1, .int 2, (g 2), (g 3), (g 4), (g 5), (g 6), (g 7), (g 8), (g 9), (g 10), (g 11), (g 12), (g 13), (g 14), (g 15)])), (h1, .inl (cA, 1000, .inl f_17))] := ⟨_, hP, hD⟩
  refine lv_aload_n hx hb dX10_feedFour_30 rfl (lv_at hl 1 rfl) ?_
  refine lv_dup hx hb dX10_feedFour_31 rfl ?_
  refine va_get (D := (dC, dI)) (ci := 10) (v := .int 2) (C := RX10) (T := TX10) (N := 16) hx hb hts inlX10 hown hK hP 0 rfl rfl 1 (by decide) (hts (.fieldLink RX10 13 "ShapeReader" "tapeSize" "I") mw_0_19) (fun _ h9 => h9) rfl dX10_feedFour_32 ?_
  refine lv_iconst (v := 1) hx hb dX10_feedFour_35 (by decide) ?_
  refine lv_iadd hx hb dX10_feedFour_36 ?_
  refine lv_topi (fun k_18 ek_18 => ?_)
  obtain rfl : k_18 = 3 := ek_18.trans (by decide)
  refine va_put (D := (dC, dI)) (ci := 10) (v := .int 3) (ty := .int) (C := RX10) (T := TX10) (N := 16) hx hb hts inlX10 tyX10 tyX10_ok nmX10 hown hK hP hD hS 0 rfl rfl 1 (by decide) (hts (.fieldLink RX10 13 "ShapeReader" "tapeSize" "I") mw_0_19) (fun _ h9 => h9) rfl (by decide +kernel) rfl rfl (Nat.le_of_ble_eq_true rfl) dX10_feedFour_37 (fun H locs hP hD hS => ?_)
  have hP : va_P (dC, dI) vwCl [(h0, .inr (10, [.ref h1, .int 3, (g 2), (g 3), (g 4), (g 5), (g 6), (g 7), (g 8), (g 9), (g 10), (g 11), (g 12), (g 13), (g 14), (g 15)])), (h1, .inl (cA, 1000, .inl f_17))] H := hP
  have hD : va_D A [(h0, .inr (10, [.ref h1, .int 3, (g 2), (g 3), (g 4), (g 5), (g 6), (g 7), (g 8), (g 9), (g 10), (g 11), (g 12), (g 13), (g 14), (g 15)])), (h1, .inl (cA, 1000, .inl f_17))] := hD
  refine lv_iinc (v := 0) (lv' := [(2, .int 0), (0, .ref h0), (1, .int p0)]) hx hb dX10_feedFour_40 hl (k := 0) rfl (by decide) (by decide) rfl (fun ls hl => ?_)
  refine lv_goto (tgt := 3) hx hb dX10_feedFour_43 (by decide) ?_
  refine lv_iload_n hx hb dX10_feedFour_3 rfl (lv_at hl 0 rfl) ?_
  refine lv_if_lt (tgt := 46) hx hb dX10_feedFour_4 (by decide) (fun h => absurd h (by decide)) (fun _ => ?_)
  refine lv_aload_n hx hb dX10_feedFour_7 rfl (lv_at hl 1 rfl) ?_
  refine va_get (D := (dC, dI)) (ci := 10) (v := .int 3) (C := RX10) (T := TX10) (N := 16) hx hb hts inlX10 hown hK hP 0 rfl rfl 1 (by decide) (hts (.fieldLink RX10 13 "ShapeReader" "tapeSize" "I") mw_0_19) (fun _ h9 => h9) rfl dX10_feedFour_8 ?_
  refine lv_sipush (v := 1000) hx hb dX10_feedFour_11 (by decide) ?_
  refine lv_icmp_ge (tgt := 40) hx hb dX10_feedFour_14 (by decide) (fun h => absurd h (by decide)) (fun _ => ?_)
  refine lv_aload_n hx hb dX10_feedFour_17 rfl (lv_at hl 1 rfl) ?_
  refine va_get (D := (dC, dI)) (ci := 10) (v := .ref h1) (C := RX10) (T := TX10) (N := 16) hx hb hts inlX10 hown hK hP 0 rfl rfl 0 (by decide) (hts (.fieldLink RX10 9 "ShapeReader" "tape" "[B") mw_0_18) (fun _ h9 => h9) rfl dX10_feedFour_18 ?_
  refine lv_aload_n hx hb dX10_feedFour_21 rfl (lv_at hl 1 rfl) ?_
  refine va_get (D := (dC, dI)) (ci := 10) (v := .int 3) (C := RX10) (T := TX10) (N := 16) hx hb hts inlX10 hown hK hP 0 rfl rfl 1 (by decide) (hts (.fieldLink RX10 13 "ShapeReader" "tapeSize" "I") mw_0_19) (fun _ h9 => h9) rfl dX10_feedFour_22 ?_
  refine lv_iload_n hx hb dX10_feedFour_25 rfl (lv_at hl 2 rfl) ?_
  refine lv_iload_n hx hb dX10_feedFour_26 rfl (lv_at hl 0 rfl) ?_
  refine lv_ishr hx hb dX10_feedFour_27 ?_
  refine lv_topi (fun x_21 ex_21 => ?_)
  refine lv_i2b (v := x_21.toInt8.toInt32) hx hb dX10_feedFour_28 rfl ?_
  generalize x_21.toInt8.toInt32 = x_22
  refine va_bast hx hb hK hP hD hS 1 0 rfl rfl (vp_in_iff.mpr (by decide)) dX10_feedFour_29 (fun H locs hP hD hS => ?_)
  obtain ⟨f_23, hP, hD⟩ : ∃ f_23 : Nat → Int32, va_P (dC, dI) vwCl [(h0, .inr (10, [.ref h1, .int 3, (g 2), (g 3), (g 4), (g 5), (g 6), (g 7), (g 8), (g 9), (g 10), (g 11), (g 12), (g 13), (g 14), (g 15)])), (h1, .inl (cA, 1000, .inl f_23))] H ∧ va_D A [(h0, .inr (10, [.ref h1, .int 3, (g 2), (g 3), (g 4), (g 5), (g 6), (g 7), (g 8), (g 9), (g 10), (g 11), (g 12), (g 13), (g 14), (g 15)])), (h1, .inl (cA, 1000, .inl f_23))] := ⟨_, hP, hD⟩
  refine lv_aload_n hx hb dX10_feedFour_30 rfl (lv_at hl 1 rfl) ?_
  refine lv_dup hx hb dX10_feedFour_31 rfl ?_
  refine va_get (D := (dC, dI)) (ci := 10) (v := .int 3) (C := RX10) (T := TX10) (N := 16) hx hb hts inlX10 hown hK hP 0 rfl rfl 1 (by decide) (hts (.fieldLink RX10 13 "ShapeReader" "tapeSize" "I") mw_0_19) (fun _ h9 => h9) rfl dX10_feedFour_32 ?_
  refine lv_iconst (v := 1) hx hb dX10_feedFour_35 (by decide) ?_
  refine lv_iadd hx hb dX10_feedFour_36 ?_
  refine lv_topi (fun k_24 ek_24 => ?_)
  obtain rfl : k_24 = 4 := ek_24.trans (by decide)
  refine va_put (D := (dC, dI)) (ci := 10) (v := .int 4) (ty := .int) (C := RX10) (T := TX10) (N := 16) hx hb hts inlX10 tyX10 tyX10_ok nmX10 hown hK hP hD hS 0 rfl rfl 1 (by decide) (hts (.fieldLink RX10 13 "ShapeReader" "tapeSize" "I") mw_0_19) (fun _ h9 => h9) rfl (by decide +kernel) rfl rfl (Nat.le_of_ble_eq_true rfl) dX10_feedFour_37 (fun H locs hP hD hS => ?_)
  have hP : va_P (dC, dI) vwCl [(h0, .inr (10, [.ref h1, .int 4, (g 2), (g 3), (g 4), (g 5), (g 6), (g 7), (g 8), (g 9), (g 10), (g 11), (g 12), (g 13), (g 14), (g 15)])), (h1, .inl (cA, 1000, .inl f_23))] H := hP
  have hD : va_D A [(h0, .inr (10, [.ref h1, .int 4, (g 2), (g 3), (g 4), (g 5), (g 6), (g 7), (g 8), (g 9), (g 10), (g 11), (g 12), (g 13), (g 14), (g 15)])), (h1, .inl (cA, 1000, .inl f_23))] := hD
  refine lv_iinc (v := (-8)) (lv' := [(2, .int (-8)), (0, .ref h0), (1, .int p0)]) hx hb dX10_feedFour_40 hl (k := 0) rfl (by decide) (by decide) rfl (fun ls hl => ?_)
  refine lv_goto (tgt := 3) hx hb dX10_feedFour_43 (by decide) ?_
  refine lv_iload_n hx hb dX10_feedFour_3 rfl (lv_at hl 0 rfl) ?_
  refine lv_if_lt (tgt := 46) hx hb dX10_feedFour_4 (by decide) (fun _ => ?_) (fun h => absurd (by decide) h)
  have hP9 := hP.sub (ws' := [(h0, .inr (10, [.ref h1, .int 4, (g 2), (g 3), (g 4), (g 5), (g 6), (g 7), (g 8), (g 9), (g 10), (g 11), (g 12), (g 13), (g 14), (g 15)])), (h1, .inl (cA, 1000, .inl f_23))]) [0, 1] rfl
  have hD9 := hD.sub (ws' := [(h0, .inr (10, [.ref h1, .int 4, (g 2), (g 3), (g 4), (g 5), (g 6), (g 7), (g 8), (g 9), (g 10), (g 11), (g 12), (g 13), (g 14), (g 15)])), (h1, .inl (cA, 1000, .inl f_23))]) [0, 1] (by decide) rfl
  have hK9 := hK.sub (tys' := [(cA, .byte)]) [0] rfl
  refine W.widen (k := 0) (n := 0) (Nat.le_of_ble_eq_true rfl) (Nat.le_of_ble_eq_true rfl) ?_
  exact W.vret hx hb hr (fun t ht hW => ⟨⟨(), rfl, trivial, f_23, by rw [ht]; exact hP9, va_K.moved hW.alike hK9, hD9⟩, hS.F ht⟩) hS.2.2 dX10_feedFour_46

set_option maxRecDepth 100000 in
set_option maxHeartbeats 4000000 in
theorem c_feedFour4 (l : Launch) (dC : Nat → ClassId) (dI : Nat → Nat → Nat) (h0 : Nat) (h1 : Nat) (cA : ClassId) (f : Nat → Int32) (g : Nat → Value) (p0 : Int32) (sz : Nat) : Met l yX10_feedFour (.code yX10_feedFour cX10_feedFour 3 none :: pw) ({ frames := 0, cells := 0, slots := 0, locals := 0 }) (va_Pc [.ref h0, .int p0] (vPre dC dI [(h0, .inr (10, [.ref h1, .int 4, (g 2), (g 3), (g 4), (g 5), (g 6), (g 7), (g 8), (g 9), (g 10), (g 11), (g 12), (g 13), (g 14), (g 15)])), (h1, .inl (cA, 1000, .inl f))] [(cA, .byte)] sz)) (va_Qv (fun (_ : Unit) => True) (fun (_ : Unit) t => ∃ (f9 : Nat → Int32), vPst dC dI (va_A [(h0, .inr (10, [.ref h1, .int 4, (g 2), (g 3), (g 4), (g 5), (g 6), (g 7), (g 8), (g 9), (g 10), (g 11), (g 12), (g 13), (g 14), (g 15)])), (h1, .inl (cA, 1000, .inl f))] sz) [(h0, .inr (10, [.ref h1, .int 8, (g 2), (g 3), (g 4), (g 5), (g 6), (g 7), (g 8), (g 9), (g 10), (g 11), (g 12), (g 13), (g 14), (g 15)])), (h1, .inl (cA, 1000, .inl f9))] [(cA, .byte)] t) (va_A [(h0, .inr (10, [.ref h1, .int 4, (g 2), (g 3), (g 4), (g 5), (g 6), (g 7), (g 8), (g 9), (g 10), (g 11), (g 12), (g 13), (g 14), (g 15)])), (h1, .inl (cA, 1000, .inl f))] sz)) 0 0 (va_A [(h0, .inr (10, [.ref h1, .int 4, (g 2), (g 3), (g 4), (g 5), (g 6), (g 7), (g 8), (g 9), (g 10), (g 11), (g 12), (g 13), (g 14), (g 15)])), (h1, .inl (cA, 1000, .inl f))] sz) := by
  refine Met.ofW (cc := cX10_feedFour) (maxL := 3) (ret := none) (by decide) rfl ?_
  intro p e s m args below meth c s₁ B hml hv
  obtain ⟨rfl, hsz, hP, hK, hD0⟩ := hv
  have hx := B.exec
  have hb := B.bytes
  have hr := B.returns
  have hts := atoms_spec (ws := .code yX10_feedFour cX10_feedFour 3 none :: pw) B.pre
  have hts : ∀ w ∈ pw, w.before _ s = true := fun w h => hts w (List.mem_cons_of_mem _ h)
  have hown : s.vm.findClass RX10 = some m.cls := findClass_of_methodNamed B.named
  have hlocks := B.notSynchronized
  subst hsz
  have hD := hD0.self (sz := s.heap.size)
  generalize hAe : va_A [(h0, .inr (10, [.ref h1, .int 4, (g 2), (g 3), (g 4), (g 5), (g 6), (g 7), (g 8), (g 9), (g 10), (g 11), (g 12), (g 13), (g 14), (g 15)])), (h1, .inl (cA, 1000, .inl f))] s.heap.size = A at hD ⊢
  have hA : ∀ q : Nat, s.heap.size ≤ q → A q := fun q h => by rw [← hAe]; exact Or.inr h
  have hS : va_S A s.heap s.heap [] := va_S.rf
  have hP : va_P (dC, dI) vwCl [(h0, .inr (10, [.ref h1, .int 4, (g 2), (g 3), (g 4), (g 5), (g 6), (g 7), (g 8), (g 9), (g 10), (g 11), (g 12), (g 13), (g 14), (g 15)])), (h1, .inl (cA, 1000, .inl f))] s.heap := hP
  have hl := lv_entry ([.ref h0, .int p0]) (n := 3) (Nat.le_of_ble_eq_true rfl)
  rw [lg_entry_eq]
  generalize (lg_sl ([.ref h0, .int p0]) ++ List.replicate (3 - (lg_sl ([.ref h0, .int p0])).length) Slot.unset).toArray = ls at hl ⊢
  have hl : lv_has ls 3 [(0, .ref h0), (1, .int p0)] := hl
  refine lv_bipush (v := 24) hx hb dX10_feedFour_0 (by decide) ?_
  refine lv_istore_n (lv' := [(2, .int 24), (0, .ref h0), (1, .int p0)]) hx hb dX10_feedFour_2 rfl hl (by decide) rfl (fun ls hl => ?_)
  refine lv_iload_n hx hb dX10_feedFour_3 rfl (lv_at hl 0 rfl) ?_
  refine lv_if_lt (tgt := 46) hx hb dX10_feedFour_4 (by decide) (fun h => absurd h (by decide)) (fun _ => ?_)
  refine lv_aload_n hx hb dX10_feedFour_7 rfl (lv_at hl 1 rfl) ?_
  refine va_get (D := (dC, dI)) (ci := 10) (v := .int 4) (C := RX10) (T := TX10) (N := 16) hx hb hts inlX10 hown hK hP 0 rfl rfl 1 (by decide) (hts (.fieldLink RX10 13 "ShapeReader" "tapeSize" "I") mw_0_19) (fun _ h9 => h9) rfl dX10_feedFour_8 ?_
  refine lv_sipush (v := 1000) hx hb dX10_feedFour_11 (by decide) ?_
  refine lv_icmp_ge (tgt := 40) hx hb dX10_feedFour_14 (by decide) (fun h => absurd h (by decide)) (fun _ => ?_)
  refine lv_aload_n hx hb dX10_feedFour_17 rfl (lv_at hl 1 rfl) ?_
  refine va_get (D := (dC, dI)) (ci := 10) (v := .ref h1) (C := RX10) (T := TX10) (N := 16) hx hb hts inlX10 hown hK hP 0 rfl rfl 0 (by decide) (hts (.fieldLink RX10 9 "ShapeReader" "tape" "[B") mw_0_18) (fun _ h9 => h9) rfl dX10_feedFour_18 ?_
  refine lv_aload_n hx hb dX10_feedFour_21 rfl (lv_at hl 1 rfl) ?_
  refine va_get (D := (dC, dI)) (ci := 10) (v := .int 4) (C := RX10) (T := TX10) (N := 16) hx hb hts inlX10 hown hK hP 0 rfl rfl 1 (by decide) (hts (.fieldLink RX10 13 "ShapeReader" "tapeSize" "I") mw_0_19) (fun _ h9 => h9) rfl dX10_feedFour_22 ?_
  refine lv_iload_n hx hb dX10_feedFour_25 rfl (lv_at hl 2 rfl) ?_
  refine lv_iload_n hx hb dX10_feedFour_26 rfl (lv_at hl 0 rfl) ?_
  refine lv_ishr hx hb dX10_feedFour_27 ?_
  refine lv_topi (fun x_3 ex_3 => ?_)
  refine lv_i2b (v := x_3.toInt8.toInt32) hx hb dX10_feedFour_28 rfl ?_
  generalize x_3.toInt8.toInt32 = x_4
  refine va_bast hx hb hK hP hD hS 1 0 rfl rfl (vp_in_iff.mpr (by decide)) dX10_feedFour_29 (fun H locs hP hD hS => ?_)
  obtain ⟨f_5, hP, hD⟩ : ∃ f_5 : Nat → Int32, va_P (dC, dI) vwCl [(h0, .inr (10, [.ref h1, .int 4, (g 2), (g 3), (g 4), (g 5), (g 6), (g 7), (g 8), (g 9), (g 10), (g 11), (g 12), (g 13), (g 14), (g 15)])), (h1, .inl (cA, 1000, .inl f_5))] H ∧ va_D A [(h0, .inr (10, [.ref h1, .int 4, (g 2), (g 3), (g 4), (g 5), (g 6), (g 7), (g 8), (g 9), (g 10), (g 11), (g 12), (g 13), (g 14), (g 15)])), (h1, .inl (cA, 1000, .inl f_5))] := ⟨_, hP, hD⟩
  refine lv_aload_n hx hb dX10_feedFour_30 rfl (lv_at hl 1 rfl) ?_
  refine lv_dup hx hb dX10_feedFour_31 rfl ?_
  refine va_get (D := (dC, dI)) (ci := 10) (v := .int 4) (C := RX10) (T := TX10) (N := 16) hx hb hts inlX10 hown hK hP 0 rfl rfl 1 (by decide) (hts (.fieldLink RX10 13 "ShapeReader" "tapeSize" "I") mw_0_19) (fun _ h9 => h9) rfl dX10_feedFour_32 ?_
  refine lv_iconst (v := 1) hx hb dX10_feedFour_35 (by decide) ?_
  refine lv_iadd hx hb dX10_feedFour_36 ?_
  refine lv_topi (fun k_6 ek_6 => ?_)
  obtain rfl : k_6 = 5 := ek_6.trans (by decide)
  refine va_put (D := (dC, dI)) (ci := 10) (v := .int 5) (ty := .int) (C := RX10) (T := TX10) (N := 16) hx hb hts inlX10 tyX10 tyX10_ok nmX10 hown hK hP hD hS 0 rfl rfl 1 (by decide) (hts (.fieldLink RX10 13 "ShapeReader" "tapeSize" "I") mw_0_19) (fun _ h9 => h9) rfl (by decide +kernel) rfl rfl (Nat.le_of_ble_eq_true rfl) dX10_feedFour_37 (fun H locs hP hD hS => ?_)
  have hP : va_P (dC, dI) vwCl [(h0, .inr (10, [.ref h1, .int 5, (g 2), (g 3), (g 4), (g 5), (g 6), (g 7), (g 8), (g 9), (g 10), (g 11), (g 12), (g 13), (g 14), (g 15)])), (h1, .inl (cA, 1000, .inl f_5))] H := hP
  have hD : va_D A [(h0, .inr (10, [.ref h1, .int 5, (g 2), (g 3), (g 4), (g 5), (g 6), (g 7), (g 8), (g 9), (g 10), (g 11), (g 12), (g 13), (g 14), (g 15)])), (h1, .inl (cA, 1000, .inl f_5))] := hD
  refine lv_iinc (v := 16) (lv' := [(2, .int 16), (0, .ref h0), (1, .int p0)]) hx hb dX10_feedFour_40 hl (k := 0) rfl (by decide) (by decide) rfl (fun ls hl => ?_)
  refine lv_goto (tgt := 3) hx hb dX10_feedFour_43 (by decide) ?_
  refine lv_iload_n hx hb dX10_feedFour_3 rfl (lv_at hl 0 rfl) ?_
  refine lv_if_lt (tgt := 46) hx hb dX10_feedFour_4 (by decide) (fun h => absurd h (by decide)) (fun _ => ?_)
  refine lv_aload_n hx hb dX10_feedFour_7 rfl (lv_at hl 1 rfl) ?_
  refine va_get (D := (dC, dI)) (ci := 10) (v := .int 5) (C := RX10) (T := TX10) (N := 16) hx hb hts inlX10 hown hK hP 0 rfl rfl 1 (by decide) (hts (.fieldLink RX10 13 "ShapeReader" "tapeSize" "I") mw_0_19) (fun _ h9 => h9) rfl dX10_feedFour_8 ?_
  refine lv_sipush (v := 1000) hx hb dX10_feedFour_11 (by decide) ?_
  refine lv_icmp_ge (tgt := 40) hx hb dX10_feedFour_14 (by decide) (fun h => absurd h (by decide)) (fun _ => ?_)
  refine lv_aload_n hx hb dX10_feedFour_17 rfl (lv_at hl 1 rfl) ?_
  refine va_get (D := (dC, dI)) (ci := 10) (v := .ref h1) (C := RX10) (T := TX10) (N := 16) hx hb hts inlX10 hown hK hP 0 rfl rfl 0 (by decide) (hts (.fieldLink RX10 9 "ShapeReader" "tape" "[B") mw_0_18) (fun _ h9 => h9) rfl dX10_feedFour_18 ?_
  refine lv_aload_n hx hb dX10_feedFour_21 rfl (lv_at hl 1 rfl) ?_
  refine va_get (D := (dC, dI)) (ci := 10) (v := .int 5) (C := RX10) (T := TX10) (N := 16) hx hb hts inlX10 hown hK hP 0 rfl rfl 1 (by decide) (hts (.fieldLink RX10 13 "ShapeReader" "tapeSize" "I") mw_0_19) (fun _ h9 => h9) rfl dX10_feedFour_22 ?_
  refine lv_iload_n hx hb dX10_feedFour_25 rfl (lv_at hl 2 rfl) ?_
  refine lv_iload_n hx hb dX10_feedFour_26 rfl (lv_at hl 0 rfl) ?_
  refine lv_ishr hx hb dX10_feedFour_27 ?_
  refine lv_topi (fun x_9 ex_9 => ?_)
  refine lv_i2b (v := x_9.toInt8.toInt32) hx hb dX10_feedFour_28 rfl ?_
  generalize x_9.toInt8.toInt32 = x_10
  refine va_bast hx hb hK hP hD hS 1 0 rfl rfl (vp_in_iff.mpr (by decide)) dX10_feedFour_29 (fun H locs hP hD hS => ?_)
  obtain ⟨f_11, hP, hD⟩ : ∃ f_11 : Nat → Int32, va_P (dC, dI) vwCl [(h0, .inr (10, [.ref h1, .int 5, (g 2), (g 3), (g 4), (g 5), (g 6), (g 7), (g 8), (g 9), (g 10), (g 11), (g 12), (g 13), (g 14), (g 15)])), (h1, .inl (cA, 1000, .inl f_11))] H ∧ va_D A [(h0, .inr (10, [.ref h1, .int 5, (g 2), (g 3), (g 4), (g 5), (g 6), (g 7), (g 8), (g 9), (g 10), (g 11), (g 12), (g 13), (g 14), (g 15)])), (h1, .inl (cA, 1000, .inl f_11))] := ⟨_, hP, hD⟩
  refine lv_aload_n hx hb dX10_feedFour_30 rfl (lv_at hl 1 rfl) ?_
  refine lv_dup hx hb dX10_feedFour_31 rfl ?_
  refine va_get (D := (dC, dI)) (ci := 10) (v := .int 5) (C := RX10) (T := TX10) (N := 16) hx hb hts inlX10 hown hK hP 0 rfl rfl 1 (by decide) (hts (.fieldLink RX10 13 "ShapeReader" "tapeSize" "I") mw_0_19) (fun _ h9 => h9) rfl dX10_feedFour_32 ?_
  refine lv_iconst (v := 1) hx hb dX10_feedFour_35 (by decide) ?_
  refine lv_iadd hx hb dX10_feedFour_36 ?_
  refine lv_topi (fun k_12 ek_12 => ?_)
  obtain rfl : k_12 = 6 := ek_12.trans (by decide)
  refine va_put (D := (dC, dI)) (ci := 10) (v := .int 6) (ty := .int) (C := RX10) (T := TX10) (N := 16) hx hb hts inlX10 tyX10 tyX10_ok nmX10 hown hK hP hD hS 0 rfl rfl 1 (by decide) (hts (.fieldLink RX10 13 "ShapeReader" "tapeSize" "I") mw_0_19) (fun _ h9 => h9) rfl (by decide +kernel) rfl rfl (Nat.le_of_ble_eq_true rfl) dX10_feedFour_37 (fun H locs hP hD hS => ?_)
  have hP : va_P (dC, dI) vwCl [(h0, .inr (10, [.ref h1, .int 6, (g 2), (g 3), (g 4), (g 5), (g 6), (g 7), (g 8), (g 9), (g 10), (g 11), (g 12), (g 13), (g 14), (g 15)])), (h1, .inl (cA, 1000, .inl f_11))] H := hP
  have hD : va_D A [(h0, .inr (10, [.ref h1, .int 6, (g 2), (g 3), (g 4), (g 5), (g 6), (g 7), (g 8), (g 9), (g 10), (g 11), (g 12), (g 13), (g 14), (g 15)])), (h1, .inl (cA, 1000, .inl f_11))] := hD
  refine lv_iinc (v := 8) (lv' := [(2, .int 8), (0, .ref h0), (1, .int p0)]) hx hb dX10_feedFour_40 hl (k := 0) rfl (by decide) (by decide) rfl (fun ls hl => ?_)
  refine lv_goto (tgt := 3) hx hb dX10_feedFour_43 (by decide) ?_
  refine lv_iload_n hx hb dX10_feedFour_3 rfl (lv_at hl 0 rfl) ?_
  refine lv_if_lt (tgt := 46) hx hb dX10_feedFour_4 (by decide) (fun h => absurd h (by decide)) (fun _ => ?_)
  refine lv_aload_n hx hb dX10_feedFour_7 rfl (lv_at hl 1 rfl) ?_
  refine va_get (D := (dC, dI)) (ci := 10) (v := .int 6) (C := RX10) (T := TX10) (N := 16) hx hb hts inlX10 hown hK hP 0 rfl rfl 1 (by decide) (hts (.fieldLink RX10 13 "ShapeReader" "tapeSize" "I") mw_0_19) (fun _ h9 => h9) rfl dX10_feedFour_8 ?_
  refine lv_sipush (v := 1000) hx hb dX10_feedFour_11 (by decide) ?_
  refine lv_icmp_ge (tgt := 40) hx hb dX10_feedFour_14 (by decide) (fun h => absurd h (by decide)) (fun _ => ?_)
  refine lv_aload_n hx hb dX10_feedFour_17 rfl (lv_at hl 1 rfl) ?_
  refine va_get (D := (dC, dI)) (ci := 10) (v := .ref h1) (C := RX10) (T := TX10) (N := 16) hx hb hts inlX10 hown hK hP 0 rfl rfl 0 (by decide) (hts (.fieldLink RX10 9 "ShapeReader" "tape" "[B") mw_0_18) (fun _ h9 => h9) rfl dX10_feedFour_18 ?_
  refine lv_aload_n hx hb dX10_feedFour_21 rfl (lv_at hl 1 rfl) ?_
  refine va_get (D := (dC, dI)) (ci := 10) (v := .int 6) (C := RX10) (T := TX10) (N := 16) hx hb hts inlX10 hown hK hP 0 rfl rfl 1 (by decide) (hts (.fieldLink RX10 13 "ShapeReader" "tapeSize" "I") mw_0_19) (fun _ h9 => h9) rfl dX10_feedFour_22 ?_
  refine lv_iload_n hx hb dX10_feedFour_25 rfl (lv_at hl 2 rfl) ?_
  refine lv_iload_n hx hb dX10_feedFour_26 rfl (lv_at hl 0 rfl) ?_
  refine lv_ishr hx hb dX10_feedFour_27 ?_
  refine lv_topi (fun x_15 ex_15 => ?_)
  refine lv_i2b (v := x_15.toInt8.toInt32) hx hb dX10_feedFour_28 rfl ?_
  generalize x_15.toInt8.toInt32 = x_16
  refine va_bast hx hb hK hP hD hS 1 0 rfl rfl (vp_in_iff.mpr (by decide)) dX10_feedFour_29 (fun H locs hP hD hS => ?_)
  obtain ⟨f_17, hP, hD⟩ : ∃ f_17 : Nat → Int32, va_P (dC, dI) vwCl [(h0, .inr (10, [.ref h1, .int 6, (g 2), (g 3), (g 4), (g 5), (g 6), (g 7), (g 8), (g 9), (g 10), (g 11), (g 12), (g 13), (g 14), (g 15)])), (h1, .inl (cA, 1000, .inl f_17))] H ∧ va_D A [(h0, .inr (10, [.ref h1, .int 6, (g 2), (g 3), (g 4), (g 5), (g 6), (g 7), (g 8), (g 9), (g 10), (g 11), (g 12), (g 13), (g 14), (g 15)])), (h1, .inl (cA, 1000, .inl f_17))] := ⟨_, hP, hD⟩
  refine lv_aload_n hx hb dX10_feedFour_30 rfl (lv_at hl 1 rfl) ?_
  refine lv_dup hx hb dX10_feedFour_31 rfl ?_
  refine va_get (D := (dC, dI)) (ci := 10) (v := .int 6) (C := RX10) (T := TX10) (N := 16) hx hb hts inlX10 hown hK hP 0 rfl rfl 1 (by decide) (hts (.fieldLink RX10 13 "ShapeReader" "tapeSize" "I") mw_0_19) (fun _ h9 => h9) rfl dX10_feedFour_32 ?_
  refine lv_iconst (v := 1) hx hb dX10_feedFour_35 (by decide) ?_
  refine lv_iadd hx hb dX10_feedFour_36 ?_
  refine lv_topi (fun k_18 ek_18 => ?_)
  obtain rfl : k_18 = 7 := ek_18.trans (by decide)
  refine va_put (D := (dC, dI)) (ci := 10) (v := .int 7) (ty := .int) (C := RX10) (T := TX10) (N := 16) hx hb hts inlX10 tyX10 tyX10_ok nmX10 hown hK hP hD hS 0 rfl rfl 1 (by decide) (hts (.fieldLink RX10 13 "ShapeReader" "tapeSize" "I") mw_0_19) (fun _ h9 => h9) rfl (by decide +kernel) rfl rfl (Nat.le_of_ble_eq_true rfl) dX10_feedFour_37 (fun H locs hP hD hS => ?_)
  have hP : va_P (dC, dI) vwCl [(h0, .inr (10, [.ref h1, .int 7, (g 2), (g 3), (g 4), (g 5), (g 6), (g 7), (g 8), (g 9), (g 10), (g 11), (g 12), (g 13), (g 14), (g 15)])), (h1, .inl (cA, 1000, .inl f_17))] H := hP
  have hD : va_D A [(h0, .inr (10, [.ref h1, .int 7, (g 2), (g 3), (g 4), (g 5), (g 6), (g 7), (g 8), (g 9), (g 10), (g 11), (g 12), (g 13), (g 14), (g 15)])), (h1, .inl (cA, 1000, .inl f_17))] := hD
  refine lv_iinc (v := 0) (lv' := [(2, .int 0), (0, .ref h0), (1, .int p0)]) hx hb dX10_feedFour_40 hl (k := 0) rfl (by decide) (by decide) rfl (fun ls hl => ?_)
  refine lv_goto (tgt := 3) hx hb dX10_feedFour_43 (by decide) ?_
  refine lv_iload_n hx hb dX10_feedFour_3 rfl (lv_at hl 0 rfl) ?_
  refine lv_if_lt (tgt := 46) hx hb dX10_feedFour_4 (by decide) (fun h => absurd h (by decide)) (fun _ => ?_)
  refine lv_aload_n hx hb dX10_feedFour_7 rfl (lv_at hl 1 rfl) ?_
  refine va_get (D := (dC, dI)) (ci := 10) (v := .int 7) (C := RX10) (T := TX10) (N := 16) hx hb hts inlX10 hown hK hP 0 rfl rfl 1 (by decide) (hts (.fieldLink RX10 13 "ShapeReader" "tapeSize" "I") mw_0_19) (fun _ h9 => h9) rfl dX10_feedFour_8 ?_
  refine lv_sipush (v := 1000) hx hb dX10_feedFour_11 (by decide) ?_
  refine lv_icmp_ge (tgt := 40) hx hb dX10_feedFour_14 (by decide) (fun h => absurd h (by decide)) (fun _ => ?_)
  refine lv_aload_n hx hb dX10_feedFour_17 rfl (lv_at hl 1 rfl) ?_
  refine va_get (D := (dC, dI)) (ci := 10) (v := .ref h1) (C := RX10) (T := TX10) (N := 16) hx hb hts inlX10 hown hK hP 0 rfl rfl 0 (by decide) (hts (.fieldLink RX10 9 "ShapeReader" "tape" "[B") mw_0_18) (fun _ h9 => h9) rfl dX10_feedFour_18 ?_
  refine lv_aload_n hx hb dX10_feedFour_21 rfl (lv_at hl 1 rfl) ?_
  refine va_get (D := (dC, dI)) (ci := 10) (v := .int 7) (C := RX10) (T := TX10) (N := 16) hx hb hts inlX10 hown hK hP 0 rfl rfl 1 (by decide) (hts (.fieldLink RX10 13 "ShapeReader" "tapeSize" "I") mw_0_19) (fun _ h9 => h9) rfl dX10_feedFour_22 ?_
  refine lv_iload_n hx hb dX10_feedFour_25 rfl (lv_at hl 2 rfl) ?_
  refine lv_iload_n hx hb dX10_feedFour_26 rfl (lv_at hl 0 rfl) ?_
  refine lv_ishr hx hb dX10_feedFour_27 ?_
  refine lv_topi (fun x_21 ex_21 => ?_)
  refine lv_i2b (v := x_21.toInt8.toInt32) hx hb dX10_feedFour_28 rfl ?_
  generalize x_21.toInt8.toInt32 = x_22
  refine va_bast hx hb hK hP hD hS 1 0 rfl rfl (vp_in_iff.mpr (by decide)) dX10_feedFour_29 (fun H locs hP hD hS => ?_)
  obtain ⟨f_23, hP, hD⟩ : ∃ f_23 : Nat → Int32, va_P (dC, dI) vwCl [(h0, .inr (10, [.ref h1, .int 7, (g 2), (g 3), (g 4), (g 5), (g 6), (g 7), (g 8), (g 9), (g 10), (g 11), (g 12), (g 13), (g 14), (g 15)])), (h1, .inl (cA, 1000, .inl f_23))] H ∧ va_D A [(h0, .inr (10, [.ref h1, .int 7, (g 2), (g 3), (g 4), (g 5), (g 6), (g 7), (g 8), (g 9), (g 10), (g 11), (g 12), (g 13), (g 14), (g 15)])), (h1, .inl (cA, 1000, .inl f_23))] := ⟨_, hP, hD⟩
  refine lv_aload_n hx hb dX10_feedFour_30 rfl (lv_at hl 1 rfl) ?_
  refine lv_dup hx hb dX10_feedFour_31 rfl ?_
  refine va_get (D := (dC, dI)) (ci := 10) (v := .int 7) (C := RX10) (T := TX10) (N := 16) hx hb hts inlX10 hown hK hP 0 rfl rfl 1 (by decide) (hts (.fieldLink RX10 13 "ShapeReader" "tapeSize" "I") mw_0_19) (fun _ h9 => h9) rfl dX10_feedFour_32 ?_
  refine lv_iconst (v := 1) hx hb dX10_feedFour_35 (by decide) ?_
  refine lv_iadd hx hb dX10_feedFour_36 ?_
  refine lv_topi (fun k_24 ek_24 => ?_)
  obtain rfl : k_24 = 8 := ek_24.trans (by decide)
  refine va_put (D := (dC, dI)) (ci := 10) (v := .int 8) (ty := .int) (C := RX10) (T := TX10) (N := 16) hx hb hts inlX10 tyX10 tyX10_ok nmX10 hown hK hP hD hS 0 rfl rfl 1 (by decide) (hts (.fieldLink RX10 13 "ShapeReader" "tapeSize" "I") mw_0_19) (fun _ h9 => h9) rfl (by decide +kernel) rfl rfl (Nat.le_of_ble_eq_true rfl) dX10_feedFour_37 (fun H locs hP hD hS => ?_)
  have hP : va_P (dC, dI) vwCl [(h0, .inr (10, [.ref h1, .int 8, (g 2), (g 3), (g 4), (g 5), (g 6), (g 7), (g 8), (g 9), (g 10), (g 11), (g 12), (g 13), (g 14), (g 15)])), (h1, .inl (cA, 1000, .inl f_23))] H := hP
  have hD : va_D A [(h0, .inr (10, [.ref h1, .int 8, (g 2), (g 3), (g 4), (g 5), (g 6), (g 7), (g 8), (g 9), (g 10), (g 11), (g 12), (g 13), (g 14), (g 15)])), (h1, .inl (cA, 1000, .inl f_23))] := hD
  refine lv_iinc (v := (-8)) (lv' := [(2, .int (-8)), (0, .ref h0), (1, .int p0)]) hx hb dX10_feedFour_40 hl (k := 0) rfl (by decide) (by decide) rfl (fun ls hl => ?_)
  refine lv_goto (tgt := 3) hx hb dX10_feedFour_43 (by decide) ?_
  refine lv_iload_n hx hb dX10_feedFour_3 rfl (lv_at hl 0 rfl) ?_
  refine lv_if_lt (tgt := 46) hx hb dX10_feedFour_4 (by decide) (fun _ => ?_) (fun h => absurd (by decide) h)
  have hP9 := hP.sub (ws' := [(h0, .inr (10, [.ref h1, .int 8, (g 2), (g 3), (g 4), (g 5), (g 6), (g 7), (g 8), (g 9), (g 10), (g 11), (g 12), (g 13), (g 14), (g 15)])), (h1, .inl (cA, 1000, .inl f_23))]) [0, 1] rfl
  have hD9 := hD.sub (ws' := [(h0, .inr (10, [.ref h1, .int 8, (g 2), (g 3), (g 4), (g 5), (g 6), (g 7), (g 8), (g 9), (g 10), (g 11), (g 12), (g 13), (g 14), (g 15)])), (h1, .inl (cA, 1000, .inl f_23))]) [0, 1] (by decide) rfl
  have hK9 := hK.sub (tys' := [(cA, .byte)]) [0] rfl
  refine W.widen (k := 0) (n := 0) (Nat.le_of_ble_eq_true rfl) (Nat.le_of_ble_eq_true rfl) ?_
  exact W.vret hx hb hr (fun t ht hW => ⟨⟨(), rfl, trivial, f_23, by rw [ht]; exact hP9, va_K.moved hW.alike hK9, hD9⟩, hS.F ht⟩) hS.2.2 dX10_feedFour_46

set_option maxRecDepth 100000 in
set_option maxHeartbeats 4000000 in
theorem c_feedFour8 (l : Launch) (dC : Nat → ClassId) (dI : Nat → Nat → Nat) (h0 : Nat) (h1 : Nat) (cA : ClassId) (f : Nat → Int32) (g : Nat → Value) (p0 : Int32) (sz : Nat) : Met l yX10_feedFour (.code yX10_feedFour cX10_feedFour 3 none :: pw) ({ frames := 0, cells := 0, slots := 0, locals := 0 }) (va_Pc [.ref h0, .int p0] (vPre dC dI [(h0, .inr (10, [.ref h1, .int 8, (g 2), (g 3), (g 4), (g 5), (g 6), (g 7), (g 8), (g 9), (g 10), (g 11), (g 12), (g 13), (g 14), (g 15)])), (h1, .inl (cA, 1000, .inl f))] [(cA, .byte)] sz)) (va_Qv (fun (_ : Unit) => True) (fun (_ : Unit) t => ∃ (f9 : Nat → Int32), vPst dC dI (va_A [(h0, .inr (10, [.ref h1, .int 8, (g 2), (g 3), (g 4), (g 5), (g 6), (g 7), (g 8), (g 9), (g 10), (g 11), (g 12), (g 13), (g 14), (g 15)])), (h1, .inl (cA, 1000, .inl f))] sz) [(h0, .inr (10, [.ref h1, .int 12, (g 2), (g 3), (g 4), (g 5), (g 6), (g 7), (g 8), (g 9), (g 10), (g 11), (g 12), (g 13), (g 14), (g 15)])), (h1, .inl (cA, 1000, .inl f9))] [(cA, .byte)] t) (va_A [(h0, .inr (10, [.ref h1, .int 8, (g 2), (g 3), (g 4), (g 5), (g 6), (g 7), (g 8), (g 9), (g 10), (g 11), (g 12), (g 13), (g 14), (g 15)])), (h1, .inl (cA, 1000, .inl f))] sz)) 0 0 (va_A [(h0, .inr (10, [.ref h1, .int 8, (g 2), (g 3), (g 4), (g 5), (g 6), (g 7), (g 8), (g 9), (g 10), (g 11), (g 12), (g 13), (g 14), (g 15)])), (h1, .inl (cA, 1000, .inl f))] sz) := by
  refine Met.ofW (cc := cX10_feedFour) (maxL := 3) (ret := none) (by decide) rfl ?_
  intro p e s m args below meth c s₁ B hml hv
  obtain ⟨rfl, hsz, hP, hK, hD0⟩ := hv
  have hx := B.exec
  have hb := B.bytes
  have hr := B.returns
  have hts := atoms_spec (ws := .code yX10_feedFour cX10_feedFour 3 none :: pw) B.pre
  have hts : ∀ w ∈ pw, w.before _ s = true := fun w h => hts w (List.mem_cons_of_mem _ h)
  have hown : s.vm.findClass RX10 = some m.cls := findClass_of_methodNamed B.named
  have hlocks := B.notSynchronized
  subst hsz
  have hD := hD0.self (sz := s.heap.size)
  generalize hAe : va_A [(h0, .inr (10, [.ref h1, .int 8, (g 2), (g 3), (g 4), (g 5), (g 6), (g 7), (g 8), (g 9), (g 10), (g 11), (g 12), (g 13), (g 14), (g 15)])), (h1, .inl (cA, 1000, .inl f))] s.heap.size = A at hD ⊢
  have hA : ∀ q : Nat, s.heap.size ≤ q → A q := fun q h => by rw [← hAe]; exact Or.inr h
  have hS : va_S A s.heap s.heap [] := va_S.rf
  have hP : va_P (dC, dI) vwCl [(h0, .inr (10, [.ref h1, .int 8, (g 2), (g 3), (g 4), (g 5), (g 6), (g 7), (g 8), (g 9), (g 10), (g 11), (g 12), (g 13), (g 14), (g 15)])), (h1, .inl (cA, 1000, .inl f))] s.heap := hP
  have hl := lv_entry ([.ref h0, .int p0]) (n := 3) (Nat.le_of_ble_eq_true rfl)
  rw [lg_entry_eq]
  generalize (lg_sl ([.ref h0, .int p0]) ++ List.replicate (3 - (lg_sl ([.ref h0, .int p0])).length) Slot.unset).toArray = ls at hl ⊢
  have hl : lv_has ls 3 [(0, .ref h0), (1, .int p0)] := hl
  refine lv_bipush (v := 24) hx hb dX10_feedFour_0 (by decide) ?_
  refine lv_istore_n (lv' := [(2, .int 24), (0, .ref h0), (1, .int p0)]) hx hb dX10_feedFour_2 rfl hl (by decide) rfl (fun ls hl => ?_)
  refine lv_iload_n hx hb dX10_feedFour_3 rfl (lv_at hl 0 rfl) ?_
  refine lv_if_lt (tgt := 46) hx hb dX10_feedFour_4 (by decide) (fun h => absurd h (by decide)) (fun _ => ?_)
  refine lv_aload_n hx hb dX10_feedFour_7 rfl (lv_at hl 1 rfl) ?_
  refine va_get (D := (dC, dI)) (ci := 10) (v := .int 8) (C := RX10) (T := TX10) (N := 16) hx hb hts inlX10 hown hK hP 0 rfl rfl 1 (by decide) (hts (.fieldLink RX10 13 "ShapeReader" "tapeSize" "I") mw_0_19) (fun _ h9 => h9) rfl dX10_feedFour_8 ?_
  refine lv_sipush (v := 1000) hx hb dX10_feedFour_11 (by decide) ?_
  refine lv_icmp_ge (tgt := 40) hx hb dX10_feedFour_14 (by decide) (fun h => absurd h (by decide)) (fun _ => ?_)
  refine lv_aload_n hx hb dX10_feedFour_17 rfl (lv_at hl 1 rfl) ?_
  refine va_get (D := (dC, dI)) (ci := 10) (v := .ref h1) (C := RX10) (T := TX10) (N := 16) hx hb hts inlX10 hown hK hP 0 rfl rfl 0 (by decide) (hts (.fieldLink RX10 9 "ShapeReader" "tape" "[B") mw_0_18) (fun _ h9 => h9) rfl dX10_feedFour_18 ?_
  refine lv_aload_n hx hb dX10_feedFour_21 rfl (lv_at hl 1 rfl) ?_
  refine va_get (D := (dC, dI)) (ci := 10) (v := .int 8) (C := RX10) (T := TX10) (N := 16) hx hb hts inlX10 hown hK hP 0 rfl rfl 1 (by decide) (hts (.fieldLink RX10 13 "ShapeReader" "tapeSize" "I") mw_0_19) (fun _ h9 => h9) rfl dX10_feedFour_22 ?_
  refine lv_iload_n hx hb dX10_feedFour_25 rfl (lv_at hl 2 rfl) ?_
  refine lv_iload_n hx hb dX10_feedFour_26 rfl (lv_at hl 0 rfl) ?_
  refine lv_ishr hx hb dX10_feedFour_27 ?_
  refine lv_topi (fun x_3 ex_3 => ?_)
  refine lv_i2b (v := x_3.toInt8.toInt32) hx hb dX10_feedFour_28 rfl ?_
  generalize x_3.toInt8.toInt32 = x_4
  refine va_bast hx hb hK hP hD hS 1 0 rfl rfl (vp_in_iff.mpr (by decide)) dX10_feedFour_29 (fun H locs hP hD hS => ?_)
  obtain ⟨f_5, hP, hD⟩ : ∃ f_5 : Nat → Int32, va_P (dC, dI) vwCl [(h0, .inr (10, [.ref h1, .int 8, (g 2), (g 3), (g 4), (g 5), (g 6), (g 7), (g 8), (g 9), (g 10), (g 11), (g 12), (g 13), (g 14), (g 15)])), (h1, .inl (cA, 1000, .inl f_5))] H ∧ va_D A [(h0, .inr (10, [.ref h1, .int 8, (g 2), (g 3), (g 4), (g 5), (g 6), (g 7), (g 8), (g 9), (g 10), (g 11), (g 12), (g 13), (g 14), (g 15)])), (h1, .inl (cA, 1000, .inl f_5))] := ⟨_, hP, hD⟩
  refine lv_aload_n hx hb dX10_feedFour_30 rfl (lv_at hl 1 rfl) ?_
  refine lv_dup hx hb dX10_feedFour_31 rfl ?_
  refine va_get (D := (dC, dI)) (ci := 10) (v := .int 8) (C := RX10) (T := TX10) (N := 16) hx hb hts inlX10 hown hK hP 0 rfl rfl 1 (by decide) (hts (.fieldLink RX10 13 "ShapeReader" "tapeSize" "I") mw_0_19) (fun _ h9 => h9) rfl dX10_feedFour_32 ?_
  refine lv_iconst (v := 1) hx hb dX10_feedFour_35 (by decide) ?_
  refine lv_iadd hx hb dX10_feedFour_36 ?_
  refine lv_topi (fun k_6 ek_6 => ?_)
  obtain rfl : k_6 = 9 := ek_6.trans (by decide)
  refine va_put (D := (dC, dI)) (ci := 10) (v := .int 9) (ty := .int) (C := RX10) (T := TX10) (N := 16) hx hb hts inlX10 tyX10 tyX10_ok nmX10 hown hK hP hD hS 0 rfl rfl 1 (by decide) (hts (.fieldLink RX10 13 "ShapeReader" "tapeSize" "I") mw_0_19) (fun _ h9 => h9) rfl (by decide +kernel) rfl rfl (Nat.le_of_ble_eq_true rfl) dX10_feedFour_37 (fun H locs hP hD hS => ?_)
  have hP : va_P (dC, dI) vwCl [(h0, .inr (10, [.ref h1, .int 9, (g 2), (g 3), (g 4), (g 5), (g 6), (g 7), (g 8), (g 9), (g 10), (g 11), (g 12), (g 13), (g 14), (g 15)])), (h1, .inl (cA, 1000, .inl f_5))] H := hP
  have hD : va_D A [(h0, .inr (10, [.ref h1, .int 9, (g 2), (g 3), (g 4), (g 5), (g 6), (g 7), (g 8), (g 9), (g 10), (g 11), (g 12), (g 13), (g 14), (g 15)])), (h1, .inl (cA, 1000, .inl f_5))] := hD
  refine lv_iinc (v := 16) (lv' := [(2, .int 16), (0, .ref h0), (1, .int p0)]) hx hb dX10_feedFour_40 hl (k := 0) rfl (by decide) (by decide) rfl (fun ls hl => ?_)
  refine lv_goto (tgt := 3) hx hb dX10_feedFour_43 (by decide) ?_
  refine lv_iload_n hx hb dX10_feedFour_3 rfl (lv_at hl 0 rfl) ?_
  refine lv_if_lt (tgt := 46) hx hb dX10_feedFour_4 (by decide) (fun h => absurd h (by decide)) (fun _ => ?_)
  refine lv_aload_n hx hb dX10_feedFour_7 rfl (lv_at hl 1 rfl) ?_
  refine va_get (D := (dC, dI)) (ci := 10) (v := .int 9) (C := RX10) (T := TX10) (N := 16) hx hb hts inlX10 hown hK hP 0 rfl rfl 1 (by decide) (hts (.fieldLink RX10 13 "ShapeReader" "tapeSize" "I") mw_0_19) (fun _ h9 => h9) rfl dX10_feedFour_8 ?_
  refine lv_sipush (v := 1000) hx hb dX10_feedFour_11 (by decide) ?_
  refine lv_icmp_ge (tgt := 40) hx hb dX10_feedFour_14 (by decide) (fun h => absurd h (by decide)) (fun _ => ?_)
  refine lv_aload_n hx hb dX10_feedFour_17 rfl (lv_at hl 1 rfl) ?_
  refine va_get (D := (dC, dI)) (ci := 10) (v := .ref h1) (C := RX10) (T := TX10) (N := 16) hx hb hts inlX10 hown hK hP 0 rfl rfl 0 (by decide) (hts (.fieldLink RX10 9 "ShapeReader" "tape" "[B") mw_0_18) (fun _ h9 => h9) rfl dX10_feedFour_18 ?_
  refine lv_aload_n hx hb dX10_feedFour_21 rfl (lv_at hl 1 rfl) ?_
  refine va_get (D := (dC, dI)) (ci := 10) (v := .int 9) (C := RX10) (T := TX10) (N := 16) hx hb hts inlX10 hown hK hP 0 rfl rfl 1 (by decide) (hts (.fieldLink RX10 13 "ShapeReader" "tapeSize" "I") mw_0_19) (fun _ h9 => h9) rfl dX10_feedFour_22 ?_
  refine lv_iload_n hx hb dX10_feedFour_25 rfl (lv_at hl 2 rfl) ?_
  refine lv_iload_n hx hb dX10_feedFour_26 rfl (lv_at hl 0 rfl) ?_
  refine lv_ishr hx hb dX10_feedFour_27 ?_
  refine lv_topi (fun x_9 ex_9 => ?_)
  refine lv_i2b (v := x_9.toInt8.toInt32) hx hb dX10_feedFour_28 rfl ?_
  generalize x_9.toInt8.toInt32 = x_10
  refine va_bast hx hb hK hP hD hS 1 0 rfl rfl (vp_in_iff.mpr (by decide)) dX10_feedFour_29 (fun H locs hP hD hS => ?_)
  obtain ⟨f_11, hP, hD⟩ : ∃ f_11 : Nat → Int32, va_P (dC, dI) vwCl [(h0, .inr (10, [.ref h1, .int 9, (g 2), (g 3), (g 4), (g 5), (g 6), (g 7), (g 8), (g 9), (g 10), (g 11), (g 12), (g 13), (g 14), (g 15)])), (h1, .inl (cA, 1000, .inl f_11))] H ∧ va_D A [(h0, .inr (10, [.ref h1, .int 9, (g 2), (g 3), (g 4), (g 5), (g 6), (g 7), (g 8), (g 9), (g 10), (g 11), (g 12), (g 13), (g 14), (g 15)])), (h1, .inl (cA, 1000, .inl f_11))] := ⟨_, hP, hD⟩
  refine lv_aload_n hx hb dX10_feedFour_30 rfl (lv_at hl 1 rfl) ?_
  refine lv_dup hx hb dX10_feedFour_31 rfl ?_
  refine va_get (D := (dC, dI)) (ci := 10) (v := .int 9) (C := RX10) (T := TX10) (N := 16) hx hb hts inlX10 hown hK hP 0 rfl rfl 1 (by decide) (hts (.fieldLink RX10 13 "ShapeReader" "tapeSize" "I") mw_0_19) (fun _ h9 => h9) rfl dX10_feedFour_32 ?_
  refine lv_iconst (v := 1) hx hb dX10_feedFour_35 (by decide) ?_
  refine lv_iadd hx hb dX10_feedFour_36 ?_
  refine lv_topi (fun k_12 ek_12 => ?_)
  obtain rfl : k_12 = 10 := ek_12.trans (by decide)
  refine va_put (D := (dC, dI)) (ci := 10) (v := .int 10) (ty := .int) (C := RX10) (T := TX10) (N := 16) hx hb hts inlX10 tyX10 tyX10_ok nmX10 hown hK hP hD hS 0 rfl rfl 1 (by decide) (hts (.fieldLink RX10 13 "ShapeReader" "tapeSize" "I") mw_0_19) (fun _ h9 => h9) rfl (by decide +kernel) rfl rfl (Nat.le_of_ble_eq_true rfl) dX10_feedFour_37 (fun H locs hP hD hS => ?_)
  have hP : va_P (dC, dI) vwCl [(h0, .inr (10, [.ref h1, .int 10, (g 2), (g 3), (g 4), (g 5), (g 6), (g 7), (g 8), (g 9), (g 10), (g 11), (g 12), (g 13), (g 14), (g 15)])), (h1, .inl (cA, 1000, .inl f_11))] H := hP
  have hD : va_D A [(h0, .inr (10, [.ref h1, .int 10, (g 2), (g 3), (g 4), (g 5), (g 6), (g 7), (g 8), (g 9), (g 10), (g 11), (g 12), (g 13), (g 14), (g 15)])), (h1, .inl (cA, 1000, .inl f_11))] := hD
  refine lv_iinc (v := 8) (lv' := [(2, .int 8), (0, .ref h0), (1, .int p0)]) hx hb dX10_feedFour_40 hl (k := 0) rfl (by decide) (by decide) rfl (fun ls hl => ?_)
  refine lv_goto (tgt := 3) hx hb dX10_feedFour_43 (by decide) ?_
  refine lv_iload_n hx hb dX10_feedFour_3 rfl (lv_at hl 0 rfl) ?_
  refine lv_if_lt (tgt := 46) hx hb dX10_feedFour_4 (by decide) (fun h => absurd h (by decide)) (fun _ => ?_)
  refine lv_aload_n hx hb dX10_feedFour_7 rfl (lv_at hl 1 rfl) ?_
  refine va_get (D := (dC, dI)) (ci := 10) (v := .int 10) (C := RX10) (T := TX10) (N := 16) hx hb hts inlX10 hown hK hP 0 rfl rfl 1 (by decide) (hts (.fieldLink RX10 13 "ShapeReader" "tapeSize" "I") mw_0_19) (fun _ h9 => h9) rfl dX10_feedFour_8 ?_
  refine lv_sipush (v := 1000) hx hb dX10_feedFour_11 (by decide) ?_
  refine lv_icmp_ge (tgt := 40) hx hb dX10_feedFour_14 (by decide) (fun h => absurd h (by decide)) (fun _ => ?_)
  refine lv_aload_n hx hb dX10_feedFour_17 rfl (lv_at hl 1 rfl) ?_
  refine va_get (D := (dC, dI)) (ci := 10) (v := .ref h1) (C := RX10) (T := TX10) (N := 16) hx hb hts inlX10 hown hK hP 0 rfl rfl 0 (by decide) (hts (.fieldLink RX10 9 "ShapeReader" "tape" "[B") mw_0_18) (fun _ h9 => h9) rfl dX10_feedFour_18 ?_
  refine lv_aload_n hx hb dX10_feedFour_21 rfl (lv_at hl 1 rfl) ?_
  refine va_get (D := (dC, dI)) (ci := 10) (v := .int 10) (C := RX10) (T := TX10) (N := 16) hx hb hts inlX10 hown hK hP 0 rfl rfl 1 (by decide) (hts (.fieldLink RX10 13 "ShapeReader" "tapeSize" "I") mw_0_19) (fun _ h9 => h9) rfl dX10_feedFour_22 ?_
  refine lv_iload_n hx hb dX10_feedFour_25 rfl (lv_at hl 2 rfl) ?_
  refine lv_iload_n hx hb dX10_feedFour_26 rfl (lv_at hl 0 rfl) ?_
  refine lv_ishr hx hb dX10_feedFour_27 ?_
  refine lv_topi (fun x_15 ex_15 => ?_)
  refine lv_i2b (v := x_15.toInt8.toInt32) hx hb dX10_feedFour_28 rfl ?_
  generalize x_15.toInt8.toInt32 = x_16
  refine va_bast hx hb hK hP hD hS 1 0 rfl rfl (vp_in_iff.mpr (by decide)) dX10_feedFour_29 (fun H locs hP hD hS => ?_)
  obtain ⟨f_17, hP, hD⟩ : ∃ f_17 : Nat → Int32, va_P (dC, dI) vwCl [(h0, .inr (10, [.ref h1, .int 10, (g 2), (g 3), (g 4), (g 5), (g 6), (g 7), (g 8), (g 9), (g 10), (g 11), (g 12), (g 13), (g 14), (g 15)])), (h1, .inl (cA, 1000, .inl f_17))] H ∧ va_D A [(h0, .inr (10, [.ref h1, .int 10, (g 2), (g 3), (g 4), (g 5), (g 6), (g 7), (g 8), (g 9), (g 10), (g 11), (g 12), (g 13), (g 14), (g 15)])), (h1, .inl (cA, 1000, .inl f_17))] := ⟨_, hP, hD⟩
  refine lv_aload_n hx hb dX10_feedFour_30 rfl (lv_at hl 1 rfl) ?_
  refine lv_dup hx hb dX10_feedFour_31 rfl ?_
  refine va_get (D := (dC, dI)) (ci := 10) (v := .int 10) (C := RX10) (T := TX10) (N := 16) hx hb hts inlX10 hown hK hP 0 rfl rfl 1 (by decide) (hts (.fieldLink RX10 13 "ShapeReader" "tapeSize" "I") mw_0_19) (fun _ h9 => h9) rfl dX10_feedFour_32 ?_
  refine lv_iconst (v := 1) hx hb dX10_feedFour_35 (by decide) ?_
  refine lv_iadd hx hb dX10_feedFour_36 ?_
  refine lv_topi (fun k_18 ek_18 => ?_)
  obtain rfl : k_18 = 11 := ek_18.trans (by decide)
  refine va_put (D := (dC, dI)) (ci := 10) (v := .int 11) (ty := .int) (C := RX10) (T := TX10) (N := 16) hx hb hts inlX10 tyX10 tyX10_ok nmX10 hown hK hP hD hS 0 rfl rfl 1 (by decide) (hts (.fieldLink RX10 13 "ShapeReader" "tapeSize" "I") mw_0_19) (fun _ h9 => h9) rfl (by decide +kernel) rfl rfl (Nat.le_of_ble_eq_true rfl) dX10_feedFour_37 (fun H locs hP hD hS => ?_)
  have hP : va_P (dC, dI) vwCl [(h0, .inr (10, [.ref h1, .int 11, (g 2), (g 3), (g 4), (g 5), (g 6), (g 7), (g 8), (g 9), (g 10), (g 11), (g 12), (g 13), (g 14), (g 15)])), (h1, .inl (cA, 1000, .inl f_17))] H := hP
  have hD : va_D A [(h0, .inr (10, [.ref h1, .int 11, (g 2), (g 3), (g 4), (g 5), (g 6), (g 7), (g 8), (g 9), (g 10), (g 11), (g 12), (g 13), (g 14), (g 15)])), (h1, .inl (cA, 1000, .inl f_17))] := hD
  refine lv_iinc (v := 0) (lv' := [(2, .int 0), (0, .ref h0), (1, .int p0)]) hx hb dX10_feedFour_40 hl (k := 0) rfl (by decide) (by decide) rfl (fun ls hl => ?_)
  refine lv_goto (tgt := 3) hx hb dX10_feedFour_43 (by decide) ?_
  refine lv_iload_n hx hb dX10_feedFour_3 rfl (lv_at hl 0 rfl) ?_
  refine lv_if_lt (tgt := 46) hx hb dX10_feedFour_4 (by decide) (fun h => absurd h (by decide)) (fun _ => ?_)
  refine lv_aload_n hx hb dX10_feedFour_7 rfl (lv_at hl 1 rfl) ?_
  refine va_get (D := (dC, dI)) (ci := 10) (v := .int 11) (C := RX10) (T := TX10) (N := 16) hx hb hts inlX10 hown hK hP 0 rfl rfl 1 (by decide) (hts (.fieldLink RX10 13 "ShapeReader" "tapeSize" "I") mw_0_19) (fun _ h9 => h9) rfl dX10_feedFour_8 ?_
  refine lv_sipush (v := 1000) hx hb dX10_feedFour_11 (by decide) ?_
  refine lv_icmp_ge (tgt := 40) hx hb dX10_feedFour_14 (by decide) (fun h => absurd h (by decide)) (fun _ => ?_)
  refine lv_aload_n hx hb dX10_feedFour_17 rfl (lv_at hl 1 rfl) ?_
  refine va_get (D := (dC, dI)) (ci := 10) (v := .ref h1) (C := RX10) (T := TX10) (N := 16) hx hb hts inlX10 hown hK hP 0 rfl rfl 0 (by decide) (hts (.fieldLink RX10 9 "ShapeReader" "tape" "[B") mw_0_18) (fun _ h9 => h9) rfl dX10_feedFour_18 ?_
  refine lv_aload_n hx hb dX10_feedFour_21 rfl (lv_at hl 1 rfl) ?_
  refine va_get (D := (dC, dI)) (ci := 10) (v := .int 11) (C := RX10) (T := TX10) (N := 16) hx hb hts inlX10 hown hK hP 0 rfl rfl 1 (by decide) (hts (.fieldLink RX10 13 "ShapeReader" "tapeSize" "I") mw_0_19) (fun _ h9 => h9) rfl dX10_feedFour_22 ?_
  refine lv_iload_n hx hb dX10_feedFour_25 rfl (lv_at hl 2 rfl) ?_
  refine lv_iload_n hx hb dX10_feedFour_26 rfl (lv_at hl 0 rfl) ?_
  refine lv_ishr hx hb dX10_feedFour_27 ?_
  refine lv_topi (fun x_21 ex_21 => ?_)
  refine lv_i2b (v := x_21.toInt8.toInt32) hx hb dX10_feedFour_28 rfl ?_
  generalize x_21.toInt8.toInt32 = x_22
  refine va_bast hx hb hK hP hD hS 1 0 rfl rfl (vp_in_iff.mpr (by decide)) dX10_feedFour_29 (fun H locs hP hD hS => ?_)
  obtain ⟨f_23, hP, hD⟩ : ∃ f_23 : Nat → Int32, va_P (dC, dI) vwCl [(h0, .inr (10, [.ref h1, .int 11, (g 2), (g 3), (g 4), (g 5), (g 6), (g 7), (g 8), (g 9), (g 10), (g 11), (g 12), (g 13), (g 14), (g 15)])), (h1, .inl (cA, 1000, .inl f_23))] H ∧ va_D A [(h0, .inr (10, [.ref h1, .int 11, (g 2), (g 3), (g 4), (g 5), (g 6), (g 7), (g 8), (g 9), (g 10), (g 11), (g 12), (g 13), (g 14), (g 15)])), (h1, .inl (cA, 1000, .inl f_23))] := ⟨_, hP, hD⟩
  refine lv_aload_n hx hb dX10_feedFour_30 rfl (lv_at hl 1 rfl) ?_
  refine lv_dup hx hb dX10_feedFour_31 rfl ?_
  refine va_get (D := (dC, dI)) (ci := 10) (v := .int 11) (C := RX10) (T := TX10) (N := 16) hx hb hts inlX10 hown hK hP 0 rfl rfl 1 (by decide) (hts (.fieldLink RX10 13 "ShapeReader" "tapeSize" "I") mw_0_19) (fun _ h9 => h9) rfl dX10_feedFour_32 ?_
  refine lv_iconst (v := 1) hx hb dX10_feedFour_35 (by decide) ?_
  refine lv_iadd hx hb dX10_feedFour_36 ?_
  refine lv_topi (fun k_24 ek_24 => ?_)
  obtain rfl : k_24 = 12 := ek_24.trans (by decide)
  refine va_put (D := (dC, dI)) (ci := 10) (v := .int 12) (ty := .int) (C := RX10) (T := TX10) (N := 16) hx hb hts inlX10 tyX10 tyX10_ok nmX10 hown hK hP hD hS 0 rfl rfl 1 (by decide) (hts (.fieldLink RX10 13 "ShapeReader" "tapeSize" "I") mw_0_19) (fun _ h9 => h9) rfl (by decide +kernel) rfl rfl (Nat.le_of_ble_eq_true rfl) dX10_feedFour_37 (fun H locs hP hD hS => ?_)
  have hP : va_P (dC, dI) vwCl [(h0, .inr (10, [.ref h1, .int 12, (g 2), (g 3), (g 4), (g 5), (g 6), (g 7), (g 8), (g 9), (g 10), (g 11), (g 12), (g 13), (g 14), (g 15)])), (h1, .inl (cA, 1000, .inl f_23))] H := hP
  have hD : va_D A [(h0, .inr (10, [.ref h1, .int 12, (g 2), (g 3), (g 4), (g 5), (g 6), (g 7), (g 8), (g 9), (g 10), (g 11), (g 12), (g 13), (g 14), (g 15)])), (h1, .inl (cA, 1000, .inl f_23))] := hD
  refine lv_iinc (v := (-8)) (lv' := [(2, .int (-8)), (0, .ref h0), (1, .int p0)]) hx hb dX10_feedFour_40 hl (k := 0) rfl (by decide) (by decide) rfl (fun ls hl => ?_)
  refine lv_goto (tgt := 3) hx hb dX10_feedFour_43 (by decide) ?_
  refine lv_iload_n hx hb dX10_feedFour_3 rfl (lv_at hl 0 rfl) ?_
  refine lv_if_lt (tgt := 46) hx hb dX10_feedFour_4 (by decide) (fun _ => ?_) (fun h => absurd (by decide) h)
  have hP9 := hP.sub (ws' := [(h0, .inr (10, [.ref h1, .int 12, (g 2), (g 3), (g 4), (g 5), (g 6), (g 7), (g 8), (g 9), (g 10), (g 11), (g 12), (g 13), (g 14), (g 15)])), (h1, .inl (cA, 1000, .inl f_23))]) [0, 1] rfl
  have hD9 := hD.sub (ws' := [(h0, .inr (10, [.ref h1, .int 12, (g 2), (g 3), (g 4), (g 5), (g 6), (g 7), (g 8), (g 9), (g 10), (g 11), (g 12), (g 13), (g 14), (g 15)])), (h1, .inl (cA, 1000, .inl f_23))]) [0, 1] (by decide) rfl
  have hK9 := hK.sub (tys' := [(cA, .byte)]) [0] rfl
  refine W.widen (k := 0) (n := 0) (Nat.le_of_ble_eq_true rfl) (Nat.le_of_ble_eq_true rfl) ?_
  exact W.vret hx hb hr (fun t ht hW => ⟨⟨(), rfl, trivial, f_23, by rw [ht]; exact hP9, va_K.moved hW.alike hK9, hD9⟩, hS.F ht⟩) hS.2.2 dX10_feedFour_46

set_option maxRecDepth 100000 in
set_option maxHeartbeats 4000000 in
theorem c_feedFour12 (l : Launch) (dC : Nat → ClassId) (dI : Nat → Nat → Nat) (h0 : Nat) (h1 : Nat) (cA : ClassId) (f : Nat → Int32) (g : Nat → Value) (p0 : Int32) (sz : Nat) : Met l yX10_feedFour (.code yX10_feedFour cX10_feedFour 3 none :: pw) ({ frames := 0, cells := 0, slots := 0, locals := 0 }) (va_Pc [.ref h0, .int p0] (vPre dC dI [(h0, .inr (10, [.ref h1, .int 12, (g 2), (g 3), (g 4), (g 5), (g 6), (g 7), (g 8), (g 9), (g 10), (g 11), (g 12), (g 13), (g 14), (g 15)])), (h1, .inl (cA, 1000, .inl f))] [(cA, .byte)] sz)) (va_Qv (fun (_ : Unit) => True) (fun (_ : Unit) t => ∃ (f9 : Nat → Int32), vPst dC dI (va_A [(h0, .inr (10, [.ref h1, .int 12, (g 2), (g 3), (g 4), (g 5), (g 6), (g 7), (g 8), (g 9), (g 10), (g 11), (g 12), (g 13), (g 14), (g 15)])), (h1, .inl (cA, 1000, .inl f))] sz) [(h0, .inr (10, [.ref h1, .int 16, (g 2), (g 3), (g 4), (g 5), (g 6), (g 7), (g 8), (g 9), (g 10), (g 11), (g 12), (g 13), (g 14), (g 15)])), (h1, .inl (cA, 1000, .inl f9))] [(cA, .byte)] t) (va_A [(h0, .inr (10, [.ref h1, .int 12, (g 2), (g 3), (g 4), (g 5), (g 6), (g 7), (g 8), (g 9), (g 10), (g 11), (g 12), (g 13), (g 14), (g 15)])), (h1, .inl (cA, 1000, .inl f))] sz)) 0 0 (va_A [(h0, .inr (10, [.ref h1, .int 12, (g 2), (g 3), (g 4), (g 5), (g 6), (g 7), (g 8), (g 9), (g 10), (g 11), (g 12), (g 13), (g 14), (g 15)])), (h1, .inl (cA, 1000, .inl f))] sz) := by
  refine Met.ofW (cc := cX10_feedFour) (maxL := 3) (ret := none) (by decide) rfl ?_
  intro p e s m args below meth c s₁ B hml hv
  obtain ⟨rfl, hsz, hP, hK, hD0⟩ := hv
  have hx := B.exec
  have hb := B.bytes
  have hr := B.returns
  have hts := atoms_spec (ws := .code yX10_feedFour cX10_feedFour 3 none :: pw) B.pre
  have hts : ∀ w ∈ pw, w.before _ s = true := fun w h => hts w (List.mem_cons_of_mem _ h)
  have hown : s.vm.findClass RX10 = some m.cls := findClass_of_methodNamed B.named
  have hlocks := B.notSynchronized
  subst hsz
  have hD := hD0.self (sz := s.heap.size)
  generalize hAe : va_A [(h0, .inr (10, [.ref h1, .int 12, (g 2), (g 3), (g 4), (g 5), (g 6), (g 7), (g 8), (g 9), (g 10), (g 11), (g 12), (g 13), (g 14), (g 15)])), (h1, .inl (cA, 1000, .inl f))] s.heap.size = A at hD ⊢
  have hA : ∀ q : Nat, s.heap.size ≤ q → A q := fun q h => by rw [← hAe]; exact Or.inr h
  have hS : va_S A s.heap s.heap [] := va_S.rf
  have hP : va_P (dC, dI) vwCl [(h0, .inr (10, [.ref h1, .int 12, (g 2), (g 3), (g 4), (g 5), (g 6), (g 7), (g 8), (g 9), (g 10), (g 11), (g 12), (g 13), (g 14), (g 15)])), (h1, .inl (cA, 1000, .inl f))] s.heap := hP
  have hl := lv_entry ([.ref h0, .int p0]) (n := 3) (Nat.le_of_ble_eq_true rfl)
  rw [lg_entry_eq]
  generalize (lg_sl ([.ref h0, .int p0]) ++ List.replicate (3 - (lg_sl ([.ref h0, .int p0])).length) Slot.unset).toArray = ls at hl ⊢
  have hl : lv_has ls 3 [(0, .ref h0), (1, .int p0)] := hl
  refine lv_bipush (v := 24) hx hb dX10_feedFour_0 (by decide) ?_
  refine lv_istore_n (lv' := [(2, .int 24), (0, .ref h0), (1, .int p0)]) hx hb dX10_feedFour_2 rfl hl (by decide) rfl (fun ls hl => ?_)
  refine lv_iload_n hx hb dX10_feedFour_3 rfl (lv_at hl 0 rfl) ?_
  refine lv_if_lt (tgt := 46) hx hb dX10_feedFour_4 (by decide) (fun h => absurd h (by decide)) (fun _ => ?_)
  refine lv_aload_n hx hb dX10_feedFour_7 rfl (lv_at hl 1 rfl) ?_
  refine va_get (D := (dC, dI)) (ci := 10) (v := .int 12) (C := RX10) (T := TX10) (N := 16) hx hb hts inlX10 hown hK hP 0 rfl rfl 1 (by decide) (hts (.fieldLink RX10 13 "ShapeReader" "tapeSize" "I") mw_0_19) (fun _ h9 => h9) rfl dX10_feedFour_8 ?_
  refine lv_sipush (v := 1000) hx hb dX10_feedFour_11 (by decide) ?_
  refine lv_icmp_ge (tgt := 40) hx hb dX10_feedFour_14 (by decide) (fun h => absurd h (by decide)) (fun _ => ?_)
  refine lv_aload_n hx hb dX10_feedFour_17 rfl (lv_at hl 1 rfl) ?_
  refine va_get (D := (dC, dI)) (ci := 10) (v := .ref h1) (C := RX10) (T := TX10) (N := 16) hx hb hts inlX10 hown hK hP 0 rfl rfl 0 (by decide) (hts (.fieldLink RX10 9 "ShapeReader" "tape" "[B") mw_0_18) (fun _ h9 => h9) rfl dX10_feedFour_18 ?_
  refine lv_aload_n hx hb dX10_feedFour_21 rfl (lv_at hl 1 rfl) ?_
  refine va_get (D := (dC, dI)) (ci := 10) (v := .int 12) (C := RX10) (T := TX10) (N := 16) hx hb hts inlX10 hown hK hP 0 rfl rfl 1 (by decide) (hts (.fieldLink RX10 13 "ShapeReader" "tapeSize" "I") mw_0_19) (fun _ h9 => h9) rfl dX10_feedFour_22 ?_
  refine lv_iload_n hx hb dX10_feedFour_25 rfl (lv_at hl 2 rfl) ?_
  refine lv_iload_n hx hb dX10_feedFour_26 rfl (lv_at hl 0 rfl) ?_
  refine lv_ishr hx hb dX10_feedFour_27 ?_
  refine lv_topi (fun x_3 ex_3 => ?_)
  refine lv_i2b (v := x_3.toInt8.toInt32) hx hb dX10_feedFour_28 rfl ?_
  generalize x_3.toInt8.toInt32 = x_4
  refine va_bast hx hb hK hP hD hS 1 0 rfl rfl (vp_in_iff.mpr (by decide)) dX10_feedFour_29 (fun H locs hP hD hS => ?_)
  obtain ⟨f_5, hP, hD⟩ : ∃ f_5 : Nat → Int32, va_P (dC, dI) vwCl [(h0, .inr (10, [.ref h1, .int 12, (g 2), (g 3), (g 4), (g 5), (g 6), (g 7), (g 8), (g 9), (g 10), (g 11), (g 12), (g 13), (g 14), (g 15)])), (h1, .inl (cA, 1000, .inl f_5))] H ∧ va_D A [(h0, .inr (10, [.ref h1, .int 12, (g 2), (g 3), (g 4), (g 5), (g 6), (g 7), (g 8), (g 9), (g 10), (g 11), (g 12), (g 13), (g 14), (g 15)])), (h1, .inl (cA, 1000, .inl f_5))] := ⟨_, hP, hD⟩
  refine lv_aload_n hx hb dX10_feedFour_30 rfl (lv_at hl 1 rfl) ?_
  refine lv_dup hx hb dX10_feedFour_31 rfl ?_
  refine va_get (D := (dC, dI)) (ci := 10) (v := .int 12) (C := RX10) (T := TX10) (N := 16) hx hb hts inlX10 hown hK hP 0 rfl rfl 1 (by decide) (hts (.fieldLink RX10 13 "ShapeReader" "tapeSize" "I") mw_0_19) (fun _ h9 => h9) rfl dX10_feedFour_32 ?_
  refine lv_iconst (v := 1) hx hb dX10_feedFour_35 (by decide) ?_
  refine lv_iadd hx hb dX10_feedFour_36 ?_
  refine lv_topi (fun k_6 ek_6 => ?_)
  obtain rfl : k_6 = 13 := ek_6.trans (by decide)
  refine va_put (D := (dC, dI)) (ci := 10) (v := .int 13) (ty := .int) (C := RX10) (T := TX10) (N := 16) hx hb hts inlX10 tyX10 tyX10_ok nmX10 hown hK hP hD hS 0 rfl rfl 1 (by decide) (hts (.fieldLink RX10 13 "ShapeReader" "tapeSize" "I") mw_0_19) (fun _ h9 => h9) rfl (by decide +kernel) rfl rfl (Nat.le_of_ble_eq_true rfl) dX10_feedFour_37 (fun H locs hP hD hS => ?_)
  have hP : va_P (dC, dI) vwCl [(h0, .inr (10, [.ref h1, .int 13, (g 2), (g 3), (g 4), (g 5), (g 6), (g 7), (g 8), (g 9), (g 10), (g 11), (g 12), (g 13), (g 14), (g 15)])), (h1, .inl (cA, 1000, .inl f_5))] H := hP
  have hD : va_D A [(h0, .inr (10, [.ref h1, .int 13, (g 2), (g 3), (g 4), (g 5), (g 6), (g 7), (g 8), (g 9), (g 10), (g 11), (g 12), (g 13), (g 14), (g 15)])), (h1, .inl (cA, 1000, .inl f_5))] := hD
  refine lv_iinc (v := 16) (lv' := [(2, .int 16), (0, .ref h0), (1, .int p0)]) hx hb dX10_feedFour_40 hl (k := 0) rfl (by decide) (by decide) rfl (fun ls hl => ?_)
  refine lv_goto (tgt := 3) hx hb dX10_feedFour_43 (by decide) ?_
  refine lv_iload_n hx hb dX10_feedFour_3 rfl (lv_at hl 0 rfl) ?_
  refine lv_if_lt (tgt := 46) hx hb dX10_feedFour_4 (by decide) (fun h => absurd h (by decide)) (fun _ => ?_)
  refine lv_aload_n hx hb dX10_feedFour_7 rfl (lv_at hl 1 rfl) ?_
  refine va_get (D := (dC, dI)) (ci := 10) (v := .int 13) (C := RX10) (T := TX10) (N := 16) hx hb hts inlX10 hown hK hP 0 rfl rfl 1 (by decide) (hts (.fieldLink RX10 13 "ShapeReader" "tapeSize" "I") mw_0_19) (fun _ h9 => h9) rfl dX10_feedFour_8 ?_
  refine lv_sipush (v := 1000) hx hb dX10_feedFour_11 (by decide) ?_
  refine lv_icmp_ge (tgt := 40) hx hb dX10_feedFour_14 (by decide) (fun h => absurd h (by decide)) (fun _ => ?_)
  refine lv_aload_n hx hb dX10_feedFour_17 rfl (lv_at hl 1 rfl) ?_
  refine va_get (D := (dC, dI)) (ci := 10) (v := .ref h1) (C := RX10) (T := TX10) (N := 16) hx hb hts inlX10 hown hK hP 0 rfl rfl 0 (by decide) (hts (.fieldLink RX10 9 "ShapeReader" "tape" "[B") mw_0_18) (fun _ h9 => h9) rfl dX10_feedFour_18 ?_
  refine lv_aload_n hx hb dX10_feedFour_21 rfl (lv_at hl 1 rfl) ?_
  refine va_get (D := (dC, dI)) (ci := 10) (v := .int 13) (C := RX10) (T := TX10) (N := 16) hx hb hts inlX10 hown hK hP 0 rfl rfl 1 (by decide) (hts (.fieldLink RX10 13 "ShapeReader" "tapeSize" "I") mw_0_19) (fun _ h9 => h9) rfl dX10_feedFour_22 ?_
  refine lv_iload_n hx hb dX10_feedFour_25 rfl (lv_at hl 2 rfl) ?_
  refine lv_iload_n hx hb dX10_feedFour_26 rfl (lv_at hl 0 rfl) ?_
  refine lv_ishr hx hb dX10_feedFour_27 ?_
  refine lv_topi (fun x_9 ex_9 => ?_)
  refine lv_i2b (v := x_9.toInt8.toInt32) hx hb dX10_feedFour_28 rfl ?_
  generalize x_9.toInt8.toInt32 = x_10
  refine va_bast hx hb hK hP hD hS 1 0 rfl rfl (vp_in_iff.mpr (by decide)) dX10_feedFour_29 (fun H locs hP hD hS => ?_)
  obtain ⟨f_11, hP, hD⟩ : ∃ f_11 : Nat → Int32, va_P (dC, dI) vwCl [(h0, .inr (10, [.ref h1, .int 13, (g 2), (g 3), (g 4), (g 5), (g 6), (g 7), (g 8), (g 9), (g 10), (g 11), (g 12), (g 13), (g 14), (g 15)])), (h1, .inl (cA, 1000, .inl f_11))] H ∧ va_D A [(h0, .inr (10, [.ref h1, .int 13, (g 2), (g 3), (g 4), (g 5), (g 6), (g 7), (g 8), (g 9), (g 10), (g 11), (g 12), (g 13), (g 14), (g 15)])), (h1, .inl (cA, 1000, .inl f_11))] := ⟨_, hP, hD⟩
  refine lv_aload_n hx hb dX10_feedFour_30 rfl (lv_at hl 1 rfl) ?_
  refine lv_dup hx hb dX10_feedFour_31 rfl ?_
  refine va_get (D := (dC, dI)) (ci := 10) (v := .int 13) (C := RX10) (T := TX10) (N := 16) hx hb hts inlX10 hown hK hP 0 rfl rfl 1 (by decide) (hts (.fieldLink RX10 13 "ShapeReader" "tapeSize" "I") mw_0_19) (fun _ h9 => h9) rfl dX10_feedFour_32 ?_
  refine lv_iconst (v := 1) hx hb dX10_feedFour_35 (by decide) ?_
  refine lv_iadd hx hb dX10_feedFour_36 ?_
  refine lv_topi (fun k_12 ek_12 => ?_)
  obtain rfl : k_12 = 14 := ek_12.trans (by decide)
  refine va_put (D := (dC, dI)) (ci := 10) (v := .int 14) (ty := .int) (C := RX10) (T := TX10) (N := 16) hx hb hts inlX10 tyX10 tyX10_ok nmX10 hown hK hP hD hS 0 rfl rfl 1 (by decide) (hts (.fieldLink RX10 13 "ShapeReader" "tapeSize" "I") mw_0_19) (fun _ h9 => h9) rfl (by decide +kernel) rfl rfl (Nat.le_of_ble_eq_true rfl) dX10_feedFour_37 (fun H locs hP hD hS => ?_)
  have hP : va_P (dC, dI) vwCl [(h0, .inr (10, [.ref h1, .int 14, (g 2), (g 3), (g 4), (g 5), (g 6), (g 7), (g 8), (g 9), (g 10), (g 11), (g 12), (g 13), (g 14), (g 15)])), (h1, .inl (cA, 1000, .inl f_11))] H := hP
  have hD : va_D A [(h0, .inr (10, [.ref h1, .int 14, (g 2), (g 3), (g 4), (g 5), (g 6), (g 7), (g 8), (g 9), (g 10), (g 11), (g 12), (g 13), (g 14), (g 15)])), (h1, .inl (cA, 1000, .inl f_11))] := hD
  refine lv_iinc (v := 8) (lv' := [(2, .int 8), (0, .ref h0), (1, .int p0)]) hx hb dX10_feedFour_40 hl (k := 0) rfl (by decide) (by decide) rfl (fun ls hl => ?_)
  refine lv_goto (tgt := 3) hx hb dX10_feedFour_43 (by decide) ?_
  refine lv_iload_n hx hb dX10_feedFour_3 rfl (lv_at hl 0 rfl) ?_
  refine lv_if_lt (tgt := 46) hx hb dX10_feedFour_4 (by decide) (fun h => absurd h (by decide)) (fun _ => ?_)
  refine lv_aload_n hx hb dX10_feedFour_7 rfl (lv_at hl 1 rfl) ?_
  refine va_get (D := (dC, dI)) (ci := 10) (v := .int 14) (C := RX10) (T := TX10) (N := 16) hx hb hts inlX10 hown hK hP 0 rfl rfl 1 (by decide) (hts (.fieldLink RX10 13 "ShapeReader" "tapeSize" "I") mw_0_19) (fun _ h9 => h9) rfl dX10_feedFour_8 ?_
  refine lv_sipush (v := 1000) hx hb dX10_feedFour_11 (by decide) ?_
  refine lv_icmp_ge (tgt := 40) hx hb dX10_feedFour_14 (by decide) (fun h => absurd h (by decide)) (fun _ => ?_)
  refine lv_aload_n hx hb dX10_feedFour_17 rfl (lv_at hl 1 rfl) ?_
  refine va_get (D := (dC, dI)) (ci := 10) (v := .ref h1) (C := RX10) (T := TX10) (N := 16) hx hb hts inlX10 hown hK hP 0 rfl rfl 0 (by decide) (hts (.fieldLink RX10 9 "ShapeReader" "tape" "[B") mw_0_18) (fun _ h9 => h9) rfl dX10_feedFour_18 ?_
  refine lv_aload_n hx hb dX10_feedFour_21 rfl (lv_at hl 1 rfl) ?_
  refine va_get (D := (dC, dI)) (ci := 10) (v := .int 14) (C := RX10) (T := TX10) (N := 16) hx hb hts inlX10 hown hK hP 0 rfl rfl 1 (by decide) (hts (.fieldLink RX10 13 "ShapeReader" "tapeSize" "I") mw_0_19) (fun _ h9 => h9) rfl dX10_feedFour_22 ?_
  refine lv_iload_n hx hb dX10_feedFour_25 rfl (lv_at hl 2 rfl) ?_
  refine lv_iload_n hx hb dX10_feedFour_26 rfl (lv_at hl 0 rfl) ?_
  refine lv_ishr hx hb dX10_feedFour_27 ?_
  refine lv_topi (fun x_15 ex_15 => ?_)
  refine lv_i2b (v := x_15.toInt8.toInt32) hx hb dX10_feedFour_28 rfl ?_
  generalize x_15.toInt8.toInt32 = x_16
  refine va_bast hx hb hK hP hD hS 1 0 rfl rfl (vp_in_iff.mpr (by decide)) dX10_feedFour_29 (fun H locs hP hD hS => ?_)
  obtain ⟨f_17, hP, hD⟩ : ∃ f_17 : Nat → Int32, va_P (dC, dI) vwCl [(h0, .inr (10, [.ref h1, .int 14, (g 2), (g 3), (g 4), (g 5), (g 6), (g 7), (g 8), (g 9), (g 10), (g 11), (g 12), (g 13), (g 14), (g 15)])), (h1, .inl (cA, 1000, .inl f_17))] H ∧ va_D A [(h0, .inr (10, [.ref h1, .int 14, (g 2), (g 3), (g 4), (g 5), (g 6), (g 7), (g 8), (g 9), (g 10), (g 11), (g 12), (g 13), (g 14), (g 15)])), (h1, .inl (cA, 1000, .inl f_17))] := ⟨_, hP, hD⟩
  refine lv_aload_n hx hb dX10_feedFour_30 rfl (lv_at hl 1 rfl) ?_
  refine lv_dup hx hb dX10_feedFour_31 rfl ?_
  refine va_get (D := (dC, dI)) (ci := 10) (v := .int 14) (C := RX10) (T := TX10) (N := 16) hx hb hts inlX10 hown hK hP 0 rfl rfl 1 (by decide) (hts (.fieldLink RX10 13 "ShapeReader" "tapeSize" "I") mw_0_19) (fun _ h9 => h9) rfl dX10_feedFour_32 ?_
  refine lv_iconst (v := 1) hx hb dX10_feedFour_35 (by decide) ?_
  refine lv_iadd hx hb dX10_feedFour_36 ?_
  refine lv_topi (fun k_18 ek_18 => ?_)
  obtain rfl : k_18 = 15 := ek_18.trans (by decide)
  refine va_put (D := (dC, dI)) (ci := 10) (v := .int 15) (ty := .int) (C := RX10) (T := TX10) (N := 16) hx hb hts inlX10 tyX10 tyX10_ok nmX10 hown hK hP hD hS 0 rfl rfl 1 (by decide) (hts (.fieldLink RX10 13 "ShapeReader" "tapeSize" "I") mw_0_19) (fun _ h9 => h9) rfl (by decide +kernel) rfl rfl (Nat.le_of_ble_eq_true rfl) dX10_feedFour_37 (fun H locs hP hD hS => ?_)
  have hP : va_P (dC, dI) vwCl [(h0, .inr (10, [.ref h1, .int 15, (g 2), (g 3), (g 4), (g 5), (g 6), (g 7), (g 8), (g 9), (g 10), (g 11), (g 12), (g 13), (g 14), (g 15)])), (h1, .inl (cA, 1000, .inl f_17))] H := hP
  have hD : va_D A [(h0, .inr (10, [.ref h1, .int 15, (g 2), (g 3), (g 4), (g 5), (g 6), (g 7), (g 8), (g 9), (g 10), (g 11), (g 12), (g 13), (g 14), (g 15)])), (h1, .inl (cA, 1000, .inl f_17))] := hD
  refine lv_iinc (v := 0) (lv' := [(2, .int 0), (0, .ref h0), (1, .int p0)]) hx hb dX10_feedFour_40 hl (k := 0) rfl (by decide) (by decide) rfl (fun ls hl => ?_)
  refine lv_goto (tgt := 3) hx hb dX10_feedFour_43 (by decide) ?_
  refine lv_iload_n hx hb dX10_feedFour_3 rfl (lv_at hl 0 rfl) ?_
  refine lv_if_lt (tgt := 46) hx hb dX10_feedFour_4 (by decide) (fun h => absurd h (by decide)) (fun _ => ?_)
  refine lv_aload_n hx hb dX10_feedFour_7 rfl (lv_at hl 1 rfl) ?_
  refine va_get (D := (dC, dI)) (ci := 10) (v := .int 15) (C := RX10) (T := TX10) (N := 16) hx hb hts inlX10 hown hK hP 0 rfl rfl 1 (by decide) (hts (.fieldLink RX10 13 "ShapeReader" "tapeSize" "I") mw_0_19) (fun _ h9 => h9) rfl dX10_feedFour_8 ?_
  refine lv_sipush (v := 1000) hx hb dX10_feedFour_11 (by decide) ?_
  refine lv_icmp_ge (tgt := 40) hx hb dX10_feedFour_14 (by decide) (fun h => absurd h (by decide)) (fun _ => ?_)
  refine lv_aload_n hx hb dX10_feedFour_17 rfl (lv_at hl 1 rfl) ?_
  refine va_get (D := (dC, dI)) (ci := 10) (v := .ref h1) (C := RX10) (T := TX10) (N := 16) hx hb hts inlX10 hown hK hP 0 rfl rfl 0 (by decide) (hts (.fieldLink RX10 9 "ShapeReader" "tape" "[B") mw_0_18) (fun _ h9 => h9) rfl dX10_feedFour_18 ?_
  refine lv_aload_n hx hb dX10_feedFour_21 rfl (lv_at hl 1 rfl) ?_
  refine va_get (D := (dC, dI)) (ci := 10) (v := .int 15) (C := RX10) (T := TX10) (N := 16) hx hb hts inlX10 hown hK hP 0 rfl rfl 1 (by decide) (hts (.fieldLink RX10 13 "ShapeReader" "tapeSize" "I") mw_0_19) (fun _ h9 => h9) rfl dX10_feedFour_22 ?_
  refine lv_iload_n hx hb dX10_feedFour_25 rfl (lv_at hl 2 rfl) ?_
  refine lv_iload_n hx hb dX10_feedFour_26 rfl (lv_at hl 0 rfl) ?_
  refine lv_ishr hx hb dX10_feedFour_27 ?_
  refine lv_topi (fun x_21 ex_21 => ?_)
  refine lv_i2b (v := x_21.toInt8.toInt32) hx hb dX10_feedFour_28 rfl ?_
  generalize x_21.toInt8.toInt32 = x_22
  refine va_bast hx hb hK hP hD hS 1 0 rfl rfl (vp_in_iff.mpr (by decide)) dX10_feedFour_29 (fun H locs hP hD hS => ?_)
  obtain ⟨f_23, hP, hD⟩ : ∃ f_23 : Nat → Int32, va_P (dC, dI) vwCl [(h0, .inr (10, [.ref h1, .int 15, (g 2), (g 3), (g 4), (g 5), (g 6), (g 7), (g 8), (g 9), (g 10), (g 11), (g 12), (g 13), (g 14), (g 15)])), (h1, .inl (cA, 1000, .inl f_23))] H ∧ va_D A [(h0, .inr (10, [.ref h1, .int 15, (g 2), (g 3), (g 4), (g 5), (g 6), (g 7), (g 8), (g 9), (g 10), (g 11), (g 12), (g 13), (g 14), (g 15)])), (h1, .inl (cA, 1000, .inl f_23))] := ⟨_, hP, hD⟩
  refine lv_aload_n hx hb dX10_feedFour_30 rfl (lv_at hl 1 rfl) ?_
  refine lv_dup hx hb dX10_feedFour_31 rfl ?_
  refine va_get (D := (dC, dI)) (ci := 10) (v := .int 15) (C := RX10) (T := TX10) (N := 16) hx hb hts inlX10 hown hK hP 0 rfl rfl 1 (by decide) (hts (.fieldLink RX10 13 "ShapeReader" "tapeSize" "I") mw_0_19) (fun _ h9 => h9) rfl dX10_feedFour_32 ?_
  refine lv_iconst (v := 1) hx hb dX10_feedFour_35 (by decide) ?_
  refine lv_iadd hx hb dX10_feedFour_36 ?_
  refine lv_topi (fun k_24 ek_24 => ?_)
  obtain rfl : k_24 = 16 := ek_24.trans (by decide)
  refine va_put (D := (dC, dI)) (ci := 10) (v := .int 16) (ty := .int) (C := RX10) (T := TX10) (N := 16) hx hb hts inlX10 tyX10 tyX10_ok nmX10 hown hK hP hD hS 0 rfl rfl 1 (by decide) (hts (.fieldLink RX10 13 "ShapeReader" "tapeSize" "I") mw_0_19) (fun _ h9 => h9) rfl (by decide +kernel) rfl rfl (Nat.le_of_ble_eq_true rfl) dX10_feedFour_37 (fun H locs hP hD hS => ?_)
  have hP : va_P (dC, dI) vwCl [(h0, .inr (10, [.ref h1, .int 16, (g 2), (g 3), (g 4), (g 5), (g 6), (g 7), (g 8), (g 9), (g 10), (g 11), (g 12), (g 13), (g 14), (g 15)])), (h1, .inl (cA, 1000, .inl f_23))] H := hP
  have hD : va_D A [(h0, .inr (10, [.ref h1, .int 16, (g 2), (g 3), (g 4), (g 5), (g 6), (g 7), (g 8), (g 9), (g 10), (g 11), (g 12), (g 13), (g 14), (g 15)])), (h1, .inl (cA, 1000, .inl f_23))] := hD
  refine lv_iinc (v := (-8)) (lv' := [(2, .int (-8)), (0, .ref h0), (1, .int p0)]) hx hb dX10_feedFour_40 hl (k := 0) rfl (by decide) (by decide) rfl (fun ls hl => ?_)
  refine lv_goto (tgt := 3) hx hb dX10_feedFour_43 (by decide) ?_
  refine lv_iload_n hx hb dX10_feedFour_3 rfl (lv_at hl 0 rfl) ?_
  refine lv_if_lt (tgt := 46) hx hb dX10_feedFour_4 (by decide) (fun _ => ?_) (fun h => absurd (by decide) h)
  have hP9 := hP.sub (ws' := [(h0, .inr (10, [.ref h1, .int 16, (g 2), (g 3), (g 4), (g 5), (g 6), (g 7), (g 8), (g 9), (g 10), (g 11), (g 12), (g 13), (g 14), (g 15)])), (h1, .inl (cA, 1000, .inl f_23))]) [0, 1] rfl
  have hD9 := hD.sub (ws' := [(h0, .inr (10, [.ref h1, .int 16, (g 2), (g 3), (g 4), (g 5), (g 6), (g 7), (g 8), (g 9), (g 10), (g 11), (g 12), (g 13), (g 14), (g 15)])), (h1, .inl (cA, 1000, .inl f_23))]) [0, 1] (by decide) rfl
  have hK9 := hK.sub (tys' := [(cA, .byte)]) [0] rfl
  refine W.widen (k := 0) (n := 0) (Nat.le_of_ble_eq_true rfl) (Nat.le_of_ble_eq_true rfl) ?_
  exact W.vret hx hb hr (fun t ht hW => ⟨⟨(), rfl, trivial, f_23, by rw [ht]; exact hP9, va_K.moved hW.alike hK9, hD9⟩, hS.F ht⟩) hS.2.2 dX10_feedFour_46

set_option maxRecDepth 100000 in
set_option maxHeartbeats 4000000 in
theorem c_feedFour16 (l : Launch) (dC : Nat → ClassId) (dI : Nat → Nat → Nat) (h0 : Nat) (h1 : Nat) (cA : ClassId) (f : Nat → Int32) (g : Nat → Value) (p0 : Int32) (sz : Nat) : Met l yX10_feedFour (.code yX10_feedFour cX10_feedFour 3 none :: pw) ({ frames := 0, cells := 0, slots := 0, locals := 0 }) (va_Pc [.ref h0, .int p0] (vPre dC dI [(h0, .inr (10, [.ref h1, .int 16, (g 2), (g 3), (g 4), (g 5), (g 6), (g 7), (g 8), (g 9), (g 10), (g 11), (g 12), (g 13), (g 14), (g 15)])), (h1, .inl (cA, 1000, .inl f))] [(cA, .byte)] sz)) (va_Qv (fun (_ : Unit) => True) (fun (_ : Unit) t => ∃ (f9 : Nat → Int32), vPst dC dI (va_A [(h0, .inr (10, [.ref h1, .int 16, (g 2), (g 3), (g 4), (g 5), (g 6), (g 7), (g 8), (g 9), (g 10), (g 11), (g 12), (g 13), (g 14), (g 15)])), (h1, .inl (cA, 1000, .inl f))] sz) [(h0, .inr (10, [.ref h1, .int 20, (g 2), (g 3), (g 4), (g 5), (g 6), (g 7), (g 8), (g 9), (g 10), (g 11), (g 12), (g 13), (g 14), (g 15)])), (h1, .inl (cA, 1000, .inl f9))] [(cA, .byte)] t) (va_A [(h0, .inr (10, [.ref h1, .int 16, (g 2), (g 3), (g 4), (g 5), (g 6), (g 7), (g 8), (g 9), (g 10), (g 11), (g 12), (g 13), (g 14), (g 15)])), (h1, .inl (cA, 1000, .inl f))] sz)) 0 0 (va_A [(h0, .inr (10, [.ref h1, .int 16, (g 2), (g 3), (g 4), (g 5), (g 6), (g 7), (g 8), (g 9), (g 10), (g 11), (g 12), (g 13), (g 14), (g 15)])), (h1, .inl (cA, 1000, .inl f))] sz) := by
  refine Met.ofW (cc := cX10_feedFour) (maxL := 3) (ret := none) (by decide) rfl ?_
  intro p e s m args below meth c s₁ B hml hv
  obtain ⟨rfl, hsz, hP, hK, hD0⟩ := hv
  have hx := B.exec
  have hb := B.bytes
  have hr := B.returns
  have hts := atoms_spec (ws := .code yX10_feedFour cX10_feedFour 3 none :: pw) B.pre
  have hts : ∀ w ∈ pw, w.before _ s = true := fun w h => hts w (List.mem_cons_of_mem _ h)
  have hown : s.vm.findClass RX10 = some m.cls := findClass_of_methodNamed B.named
  have hlocks := B.notSynchronized
  subst hsz
  have hD := hD0.self (sz := s.heap.size)
  generalize hAe : va_A [(h0, .inr (10, [.ref h1, .int 16, (g 2), (g 3), (g 4), (g 5), (g 6), (g 7), (g 8), (g 9), (g 10), (g 11), (g 12), (g 13), (g 14), (g 15)])), (h1, .inl (cA, 1000, .inl f))] s.heap.size = A at hD ⊢
  have hA : ∀ q : Nat, s.heap.size ≤ q → A q := fun q h => by rw [← hAe]; exact Or.inr h
  have hS : va_S A s.heap s.heap [] := va_S.rf
  have hP : va_P (dC, dI) vwCl [(h0, .inr (10, [.ref h1, .int 16, (g 2), (g 3), (g 4), (g 5), (g 6), (g 7), (g 8), (g 9), (g 10), (g 11), (g 12), (g 13), (g 14), (g 15)])), (h1, .inl (cA, 1000, .inl f))] s.heap := hP
  have hl := lv_entry ([.ref h0, .int p0]) (n := 3) (Nat.le_of_ble_eq_true rfl)
  rw [lg_entry_eq]
  generalize (lg_sl ([.ref h0, .int p0]) ++ List.replicate (3 - (lg_sl ([.ref h0, .int p0])).length) Slot.unset).toArray = ls at hl ⊢
  have hl : lv_has ls 3 [(0, .ref h0), (1, .int p0)] := hl
  refine lv_bipush (v := 24) hx hb dX10_feedFour_0 (by decide) ?_
  refine lv_istore_n (lv' := [(2, .int 24), (0, .ref h0), (1, .int p0)]) hx hb dX10_feedFour_2 rfl hl (by decide) rfl (fun ls hl => ?_)
  refine lv_iload_n hx hb dX10_feedFour_3 rfl (lv_at hl 0 rfl) ?_
  refine lv_if_lt (tgt := 46) hx hb dX10_feedFour_4 (by decide) (fun h => absurd h (by decide)) (fun _ => ?_)
  refine lv_aload_n hx hb dX10_feedFour_7 rfl (lv_at hl 1 rfl) ?_
  refine va_get (D := (dC, dI)) (ci := 10) (v := .int 16) (C := RX10) (T := TX10) (N := 16) hx hb hts inlX10 hown hK hP 0 rfl rfl 1 (by decide) (hts (.fieldLink RX10 13 "ShapeReader" "tapeSize" "I") mw_0_19) (fun _ h9 => h9) rfl dX10_feedFour_8 ?_
  refine lv_sipush (v := 1000) hx hb dX10_feedFour_11 (by decide) ?_
  refine lv_icmp_ge (tgt := 40) hx hb dX10_feedFour_14 (by decide) (fun h => absurd h (by decide)) (fun _ => ?_)
  refine lv_aload_n hx hb dX10_feedFour_17 rfl (lv_at hl 1 rfl) ?_
  refine va_get (D := (dC, dI)) (ci := 10) (v := .ref h1) (C := RX10) (T := TX10) (N := 16) hx hb hts inlX10 hown hK hP 0 rfl rfl 0 (by decide) (hts (.fieldLink RX10 9 "ShapeReader" "tape" "[B") mw_0_18) (fun _ h9 => h9) rfl dX10_feedFour_18 ?_
  refine lv_aload_n hx hb dX10_feedFour_21 rfl (lv_at hl 1 rfl) ?_
  refine va_get (D := (dC, dI)) (ci := 10) (v := .int 16) (C := RX10) (T := TX10) (N := 16) hx hb hts inlX10 hown hK hP 0 rfl rfl 1 (by decide) (hts (.fieldLink RX10 13 "ShapeReader" "tapeSize" "I") mw_0_19) (fun _ h9 => h9) rfl dX10_feedFour_22 ?_
  refine lv_iload_n hx hb dX10_feedFour_25 rfl (lv_at hl 2 rfl) ?_
  refine lv_iload_n hx hb dX10_feedFour_26 rfl (lv_at hl 0 rfl) ?_
  refine lv_ishr hx hb dX10_feedFour_27 ?_
  refine lv_topi (fun x_3 ex_3 => ?_)
  refine lv_i2b (v := x_3.toInt8.toInt32) hx hb dX10_feedFour_28 rfl ?_
  generalize x_3.toInt8.toInt32 = x_4
  refine va_bast hx hb hK hP hD hS 1 0 rfl rfl (vp_in_iff.mpr (by decide)) dX10_feedFour_29 (fun H locs hP hD hS => ?_)
  obtain ⟨f_5, hP, hD⟩ : ∃ f_5 : Nat → Int32, va_P (dC, dI) vwCl [(h0, .inr (10, [.ref h1, .int 16, (g 2), (g 3), (g 4), (g 5), (g 6), (g 7), (g 8), (g 9), (g 10), (g 11), (g 12), (g 13), (g 14), (g 15)])), (h1, .inl (cA, 1000, .inl f_5))] H ∧ va_D A [(h0, .inr (10, [.ref h1, .int 16, (g 2), (g 3), (g 4), (g 5), (g 6), (g 7), (g 8), (g 9), (g 10), (g 11), (g 12), (g 13), (g 14), (g 15)])), (h1, .inl (cA, 1000, .inl f_5))] := ⟨_, hP, hD⟩
  refine lv_aload_n hx hb dX10_feedFour_30 rfl (lv_at hl 1 rfl) ?_
  refine lv_dup hx hb dX10_feedFour_31 rfl ?_
  refine va_get (D := (dC, dI)) (ci := 10) (v := .int 16) (C := RX10) (T := TX10) (N := 16) hx hb hts inlX10 hown hK hP 0 rfl rfl 1 (by decide) (hts (.fieldLink RX10 13 "ShapeReader" "tapeSize" "I") mw_0_19) (fun _ h9 => h9) rfl dX10_feedFour_32 ?_
  refine lv_iconst (v := 1) hx hb dX10_feedFour_35 (by decide) ?_
  refine lv_iadd hx hb dX10_feedFour_36 ?_
  refine lv_topi (fun k_6 ek_6 => ?_)
  obtain rfl : k_6 = 17 := ek_6.trans (by decide)
  refine va_put (D := (dC, dI)) (ci := 10) (v := .int 17) (ty := .int) (C := RX10) (T := TX10) (N := 16) hx hb hts inlX10 tyX10 tyX10_ok nmX10 hown hK hP hD hS 0 rfl rfl 1 (by decide) (hts (.fieldLink RX10 13 "ShapeReader" "tapeSize" "I") mw_0_19) (fun _ h9 => h9) rfl (by decide +kernel) rfl rfl (Nat.le_of_ble_eq_true rfl) dX10_feedFour_37 (fun H locs hP hD hS => ?_)
  have hP : va_P (dC, dI) vwCl [(h0, .inr (10, [.ref h1, .int 17, (g 2), (g 3), (g 4), (g 5), (g 6), (g 7), (g 8), (g 9), (g 10), (g 11), (g 12), (g 13), (g 14), (g 15)])), (h1, .inl (cA, 1000, .inl f_5))] H := hP
  have hD : va_D A [(h0, .inr (10, [.ref h1, .int 17, (g 2), (g 3), (g 4), (g 5), (g 6), (g 7), (g 8), (g 9), (g 10), (g 11), (g 12), (g 13), (g 14), (g 15)])), (h1, .inl (cA, 1000, .inl f_5))] := hD
  refine lv_iinc (v := 16) (lv' := [(2, .int 16), (0, .ref h0), (1, .int p0)]) hx hb dX10_feedFour_40 hl (k := 0) rfl (by decide) (by decide) rfl (fun ls hl => ?_)
  refine lv_goto (tgt := 3) hx hb dX10_feedFour_43 (by decide) ?_
  refine lv_iload_n hx hb dX10_feedFour_3 rfl (lv_at hl 0 rfl) ?_
  refine lv_if_lt (tgt := 46) hx hb dX10_feedFour_4 (by decide) (fun h => absurd h (by decide)) (fun _ => ?_)
  refine lv_aload_n hx hb dX10_feedFour_7 rfl (lv_at hl 1 rfl) ?_
  refine va_get (D := (dC, dI)) (ci := 10) (v := .int 17) (C := RX10) (T := TX10) (N := 16) hx hb hts inlX10 hown hK hP 0 rfl rfl 1 (by decide) (hts (.fieldLink RX10 13 "ShapeReader" "tapeSize" "I") mw_0_19) (fun _ h9 => h9) rfl dX10_feedFour_8 ?_
  refine lv_sipush (v := 1000) hx hb dX10_feedFour_11 (by decide) ?_
  refine lv_icmp_ge (tgt := 40) hx hb dX10_feedFour_14 (by decide) (fun h => absurd h (by decide)) (fun _ => ?_)
  refine lv_aload_n hx hb dX10_feedFour_17 rfl (lv_at hl 1 rfl) ?_
  refine va_get (D := (dC, dI)) (ci := 10) (v := .ref h1) (C := RX10) (T := TX10) (N := 16) hx hb hts inlX10 hown hK hP 0 rfl rfl 0 (by decide) (hts (.fieldLink RX10 9 "ShapeReader" "tape" "[B") mw_0_18) (fun _ h9 => h9) rfl dX10_feedFour_18 ?_
  refine lv_aload_n hx hb dX10_feedFour_21 rfl (lv_at hl 1 rfl) ?_
  refine va_get (D := (dC, dI)) (ci := 10) (v := .int 17) (C := RX10) (T := TX10) (N := 16) hx hb hts inlX10 hown hK hP 0 rfl rfl 1 (by decide) (hts (.fieldLink RX10 13 "ShapeReader" "tapeSize" "I") mw_0_19) (fun _ h9 => h9) rfl dX10_feedFour_22 ?_
  refine lv_iload_n hx hb dX10_feedFour_25 rfl (lv_at hl 2 rfl) ?_
  refine lv_iload_n hx hb dX10_feedFour_26 rfl (lv_at hl 0 rfl) ?_
  refine lv_ishr hx hb dX10_feedFour_27 ?_
  refine lv_topi (fun x_9 ex_9 => ?_)
  refine lv_i2b (v := x_9.toInt8.toInt32) hx hb dX10_feedFour_28 rfl ?_
  generalize x_9.toInt8.toInt32 = x_10
  refine va_bast hx hb hK hP hD hS 1 0 rfl rfl (vp_in_iff.mpr (by decide)) dX10_feedFour_29 (fun H locs hP hD hS => ?_)
  obtain ⟨f_11, hP, hD⟩ : ∃ f_11 : Nat → Int32, va_P (dC, dI) vwCl [(h0, .inr (10, [.ref h1, .int 17, (g 2), (g 3), (g 4), (g 5), (g 6), (g 7), (g 8), (g 9), (g 10), (g 11), (g 12), (g 13), (g 14), (g 15)])), (h1, .inl (cA, 1000, .inl f_11))] H ∧ va_D A [(h0, .inr (10, [.ref h1, .int 17, (g 2), (g 3), (g 4), (g 5), (g 6), (g 7), (g 8), (g 9), (g 10), (g 11), (g 12), (g 13), (g 14), (g 15)])), (h1, .inl (cA, 1000, .inl f_11))] := ⟨_, hP, hD⟩
  refine lv_aload_n hx hb dX10_feedFour_30 rfl (lv_at hl 1 rfl) ?_
  refine lv_dup hx hb dX10_feedFour_31 rfl ?_
  refine va_get (D := (dC, dI)) (ci := 10) (v := .int 17) (C := RX10) (T := TX10) (N := 16) hx hb hts inlX10 hown hK hP 0 rfl rfl 1 (by decide) (hts (.fieldLink RX10 13 "ShapeReader" "tapeSize" "I") mw_0_19) (fun _ h9 => h9) rfl dX10_feedFour_32 ?_
  refine lv_iconst (v := 1) hx hb dX10_feedFour_35 (by decide) ?_
  refine lv_iadd hx hb dX10_feedFour_36 ?_
  refine lv_topi (fun k_12 ek_12 => ?_)
  obtain rfl : k_12 = 18 := ek_12.trans (by decide)
  refine va_put (D := (dC, dI)) (ci := 10) (v := .int 18) (ty := .int) (C := RX10) (T := TX10) (N := 16) hx hb hts inlX10 tyX10 tyX10_ok nmX10 hown hK hP hD hS 0 rfl rfl 1 (by decide) (hts (.fieldLink RX10 13 "ShapeReader" "tapeSize" "I") mw_0_19) (fun _ h9 => h9) rfl (by decide +kernel) rfl rfl (Nat.le_of_ble_eq_true rfl) dX10_feedFour_37 (fun H locs hP hD hS => ?_)
  have hP : va_P (dC, dI) vwCl [(h0, .inr (10, [.ref h1, .int 18, (g 2), (g 3), (g 4), (g 5), (g 6), (g 7), (g 8), (g 9), (g 10), (g 11), (g 12), (g 13), (g 14), (g 15)])), (h1, .inl (cA, 1000, .inl f_11))] H := hP
  have hD : va_D A [(h0, .inr (10, [.ref h1, .int 18, (g 2), (g 3), (g 4), (g 5), (g 6), (g 7), (g 8), (g 9), (g 10), (g 11), (g 12), (g 13), (g 14), (g 15)])), (h1, .inl (cA, 1000, .inl f_11))] := hD
  refine lv_iinc (v := 8) (lv' := [(2, .int 8), (0, .ref h0), (1, .int p0)]) hx hb dX10_feedFour_40 hl (k := 0) rfl (by decide) (by decide) rfl (fun ls hl => ?_)
  refine lv_goto (tgt := 3) hx hb dX10_feedFour_43 (by decide) ?_
  refine lv_iload_n hx hb dX10_feedFour_3 rfl (lv_at hl 0 rfl) ?_
  refine lv_if_lt (tgt := 46) hx hb dX10_feedFour_4 (by decide) (fun h => absurd h (by decide)) (fun _ => ?_)
  refine lv_aload_n hx hb dX10_feedFour_7 rfl (lv_at hl 1 rfl) ?_
  refine va_get (D := (dC, dI)) (ci := 10) (v := .int 18) (C := RX10) (T := TX10) (N := 16) hx hb hts inlX10 hown hK hP 0 rfl rfl 1 (by decide) (hts (.fieldLink RX10 13 "ShapeReader" "tapeSize" "I") mw_0_19) (fun _ h9 => h9) rfl dX10_feedFour_8 ?_
  refine lv_sipush (v := 1000) hx hb dX10_feedFour_11 (by decide) ?_
  refine lv_icmp_ge (tgt := 40) hx hb dX10_feedFour_14 (by decide) (fun h => absurd h (by decide)) (fun _ => ?_)
  refine lv_aload_n hx hb dX10_feedFour_17 rfl (lv_at hl 1 rfl) ?_
  refine va_get (D := (dC, dI)) (ci := 10) (v := .ref h1) (C := RX10) (T := TX10) (N := 16) hx hb hts inlX10 hown hK hP 0 rfl rfl 0 (by decide) (hts (.fieldLink RX10 9 "ShapeReader" "tape" "[B") mw_0_18) (fun _ h9 => h9) rfl dX10_feedFour_18 ?_
  refine lv_aload_n hx hb dX10_feedFour_21 rfl (lv_at hl 1 rfl) ?_
  refine va_get (D := (dC, dI)) (ci := 10) (v := .int 18) (C := RX10) (T := TX10) (N := 16) hx hb hts inlX10 hown hK hP 0 rfl rfl 1 (by decide) (hts (.fieldLink RX10 13 "ShapeReader" "tapeSize" "I") mw_0_19) (fun _ h9 => h9) rfl dX10_feedFour_22 ?_
  refine lv_iload_n hx hb dX10_feedFour_25 rfl (lv_at hl 2 rfl) ?_
  refine lv_iload_n hx hb dX10_feedFour_26 rfl (lv_at hl 0 rfl) ?_
  refine lv_ishr hx hb dX10_feedFour_27 ?_
  refine lv_topi (fun x_15 ex_15 => ?_)
  refine lv_i2b (v := x_15.toInt8.toInt32) hx hb dX10_feedFour_28 rfl ?_
  generalize x_15.toInt8.toInt32 = x_16
  refine va_bast hx hb hK hP hD hS 1 0 rfl rfl (vp_in_iff.mpr (by decide)) dX10_feedFour_29 (fun H locs hP hD hS => ?_)
  obtain ⟨f_17, hP, hD⟩ : ∃ f_17 : Nat → Int32, va_P (dC, dI) vwCl [(h0, .inr (10, [.ref h1, .int 18, (g 2), (g 3), (g 4), (g 5), (g 6), (g 7), (g 8), (g 9), (g 10), (g 11), (g 12), (g 13), (g 14), (g 15)])), (h1, .inl (cA, 1000, .inl f_17))] H ∧ va_D A [(h0, .inr (10, [.ref h1, .int 18, (g 2), (g 3), (g 4), (g 5), (g 6), (g 7), (g 8), (g 9), (g 10), (g 11), (g 12), (g 13), (g 14), (g 15)])), (h1, .inl (cA, 1000, .inl f_17))] := ⟨_, hP, hD⟩
  refine lv_aload_n hx hb dX10_feedFour_30 rfl (lv_at hl 1 rfl) ?_
  refine lv_dup hx hb dX10_feedFour_31 rfl ?_
  refine va_get (D := (dC, dI)) (ci := 10) (v := .int 18) (C := RX10) (T := TX10) (N := 16) hx hb hts inlX10 hown hK hP 0 rfl rfl 1 (by decide) (hts (.fieldLink RX10 13 "ShapeReader" "tapeSize" "I") mw_0_19) (fun _ h9 => h9) rfl dX10_feedFour_32 ?_
  refine lv_iconst (v := 1) hx hb dX10_feedFour_35 (by decide) ?_
  refine lv_iadd hx hb dX10_feedFour_36 ?_
  refine lv_topi (fun k_18 ek_18 => ?_)
  obtain rfl : k_18 = 19 := ek_18.trans (by decide)
  refine va_put (D := (dC, dI)) (ci := 10) (v := .int 19) (ty := .int) (C := RX10) (T := TX10) (N := 16) hx hb hts inlX10 tyX10 tyX10_ok nmX10 hown hK hP hD hS 0 rfl rfl 1 (by decide) (hts (.fieldLink RX10 13 "ShapeReader" "tapeSize" "I") mw_0_19) (fun _ h9 => h9) rfl (by decide +kernel) rfl rfl (Nat.le_of_ble_eq_true rfl) dX10_feedFour_37 (fun H locs hP hD hS => ?_)
  have hP : va_P (dC, dI) vwCl [(h0, .inr (10, [.ref h1, .int 19, (g 2), (g 3), (g 4), (g 5), (g 6), (g 7), (g 8), (g 9), (g 10), (g 11), (g 12), (g 13), (g 14), (g 15)])), (h1, .inl (cA, 1000, .inl f_17))] H := hP
  have hD : va_D A [(h0, .inr (10, [.ref h1, .int 19, (g 2), (g 3), (g 4), (g 5), (g 6), (g 7), (g 8), (g 9), (g 10), (g 11), (g 12), (g 13), (g 14), (g 15)])), (h1, .inl (cA, 1000, .inl f_17))] := hD
  refine lv_iinc (v := 0) (lv' := [(2, .int 0), (0, .ref h0), (1, .int p0)]) hx hb dX10_feedFour_40 hl (k := 0) rfl (by decide) (by decide) rfl (fun ls hl => ?_)
  refine lv_goto (tgt := 3) hx hb dX10_feedFour_43 (by decide) ?_
  refine lv_iload_n hx hb dX10_feedFour_3 rfl (lv_at hl 0 rfl) ?_
  refine lv_if_lt (tgt := 46) hx hb dX10_feedFour_4 (by decide) (fun h => absurd h (by decide)) (fun _ => ?_)
  refine lv_aload_n hx hb dX10_feedFour_7 rfl (lv_at hl 1 rfl) ?_
  refine va_get (D := (dC, dI)) (ci := 10) (v := .int 19) (C := RX10) (T := TX10) (N := 16) hx hb hts inlX10 hown hK hP 0 rfl rfl 1 (by decide) (hts (.fieldLink RX10 13 "ShapeReader" "tapeSize" "I") mw_0_19) (fun _ h9 => h9) rfl dX10_feedFour_8 ?_
  refine lv_sipush (v := 1000) hx hb dX10_feedFour_11 (by decide) ?_
  refine lv_icmp_ge (tgt := 40) hx hb dX10_feedFour_14 (by decide) (fun h => absurd h (by decide)) (fun _ => ?_)
  refine lv_aload_n hx hb dX10_feedFour_17 rfl (lv_at hl 1 rfl) ?_
  refine va_get (D := (dC, dI)) (ci := 10) (v := .ref h1) (C := RX10) (T := TX10) (N := 16) hx hb hts inlX10 hown hK hP 0 rfl rfl 0 (by decide) (hts (.fieldLink RX10 9 "ShapeReader" "tape" "[B") mw_0_18) (fun _ h9 => h9) rfl dX10_feedFour_18 ?_
  refine lv_aload_n hx hb dX10_feedFour_21 rfl (lv_at hl 1 rfl) ?_
  refine va_get (D := (dC, dI)) (ci := 10) (v := .int 19) (C := RX10) (T := TX10) (N := 16) hx hb hts inlX10 hown hK hP 0 rfl rfl 1 (by decide) (hts (.fieldLink RX10 13 "ShapeReader" "tapeSize" "I") mw_0_19) (fun _ h9 => h9) rfl dX10_feedFour_22 ?_
  refine lv_iload_n hx hb dX10_feedFour_25 rfl (lv_at hl 2 rfl) ?_
  refine lv_iload_n hx hb dX10_feedFour_26 rfl (lv_at hl 0 rfl) ?_
  refine lv_ishr hx hb dX10_feedFour_27 ?_
  refine lv_topi (fun x_21 ex_21 => ?_)
  refine lv_i2b (v := x_21.toInt8.toInt32) hx hb dX10_feedFour_28 rfl ?_
  generalize x_21.toInt8.toInt32 = x_22
  refine va_bast hx hb hK hP hD hS 1 0 rfl rfl (vp_in_iff.mpr (by decide)) dX10_feedFour_29 (fun H locs hP hD hS => ?_)
  obtain ⟨f_23, hP, hD⟩ : ∃ f_23 : Nat → Int32, va_P (dC, dI) vwCl [(h0, .inr (10, [.ref h1, .int 19, (g 2), (g 3), (g 4), (g 5), (g 6), (g 7), (g 8), (g 9), (g 10), (g 11), (g 12), (g 13), (g 14), (g 15)])), (h1, .inl (cA, 1000, .inl f_23))] H ∧ va_D A [(h0, .inr (10, [.ref h1, .int 19, (g 2), (g 3), (g 4), (g 5), (g 6), (g 7), (g 8), (g 9), (g 10), (g 11), (g 12), (g 13), (g 14), (g 15)])), (h1, .inl (cA, 1000, .inl f_23))] := ⟨_, hP, hD⟩
  refine lv_aload_n hx hb dX10_feedFour_30 rfl (lv_at hl 1 rfl) ?_
  refine lv_dup hx hb dX10_feedFour_31 rfl ?_
  refine va_get (D := (dC, dI)) (ci := 10) (v := .int 19) (C := RX10) (T := TX10) (N := 16) hx hb hts inlX10 hown hK hP 0 rfl rfl 1 (by decide) (hts (.fieldLink RX10 13 "ShapeReader" "tapeSize" "I") mw_0_19) (fun _ h9 => h9) rfl dX10_feedFour_32 ?_
  refine lv_iconst (v := 1) hx hb dX10_feedFour_35 (by decide) ?_
  refine lv_iadd hx hb dX10_feedFour_36 ?_
  refine lv_topi (fun k_24 ek_24 => ?_)
  obtain rfl : k_24 = 20 := ek_24.trans (by decide)
  refine va_put (D := (dC, dI)) (ci := 10) (v := .int 20) (ty := .int) (C := RX10) (T := TX10) (N := 16) hx hb hts inlX10 tyX10 tyX10_ok nmX10 hown hK hP hD hS 0 rfl rfl 1 (by decide) (hts (.fieldLink RX10 13 "ShapeReader" "tapeSize" "I") mw_0_19) (fun _ h9 => h9) rfl (by decide +kernel) rfl rfl (Nat.le_of_ble_eq_true rfl) dX10_feedFour_37 (fun H locs hP hD hS => ?_)
  have hP : va_P (dC, dI) vwCl [(h0, .inr (10, [.ref h1, .int 20, (g 2), (g 3), (g 4), (g 5), (g 6), (g 7), (g 8), (g 9), (g 10), (g 11), (g 12), (g 13), (g 14), (g 15)])), (h1, .inl (cA, 1000, .inl f_23))] H := hP
  have hD : va_D A [(h0, .inr (10, [.ref h1, .int 20, (g 2), (g 3), (g 4), (g 5), (g 6), (g 7), (g 8), (g 9), (g 10), (g 11), (g 12), (g 13), (g 14), (g 15)])), (h1, .inl (cA, 1000, .inl f_23))] := hD
  refine lv_iinc (v := (-8)) (lv' := [(2, .int (-8)), (0, .ref h0), (1, .int p0)]) hx hb dX10_feedFour_40 hl (k := 0) rfl (by decide) (by decide) rfl (fun ls hl => ?_)
  refine lv_goto (tgt := 3) hx hb dX10_feedFour_43 (by decide) ?_
  refine lv_iload_n hx hb dX10_feedFour_3 rfl (lv_at hl 0 rfl) ?_
  refine lv_if_lt (tgt := 46) hx hb dX10_feedFour_4 (by decide) (fun _ => ?_) (fun h => absurd (by decide) h)
  have hP9 := hP.sub (ws' := [(h0, .inr (10, [.ref h1, .int 20, (g 2), (g 3), (g 4), (g 5), (g 6), (g 7), (g 8), (g 9), (g 10), (g 11), (g 12), (g 13), (g 14), (g 15)])), (h1, .inl (cA, 1000, .inl f_23))]) [0, 1] rfl
  have hD9 := hD.sub (ws' := [(h0, .inr (10, [.ref h1, .int 20, (g 2), (g 3), (g 4), (g 5), (g 6), (g 7), (g 8), (g 9), (g 10), (g 11), (g 12), (g 13), (g 14), (g 15)])), (h1, .inl (cA, 1000, .inl f_23))]) [0, 1] (by decide) rfl
  have hK9 := hK.sub (tys' := [(cA, .byte)]) [0] rfl
  refine W.widen (k := 0) (n := 0) (Nat.le_of_ble_eq_true rfl) (Nat.le_of_ble_eq_true rfl) ?_
  exact W.vret hx hb hr (fun t ht hW => ⟨⟨(), rfl, trivial, f_23, by rw [ht]; exact hP9, va_K.moved hW.alike hK9, hD9⟩, hS.F ht⟩) hS.2.2 dX10_feedFour_46

set_option maxRecDepth 100000 in
set_option maxHeartbeats 4000000 in
theorem c_feed (l : Launch) (dC : Nat → ClassId) (dI : Nat → Nat → Nat) (h0 : Nat) (h1 : Nat) (cA : ClassId) (f : Nat → Int32) (g : Nat → Value) (p0 : Int32) (p1 : Int32) (p2 : Int32) (p3 : Int32) (p4 : Int32) (sz : Nat) : Met l yX10_feed (.code yX10_feed cX10_feed 6 (some .int) :: pw) ({ frames := 1, cells := 0, slots := 0, locals := 22 }) (va_Pc [.ref h0, .int p0, .int p1, .int p2, .int p3, .int p4] (vPre dC dI [(h0, .inr (10, [.ref h1, .int 0, (g 2), (g 3), (g 4), (g 5), (g 6), (g 7), (g 8), (g 9), (g 10), (g 11), (g 12), (g 13), (g 14), (g 15)])), (h1, .inl (cA, 1000, .inl f))] [(cA, .byte)] sz)) (va_Qi (fun (r : Int32) (_ : Unit) => r = 20) (fun (_ : Unit) t => vPst dC dI (va_A [(h0, .inr (10, [.ref h1, .int 0, (g 2), (g 3), (g 4), (g 5), (g 6), (g 7), (g 8), (g 9), (g 10), (g 11), (g 12), (g 13), (g 14), (g 15)])), (h1, .inl (cA, 1000, .inl f))] sz) [] [] t) (va_A [(h0, .inr (10, [.ref h1, .int 0, (g 2), (g 3), (g 4), (g 5), (g 6), (g 7), (g 8), (g 9), (g 10), (g 11), (g 12), (g 13), (g 14), (g 15)])), (h1, .inl (cA, 1000, .inl f))] sz)) 0 0 (va_A [(h0, .inr (10, [.ref h1, .int 0, (g 2), (g 3), (g 4), (g 5), (g 6), (g 7), (g 8), (g 9), (g 10), (g 11), (g 12), (g 13), (g 14), (g 15)])), (h1, .inl (cA, 1000, .inl f))] sz) := by
  refine Met.ofW (cc := cX10_feed) (maxL := 6) (ret := (some .int)) (by decide) rfl ?_
  intro p e s m args below meth c s₁ B hml hv
  obtain ⟨rfl, hsz, hP, hK, hD0⟩ := hv
  have hx := B.exec
  have hb := B.bytes
  have hr := B.returns
  have hts := atoms_spec (ws := .code yX10_feed cX10_feed 6 (some .int) :: pw) B.pre
  have hts : ∀ w ∈ pw, w.before _ s = true := fun w h => hts w (List.mem_cons_of_mem _ h)
  have hown : s.vm.findClass RX10 = some m.cls := findClass_of_methodNamed B.named
  have hlocks := B.notSynchronized
  subst hsz
  have hD := hD0.self (sz := s.heap.size)
  generalize hAe : va_A [(h0, .inr (10, [.ref h1, .int 0, (g 2), (g 3), (g 4), (g 5), (g 6), (g 7), (g 8), (g 9), (g 10), (g 11), (g 12), (g 13), (g 14), (g 15)])), (h1, .inl (cA, 1000, .inl f))] s.heap.size = A at hD ⊢
  have hA : ∀ q : Nat, s.heap.size ≤ q → A q := fun q h => by rw [← hAe]; exact Or.inr h
  have hS : va_S A s.heap s.heap [] := va_S.rf
  have hP : va_P (dC, dI) vwCl [(h0, .inr (10, [.ref h1, .int 0, (g 2), (g 3), (g 4), (g 5), (g 6), (g 7), (g 8), (g 9), (g 10), (g 11), (g 12), (g 13), (g 14), (g 15)])), (h1, .inl (cA, 1000, .inl f))] s.heap := hP
  have hl := lv_entry ([.ref h0, .int p0, .int p1, .int p2, .int p3, .int p4]) (n := 6) (Nat.le_of_ble_eq_true rfl)
  rw [lg_entry_eq]
  generalize (lg_sl ([.ref h0, .int p0, .int p1, .int p2, .int p3, .int p4]) ++ List.replicate (6 - (lg_sl ([.ref h0, .int p0, .int p1, .int p2, .int p3, .int p4])).length) Slot.unset).toArray = ls at hl ⊢
  have hl : lv_has ls 6 [(0, .ref h0), (1, .int p0), (2, .int p1), (3, .int p2), (4, .int p3), (5, .int p4)] := hl
  refine lv_aload_n hx hb dX10_feed_0 rfl (lv_at hl 0 rfl) ?_
  refine va_get (D := (dC, dI)) (ci := 10) (v := .int 0) (C := RX10) (T := TX10) (N := 16) hx hb hts inlX10 hown hK hP 0 rfl rfl 1 (by decide) (hts (.fieldLink RX10 13 "ShapeReader" "tapeSize" "I") mw_0_19) (fun _ h9 => h9) rfl dX10_feed_1 ?_
  refine lv_bipush (v := 20) hx hb dX10_feed_4 (by decide) ?_
  refine lv_iadd hx hb dX10_feed_6 ?_
  refine lv_topi (fun k_1 ek_1 => ?_)
  obtain rfl : k_1 = 20 := ek_1.trans (by decide)
  refine lv_sipush (v := 1000) hx hb dX10_feed_7 (by decide) ?_
  refine lv_icmp_le (tgt := 15) hx hb dX10_feed_10 (by decide) (fun _ => ?_) (fun h => absurd (by decide) h)
  refine lv_aload_n hx hb dX10_feed_15 rfl (lv_at hl 0 rfl) ?_
  refine lv_iload_n hx hb dX10_feed_16 rfl (lv_at hl 1 rfl) ?_
  have hPc := hP.sub (ws' := [(h0, .inr (10, [.ref h1, .int 0, (g 2), (g 3), (g 4), (g 5), (g 6), (g 7), (g 8), (g 9), (g 10), (g 11), (g 12), (g 13), (g 14), (g 15)])), (h1, .inl (cA, 1000, .inl f))]) [0, 1] rfl
  have hDc := hD.sub (ws' := [(h0, .inr (10, [.ref h1, .int 0, (g 2), (g 3), (g 4), (g 5), (g 6), (g 7), (g 8), (g 9), (g 10), (g 11), (g 12), (g 13), (g 14), (g 15)])), (h1, .inl (cA, 1000, .inl f))]) [0, 1] (by decide) rfl
  have hKc := hK.sub (tys' := [(cA, .byte)]) [0] rfl
  have hFc := va_free (wc := [(h0, .inr (10, [.ref h1, .int 0, (g 2), (g 3), (g 4), (g 5), (g 6), (g 7), (g 8), (g 9), (g 10), (g 11), (g 12), (g 13), (g 14), (g 15)])), (h1, .inl (cA, 1000, .inl f))]) hD hS hA [0, 1] rfl
  refine va_callv (va_runV (As := [.int p0]) (rest := []) ⟨hx, hb, hml, hown, hts⟩ (c_feedFour0 l dC dI h0 h1 cA f g p0 s.heap.size) (cwV 1 hts (gV mw_2_12 mw_2_13 mw_2_14 mw_0_14 mw_19_3) rfl rfl rfl (by decide +kernel) ⟨(Nat.le_of_ble_eq_true rfl), (Nat.le_of_ble_eq_true rfl)⟩) (vV (ci := 10) (q0 := 0) hKc hPc hDc rfl rfl) rfl rfl hl.1 rfl (lv_room (Nat.le_of_ble_eq_true rfl)) dX10_feed_17 ⟨(Nat.le_of_ble_eq_true rfl), (Nat.le_of_ble_eq_true rfl)⟩) hS (fun q _ h => hFc q h) hFc (fun u t H1 locs ht hvm hw hB hz1 hk1 hS => ?_)
  obtain ⟨f9_4, hP1, hK1, hD1⟩ := hB
  rw [ht] at hP1
  have hK1 := va_K.moved hvm.symm hK1
  obtain ⟨hP, hD⟩ := va_join (wr := []) (w1 := [(h0, .inr (10, [.ref h1, .int 4, (g 2), (g 3), (g 4), (g 5), (g 6), (g 7), (g 8), (g 9), (g 10), (g 11), (g 12), (g 13), (g 14), (g 15)])), (h1, .inl (cA, 1000, .inl f9_4))]) hP hD [0, 1] [] rfl rfl (by decide) (by decide) hk1 hFc hP1 hD1
  clear hPc hDc hKc hP1 hK1 hD1 hFc hk1 hz1
  generalize H1 = H at hP hS ⊢
  have hP : va_P (dC, dI) vwCl [(h0, .inr (10, [.ref h1, .int 4, (g 2), (g 3), (g 4), (g 5), (g 6), (g 7), (g 8), (g 9), (g 10), (g 11), (g 12), (g 13), (g 14), (g 15)])), (h1, .inl (cA, 1000, .inl f9_4))] H := hP
  have hD : va_D A [(h0, .inr (10, [.ref h1, .int 4, (g 2), (g 3), (g 4), (g 5), (g 6), (g 7), (g 8), (g 9), (g 10), (g 11), (g 12), (g 13), (g 14), (g 15)])), (h1, .inl (cA, 1000, .inl f9_4))] := hD
  refine lv_aload_n hx hb dX10_feed_20 rfl (lv_at hl 0 rfl) ?_
  refine lv_iload_n hx hb dX10_feed_21 rfl (lv_at hl 2 rfl) ?_
  have hPc := hP.sub (ws' := [(h0, .inr (10, [.ref h1, .int 4, (g 2), (g 3), (g 4), (g 5), (g 6), (g 7), (g 8), (g 9), (g 10), (g 11), (g 12), (g 13), (g 14), (g 15)])), (h1, .inl (cA, 1000, .inl f9_4))]) [0, 1] rfl
  have hDc := hD.sub (ws' := [(h0, .inr (10, [.ref h1, .int 4, (g 2), (g 3), (g 4), (g 5), (g 6), (g 7), (g 8), (g 9), (g 10), (g 11), (g 12), (g 13), (g 14), (g 15)])), (h1, .inl (cA, 1000, .inl f9_4))]) [0, 1] (by decide) rfl
  have hKc := hK.sub (tys' := [(cA, .byte)]) [0] rfl
  have hFc := va_free (wc := [(h0, .inr (10, [.ref h1, .int 4, (g 2), (g 3), (g 4), (g 5), (g 6), (g 7), (g 8), (g 9), (g 10), (g 11), (g 12), (g 13), (g 14), (g 15)])), (h1, .inl (cA, 1000, .inl f9_4))]) hD hS hA [0, 1] rfl
  refine va_callv (va_runV (As := [.int p1]) (rest := []) ⟨hx, hb, hml, hown, hts⟩ (c_feedFour4 l dC dI h0 h1 cA f9_4 g p1 H.size) (cwV 1 hts (gV mw_2_12 mw_2_13 mw_2_14 mw_0_14 mw_19_3) rfl rfl rfl (by decide +kernel) ⟨(Nat.le_of_ble_eq_true rfl), (Nat.le_of_ble_eq_true rfl)⟩) (vV (ci := 10) (q0 := 0) hKc hPc hDc rfl rfl) rfl rfl hl.1 rfl (lv_room (Nat.le_of_ble_eq_true rfl)) dX10_feed_22 ⟨(Nat.le_of_ble_eq_true rfl), (Nat.le_of_ble_eq_true rfl)⟩) hS (fun q _ h => hFc q h) hFc (fun u t H1 locs ht hvm hw hB hz1 hk1 hS => ?_)
  obtain ⟨f9_6, hP1, hK1, hD1⟩ := hB
  rw [ht] at hP1
  have hK1 := va_K.moved hvm.symm hK1
  obtain ⟨hP, hD⟩ := va_join (wr := []) (w1 := [(h0, .inr (10, [.ref h1, .int 8, (g 2), (g 3), (g 4), (g 5), (g 6), (g 7), (g 8), (g 9), (g 10), (g 11), (g 12), (g 13), (g 14), (g 15)])), (h1, .inl (cA, 1000, .inl f9_6))]) hP hD [0, 1] [] rfl rfl (by decide) (by decide) hk1 hFc hP1 hD1
  clear hPc hDc hKc hP1 hK1 hD1 hFc hk1 hz1
  generalize H1 = H at hP hS ⊢
  have hP : va_P (dC, dI) vwCl [(h0, .inr (10, [.ref h1, .int 8, (g 2), (g 3), (g 4), (g 5), (g 6), (g 7), (g 8), (g 9), (g 10), (g 11), (g 12), (g 13), (g 14), (g 15)])), (h1, .inl (cA, 1000, .inl f9_6))] H := hP
  have hD : va_D A [(h0, .inr (10, [.ref h1, .int 8, (g 2), (g 3), (g 4), (g 5), (g 6), (g 7), (g 8), (g 9), (g 10), (g 11), (g 12), (g 13), (g 14), (g 15)])), (h1, .inl (cA, 1000, .inl f9_6))] := hD
  refine lv_aload_n hx hb dX10_feed_25 rfl (lv_at hl 0 rfl) ?_
  refine lv_iload_n hx hb dX10_feed_26 rfl (lv_at hl 3 rfl) ?_
  have hPc := hP.sub (ws' := [(h0, .inr (10, [.ref h1, .int 8, (g 2), (g 3), (g 4), (g 5), (g 6), (g 7), (g 8), (g 9), (g 10), (g 11), (g 12), (g 13), (g 14), (g 15)])), (h1, .inl (cA, 1000, .inl f9_6))]) [0, 1] rfl
  have hDc := hD.sub (ws' := [(h0, .inr (10, [.ref h1, .int 8, (g 2), (g 3), (g 4), (g 5), (g 6), (g 7), (g 8), (g 9), (g 10), (g 11), (g 12), (g 13), (g 14), (g 15)])), (h1, .inl (cA, 1000, .inl f9_6))]) [0, 1] (by decide) rfl
  have hKc := hK.sub (tys' := [(cA, .byte)]) [0] rfl
  have hFc := va_free (wc := [(h0, .inr (10, [.ref h1, .int 8, (g 2), (g 3), (g 4), (g 5), (g 6), (g 7), (g 8), (g 9), (g 10), (g 11), (g 12), (g 13), (g 14), (g 15)])), (h1, .inl (cA, 1000, .inl f9_6))]) hD hS hA [0, 1] rfl
  refine va_callv (va_runV (As := [.int p2]) (rest := []) ⟨hx, hb, hml, hown, hts⟩ (c_feedFour8 l dC dI h0 h1 cA f9_6 g p2 H.size) (cwV 1 hts (gV mw_2_12 mw_2_13 mw_2_14 mw_0_14 mw_19_3) rfl rfl rfl (by decide +kernel) ⟨(Nat.le_of_ble_eq_true rfl), (Nat.le_of_ble_eq_true rfl)⟩) (vV (ci := 10) (q0 := 0) hKc hPc hDc rfl rfl) rfl rfl hl.1 rfl (lv_room (Nat.le_of_ble_eq_true rfl)) dX10_feed_27 ⟨(Nat.le_of_ble_eq_true rfl), (Nat.le_of_ble_eq_true rfl)⟩) hS (fun q _ h => hFc q h) hFc (fun u t H1 locs ht hvm hw hB hz1 hk1 hS => ?_)
  obtain ⟨f9_8, hP1, hK1, hD1⟩ := hB
  rw [ht] at hP1
  have hK1 := va_K.moved hvm.symm hK1
  obtain ⟨hP, hD⟩ := va_join (wr := []) (w1 := [(h0, .inr (10, [.ref h1, .int 12, (g 2), (g 3), (g 4), (g 5), (g 6), (g 7), (g 8), (g 9), (g 10), (g 11), (g 12), (g 13), (g 14), (g 15)])), (h1, .inl (cA, 1000, .inl f9_8))]) hP hD [0, 1] [] rfl rfl (by decide) (by decide) hk1 hFc hP1 hD1
  clear hPc hDc hKc hP1 hK1 hD1 hFc hk1 hz1
  generalize H1 = H at hP hS ⊢
  have hP : va_P (dC, dI) vwCl [(h0, .inr (10, [.ref h1, .int 12, (g 2), (g 3), (g 4), (g 5), (g 6), (g 7), (g 8), (g 9), (g 10), (g 11), (g 12), (g 13), (g 14), (g 15)])), (h1, .inl (cA, 1000, .inl f9_8))] H := hP
  have hD : va_D A [(h0, .inr (10, [.ref h1, .int 12, (g 2), (g 3), (g 4), (g 5), (g 6), (g 7), (g 8), (g 9), (g 10), (g 11), (g 12), (g 13), (g 14), (g 15)])), (h1, .inl (cA, 1000, .inl f9_8))] := hD
  refine lv_aload_n hx hb dX10_feed_30 rfl (lv_at hl 0 rfl) ?_
  refine lv_iload hx hb dX10_feed_31 (lv_at hl 4 rfl) ?_
  have hPc := hP.sub (ws' := [(h0, .inr (10, [.ref h1, .int 12, (g 2), (g 3), (g 4), (g 5), (g 6), (g 7), (g 8), (g 9), (g 10), (g 11), (g 12), (g 13), (g 14), (g 15)])), (h1, .inl (cA, 1000, .inl f9_8))]) [0, 1] rfl
  have hDc := hD.sub (ws' := [(h0, .inr (10, [.ref h1, .int 12, (g 2), (g 3), (g 4), (g 5), (g 6), (g 7), (g 8), (g 9), (g 10), (g 11), (g 12), (g 13), (g 14), (g 15)])), (h1, .inl (cA, 1000, .inl f9_8))]) [0, 1] (by decide) rfl
  have hKc := hK.sub (tys' := [(cA, .byte)]) [0] rfl
  have hFc := va_free (wc := [(h0, .inr (10, [.ref h1, .int 12, (g 2), (g 3), (g 4), (g 5), (g 6), (g 7), (g 8), (g 9), (g 10), (g 11), (g 12), (g 13), (g 14), (g 15)])), (h1, .inl (cA, 1000, .inl f9_8))]) hD hS hA [0, 1] rfl
  refine va_callv (va_runV (As := [.int p3]) (rest := []) ⟨hx, hb, hml, hown, hts⟩ (c_feedFour12 l dC dI h0 h1 cA f9_8 g p3 H.size) (cwV 1 hts (gV mw_2_12 mw_2_13 mw_2_14 mw_0_14 mw_19_3) rfl rfl rfl (by decide +kernel) ⟨(Nat.le_of_ble_eq_true rfl), (Nat.le_of_ble_eq_true rfl)⟩) (vV (ci := 10) (q0 := 0) hKc hPc hDc rfl rfl) rfl rfl hl.1 rfl (lv_room (Nat.le_of_ble_eq_true rfl)) dX10_feed_33 ⟨(Nat.le_of_ble_eq_true rfl), (Nat.le_of_ble_eq_true rfl)⟩) hS (fun q _ h => hFc q h) hFc (fun u t H1 locs ht hvm hw hB hz1 hk1 hS => ?_)
  obtain ⟨f9_10, hP1, hK1, hD1⟩ := hB
  rw [ht] at hP1
  have hK1 := va_K.moved hvm.symm hK1
  obtain ⟨hP, hD⟩ := va_join (wr := []) (w1 := [(h0, .inr (10, [.ref h1, .int 16, (g 2), (g 3), (g 4), (g 5), (g 6), (g 7), (g 8), (g 9), (g 10), (g 11), (g 12), (g 13), (g 14), (g 15)])), (h1, .inl (cA, 1000, .inl f9_10))]) hP hD [0, 1] [] rfl rfl (by decide) (by decide) hk1 hFc hP1 hD1
  clear hPc hDc hKc hP1 hK1 hD1 hFc hk1 hz1
  generalize H1 = H at hP hS ⊢
  have hP : va_P (dC, dI) vwCl [(h0, .inr (10, [.ref h1, .int 16, (g 2), (g 3), (g 4), (g 5), (g 6), (g 7), (g 8), (g 9), (g 10), (g 11), (g 12), (g 13), (g 14), (g 15)])), (h1, .inl (cA, 1000, .inl f9_10))] H := hP
  have hD : va_D A [(h0, .inr (10, [.ref h1, .int 16, (g 2), (g 3), (g 4), (g 5), (g 6), (g 7), (g 8), (g 9), (g 10), (g 11), (g 12), (g 13), (g 14), (g 15)])), (h1, .inl (cA, 1000, .inl f9_10))] := hD
  refine lv_aload_n hx hb dX10_feed_36 rfl (lv_at hl 0 rfl) ?_
  refine lv_iload hx hb dX10_feed_37 (lv_at hl 5 rfl) ?_
  have hPc := hP.sub (ws' := [(h0, .inr (10, [.ref h1, .int 16, (g 2), (g 3), (g 4), (g 5), (g 6), (g 7), (g 8), (g 9), (g 10), (g 11), (g 12), (g 13), (g 14), (g 15)])), (h1, .inl (cA, 1000, .inl f9_10))]) [0, 1] rfl
  have hDc := hD.sub (ws' := [(h0, .inr (10, [.ref h1, .int 16, (g 2), (g 3), (g 4), (g 5), (g 6), (g 7), (g 8), (g 9), (g 10), (g 11), (g 12), (g 13), (g 14), (g 15)])), (h1, .inl (cA, 1000, .inl f9_10))]) [0, 1] (by decide) rfl
  have hKc := hK.sub (tys' := [(cA, .byte)]) [0] rfl
  have hFc := va_free (wc := [(h0, .inr (10, [.ref h1, .int 16, (g 2), (g 3), (g 4), (g 5), (g 6), (g 7), (g 8), (g 9), (g 10), (g 11), (g 12), (g 13), (g 14), (g 15)])), (h1, .inl (cA, 1000, .inl f9_10))]) hD hS hA [0, 1] rfl
  refine va_callv (va_runV (As := [.int p4]) (rest := []) ⟨hx, hb, hml, hown, hts⟩ (c_feedFour16 l dC dI h0 h1 cA f9_10 g p4 H.size) (cwV 1 hts (gV mw_2_12 mw_2_13 mw_2_14 mw_0_14 mw_19_3) rfl rfl rfl (by decide +kernel) ⟨(Nat.le_of_ble_eq_true rfl), (Nat.le_of_ble_eq_true rfl)⟩) (vV (ci := 10) (q0 := 0) hKc hPc hDc rfl rfl) rfl rfl hl.1 rfl (lv_room (Nat.le_of_ble_eq_true rfl)) dX10_feed_39 ⟨(Nat.le_of_ble_eq_true rfl), (Nat.le_of_ble_eq_true rfl)⟩) hS (fun q _ h => hFc q h) hFc (fun u t H1 locs ht hvm hw hB hz1 hk1 hS => ?_)
  obtain ⟨f9_12, hP1, hK1, hD1⟩ := hB
  rw [ht] at hP1
  have hK1 := va_K.moved hvm.symm hK1
  obtain ⟨hP, hD⟩ := va_join (wr := []) (w1 := [(h0, .inr (10, [.ref h1, .int 20, (g 2), (g 3), (g 4), (g 5), (g 6), (g 7), (g 8), (g 9), (g 10), (g 11), (g 12), (g 13), (g 14), (g 15)])), (h1, .inl (cA, 1000, .inl f9_12))]) hP hD [0, 1] [] rfl rfl (by decide) (by decide) hk1 hFc hP1 hD1
  clear hPc hDc hKc hP1 hK1 hD1 hFc hk1 hz1
  generalize H1 = H at hP hS ⊢
  have hP : va_P (dC, dI) vwCl [(h0, .inr (10, [.ref h1, .int 20, (g 2), (g 3), (g 4), (g 5), (g 6), (g 7), (g 8), (g 9), (g 10), (g 11), (g 12), (g 13), (g 14), (g 15)])), (h1, .inl (cA, 1000, .inl f9_12))] H := hP
  have hD : va_D A [(h0, .inr (10, [.ref h1, .int 20, (g 2), (g 3), (g 4), (g 5), (g 6), (g 7), (g 8), (g 9), (g 10), (g 11), (g 12), (g 13), (g 14), (g 15)])), (h1, .inl (cA, 1000, .inl f9_12))] := hD
  refine lv_aload_n hx hb dX10_feed_42 rfl (lv_at hl 0 rfl) ?_
  refine va_get (D := (dC, dI)) (ci := 10) (v := .int 20) (C := RX10) (T := TX10) (N := 16) hx hb hts inlX10 hown hK hP 0 rfl rfl 1 (by decide) (hts (.fieldLink RX10 13 "ShapeReader" "tapeSize" "I") mw_0_19) (fun _ h9 => h9) rfl dX10_feed_43 ?_
  have hP9 := hP.sub (ws' := []) [] rfl
  have hD9 := hD.sub (ws' := []) [] (by decide) rfl
  have hK9 := hK.sub (tys' := []) [] rfl
  refine W.widen (k := 0) (n := 0) (Nat.le_of_ble_eq_true rfl) (Nat.le_of_ble_eq_true rfl) ?_
  exact W.iret (v := 20) hx hb hr (fun t ht hW => ⟨⟨20, (), rfl, rfl, by rw [ht]; exact hP9, va_K.moved hW.alike hK9, hD9⟩, hS.F ht⟩) hS.2.2 dX10_feed_46

set_option maxRecDepth 100000 in
set_option maxHeartbeats 4000000 in
theorem c_puts0 (l : Launch) (dC : Nat → ClassId) (dI : Nat → Nat → Nat) (h0 : Nat) (h1 : Nat) (cA : ClassId) (f : Nat → Int32) (g : Nat → Value) (p0 : Int32) (sz : Nat) : Met l yX11_puts (.code yX11_puts cX11_puts 3 none :: pw) ({ frames := 0, cells := 0, slots := 0, locals := 0 }) (va_Pc [.ref h0, .int p0] (vPre dC dI [(h0, .inr (11, ((g 0) :: .ref h1 :: .int 0 :: (g 3) :: (g 4) :: (g 5) :: (g 6) :: (g 7) :: (g 8) :: (g 9) :: (g 10) :: (g 11) :: (g 12) :: (g 13) :: (g 14) :: (g 15) :: (g 16) :: (g 17) :: (g 18) :: (g 19) :: (g 20) :: (g 21) :: (g 22) :: (g 23) :: (g 24) :: (g 25) :: (g 26) :: (g 27) :: (g 28) :: (g 29) :: (g 30) :: (g 31) :: (g 32) :: (g 33) :: (g 34) :: (g 35) :: (g 36) :: (g 37) :: (g 38) :: (g 39) :: (g 40) :: (g 41) :: (g 42) :: (g 43) :: (g 44) :: (g 45) :: (g 46) :: (g 47) :: (g 48) :: (g 49) :: (g 50) :: (g 51) :: (g 52) :: (g 53) :: (g 54) :: (g 55) :: (g 56) :: (g 57) :: (g 58) :: (g 59) :: (g 60) :: (g 61) :: (g 62) :: (g 63) :: (g 64) :: (g 65) :: (g 66) :: (g 67) :: (g 68) :: (g 69) :: (g 70) :: (g 71) :: (g 72) :: (g 73) :: (g 74) :: (g 75) :: (g 76) :: (g 77) :: (g 78) :: (g 79) :: (g 80) :: (g 81) :: (g 82) :: (g 83) :: (g 84) :: (g 85) :: (g 86) :: (g 87) :: (g 88) :: (g 89) :: (g 90) :: (g 91) :: (g 92) :: (g 93) :: (g 94) :: []))), (h1, .inl (cA, 1000, .inl f))] [(cA, .byte)] sz)) (va_Qv (fun (_ : Unit) => True) (fun (_ : Unit) t => ∃ (f9 : Nat → Int32), vPst dC dI (va_A [(h0, .inr (11, ((g 0) :: .ref h1 :: .int 0 :: (g 3) :: (g 4) :: (g 5) :: (g 6) :: (g 7) :: (g 8) :: (g 9) :: (g 10) :: (g 11) :: (g 12) :: (g 13) :: (g 14) :: (g 15) :: (g 16) :: (g 17) :: (g 18) :: (g 19) :: (g 20) :: (g 21) :: (g 22) :: (g 23) :: (g 24) :: (g 25) :: (g 26) :: (g 27) :: (g 28) :: (g 29) :: (g 30) :: (g 31) :: (g 32) :: (g 33) :: (g 34) :: (g 35) :: (g 36) :: (g 37) :: (g 38) :: (g 39) :: (g 40) :: (g 41) :: (g 42) :: (g 43) :: (g 44) :: (g 45) :: (g 46) :: (g 47) :: (g 48) :: (g 49) :: (g 50) :: (g 51) :: (g 52) :: (g 53) :: (g 54) :: (g 55) :: (g 56) :: (g 57) :: (g 58) :: (g 59) :: (g 60) :: (g 61) :: (g 62) :: (g 63) :: (g 64) :: (g 65) :: (g 66) :: (g 67) :: (g 68) :: (g 69) :: (g 70) :: (g 71) :: (g 72) :: (g 73) :: (g 74) :: (g 75) :: (g 76) :: (g 77) :: (g 78) :: (g 79) :: (g 80) :: (g 81) :: (g 82) :: (g 83) :: (g 84) :: (g 85) :: (g 86) :: (g 87) :: (g 88) :: (g 89) :: (g 90) :: (g 91) :: (g 92) :: (g 93) :: (g 94) :: []))), (h1, .inl (cA, 1000, .inl f))] sz) [(h0, .inr (11, ((g 0) :: .ref h1 :: .int 4 :: (g 3) :: (g 4) :: (g 5) :: (g 6) :: (g 7) :: (g 8) :: (g 9) :: (g 10) :: (g 11) :: (g 12) :: (g 13) :: (g 14) :: (g 15) :: (g 16) :: (g 17) :: (g 18) :: (g 19) :: (g 20) :: (g 21) :: (g 22) :: (g 23) :: (g 24) :: (g 25) :: (g 26) :: (g 27) :: (g 28) :: (g 29) :: (g 30) :: (g 31) :: (g 32) :: (g 33) :: (g 34) :: (g 35) :: (g 36) :: (g 37) :: (g 38) :: (g 39) :: (g 40) :: (g 41) :: (g 42) :: (g 43) :: (g 44) :: (g 45) :: (g 46) :: (g 47) :: (g 48) :: (g 49) :: (g 50) :: (g 51) :: (g 52) :: (g 53) :: (g 54) :: (g 55) :: (g 56) :: (g 57) :: (g 58) :: (g 59) :: (g 60) :: (g 61) :: (g 62) :: (g 63) :: (g 64) :: (g 65) :: (g 66) :: (g 67) :: (g 68) :: (g 69) :: (g 70) :: (g 71) :: (g 72) :: (g 73) :: (g 74) :: (g 75) :: (g 76) :: (g 77) :: (g 78) :: (g 79) :: (g 80) :: (g 81) :: (g 82) :: (g 83) :: (g 84) :: (g 85) :: (g 86) :: (g 87) :: (g 88) :: (g 89) :: (g 90) :: (g 91) :: (g 92) :: (g 93) :: (g 94) :: []))), (h1, .inl (cA, 1000, .inl f9))] [(cA, .byte)] t) (va_A [(h0, .inr (11, ((g 0) :: .ref h1 :: .int 0 :: (g 3) :: (g 4) :: (g 5) :: (g 6) :: (g 7) :: (g 8) :: (g 9) :: (g 10) :: (g 11) :: (g 12) :: (g 13) :: (g 14) :: (g 15) :: (g 16) :: (g 17) :: (g 18) :: (g 19) :: (g 20) :: (g 21) :: (g 22) :: (g 23) :: (g 24) :: (g 25) :: (g 26) :: (g 27) :: (g 28) :: (g 29) :: (g 30) :: (g 31) :: (g 32) :: (g 33) :: (g 34) :: (g 35) :: (g 36) :: (g 37) :: (g 38) :: (g 39) :: (g 40) :: (g 41) :: (g 42) :: (g 43) :: (g 44) :: (g 45) :: (g 46) :: (g 47) :: (g 48) :: (g 49) :: (g 50) :: (g 51) :: (g 52) :: (g 53) :: (g 54) :: (g 55) :: (g 56) :: (g 57) :: (g 58) :: (g 59) :: (g 60) :: (g 61) :: (g 62) :: (g 63) :: (g 64) :: (g 65) :: (g 66) :: (g 67) :: (g 68) :: (g 69) :: (g 70) :: (g 71) :: (g 72) :: (g 73) :: (g 74) :: (g 75) :: (g 76) :: (g 77) :: (g 78) :: (g 79) :: (g 80) :: (g 81) :: (g 82) :: (g 83) :: (g 84) :: (g 85) :: (g 86) :: (g 87) :: (g 88) :: (g 89) :: (g 90) :: (g 91) :: (g 92) :: (g 93) :: (g 94) :: []))), (h1, .inl (cA, 1000, .inl f))] sz)) 0 0 (va_A [(h0, .inr (11, ((g 0) :: .ref h1 :: .int 0 :: (g 3) :: (g 4) :: (g 5) :: (g 6) :: (g 7) :: (g 8) :: (g 9) :: (g 10) :: (g 11) :: (g 12) :: (g 13) :: (g 14) :: (g 15) :: (g 16) :: (g 17) :: (g 18) :: (g 19) :: (g 20) :: (g 21) :: (g 22) :: (g 23) :: (g 24) :: (g 25) :: (g 26) :: (g 27) :: (g 28) :: (g 29) :: (g 30) :: (g 31) :: (g 32) :: (g 33) :: (g 34) :: (g 35) :: (g 36) :: (g 37) :: (g 38) :: (g 39) :: (g 40) :: (g 41) :: (g 42) :: (g 43) :: (g 44) :: (g 45) :: (g 46) :: (g 47) :: (g 48) :: (g 49) :: (g 50) :: (g 51) :: (g 52) :: (g 53) :: (g 54) :: (g 55) :: (g 56) :: (g 57) :: (g 58) :: (g 59) :: (g 60) :: (g 61) :: (g 62) :: (g 63) :: (g 64) :: (g 65) :: (g 66) :: (g 67) :: (g 68) :: (g 69) :: (g 70) :: (g 71) :: (g 72) :: (g 73) :: (g 74) :: (g 75) :: (g 76) :: (g 77) :: (g 78) :: (g 79) :: (g 80) :: (g 81) :: (g 82) :: (g 83) :: (g 84) :: (g 85) :: (g 86) :: (g 87) :: (g 88) :: (g 89) :: (g 90) :: (g 91) :: (g 92) :: (g 93) :: (g 94) :: []))), (h1, .inl (cA, 1000, .inl f))] sz) := by
  refine Met.ofW (cc := cX11_puts) (maxL := 3) (ret := none) (by decide) rfl ?_
  intro p e s m args below meth c s₁ B hml hv
  obtain ⟨rfl, hsz, hP, hK, hD0⟩ := hv
  have hx := B.exec
  have hb := B.bytes
  have hr := B.returns
  have hts := atoms_spec (ws := .code yX11_puts cX11_puts 3 none :: pw) B.pre
  have hts : ∀ w ∈ pw, w.before _ s = true := fun w h => hts w (List.mem_cons_of_mem _ h)
  have hown : s.vm.findClass RX11 = some m.cls := findClass_of_methodNamed B.named
  have hlocks := B.notSynchronized
  subst hsz
  have hD := hD0.self (sz := s.heap.size)
  generalize hAe : va_A [(h0, .inr (11, ((g 0) :: .ref h1 :: .int 0 :: (g 3) :: (g 4) :: (g 5) :: (g 6) :: (g 7) :: (g 8) :: (g 9) :: (g 10) :: (g 11) :: (g 12) :: (g 13) :: (g 14) :: (g 15) :: (g 16) :: (g 17) :: (g 18) :: (g 19) :: (g 20) :: (g 21) :: (g 22) :: (g 23) :: (g 24) :: (g 25) :: (g 26) :: (g 27) :: (g 28) :: (g 29) :: (g 30) :: (g 31) :: (g 32) :: (g 33) :: (g 34) :: (g 35) :: (g 36) :: (g 37) :: (g 38) :: (g 39) :: (g 40) :: (g 41) :: (g 42) :: (g 43) :: (g 44) :: (g 45) :: (g 46) :: (g 47) :: (g 48) :: (g 49) :: (g 50) :: (g 51) :: (g 52) :: (g 53) :: (g 54) :: (g 55) :: (g 56) :: (g 57) :: (g 58) :: (g 59) :: (g 60) :: (g 61) :: (g 62) :: (g 63) :: (g 64) :: (g 65) :: (g 66) :: (g 67) :: (g 68) :: (g 69) :: (g 70) :: (g 71) :: (g 72) :: (g 73) :: (g 74) :: (g 75) :: (g 76) :: (g 77) :: (g 78) :: (g 79) :: (g 80) :: (g 81) :: (g 82) :: (g 83) :: (g 84) :: (g 85) :: (g 86) :: (g 87) :: (g 88) :: (g 89) :: (g 90) :: (g 91) :: (g 92) :: (g 93) :: (g 94) :: []))), (h1, .inl (cA, 1000, .inl f))] s.heap.size = A at hD ⊢
  have hA : ∀ q : Nat, s.heap.size ≤ q → A q := fun q h => by rw [← hAe]; exact Or.inr h
  have hS : va_S A s.heap s.heap [] := va_S.rf
  have hP : va_P (dC, dI) vwCl [(h0, .inr (11, ((g 0) :: .ref h1 :: .int 0 :: (g 3) :: (g 4) :: (g 5) :: (g 6) :: (g 7) :: (g 8) :: (g 9) :: (g 10) :: (g 11) :: (g 12) :: (g 13) :: (g 14) :: (g 15) :: (g 16) :: (g 17) :: (g 18) :: (g 19) :: (g 20) :: (g 21) :: (g 22) :: (g 23) :: (g 24) :: (g 25) :: (g 26) :: (g 27) :: (g 28) :: (g 29) :: (g 30) :: (g 31) :: (g 32) :: (g 33) :: (g 34) :: (g 35) :: (g 36) :: (g 37) :: (g 38) :: (g 39) :: (g 40) :: (g 41) :: (g 42) :: (g 43) :: (g 44) :: (g 45) :: (g 46) :: (g 47) :: (g 48) :: (g 49) :: (g 50) :: (g 51) :: (g 52) :: (g 53) :: (g 54) :: (g 55) :: (g 56) :: (g 57) :: (g 58) :: (g 59) :: (g 60) :: (g 61) :: (g 62) :: (g 63) :: (g 64) :: (g 65) :: (g 66) :: (g 67) :: (g 68) :: (g 69) :: (g 70) :: (g 71) :: (g 72) :: (g 73) :: (g 74) :: (g 75) :: (g 76) :: (g 77) :: (g 78) :: (g 79) :: (g 80) :: (g 81) :: (g 82) :: (g 83) :: (g 84) :: (g 85) :: (g 86) :: (g 87) :: (g 88) :: (g 89) :: (g 90) :: (g 91) :: (g 92) :: (g 93) :: (g 94) :: []))), (h1, .inl (cA, 1000, .inl f))] s.heap := hP
  have hl := lv_entry ([.ref h0, .int p0]) (n := 3) (Nat.le_of_ble_eq_true rfl)
  rw [lg_entry_eq]
  generalize (lg_sl ([.ref h0, .int p0]) ++ List.replicate (3 - (lg_sl ([.ref h0, .int p0])).length) Slot.unset).toArray = ls at hl ⊢
  have hl : lv_has ls 3 [(0, .ref h0), (1, .int p0)] := hl
  refine lv_bipush (v := 24) hx hb dX11_puts_0 (by decide) ?_
  refine lv_istore_n (lv' := [(2, .int 24), (0, .ref h0), (1, .int p0)]) hx hb dX11_puts_2 rfl hl (by decide) rfl (fun ls hl => ?_)
  refine lv_iload_n hx hb dX11_puts_3 rfl (lv_at hl 0 rfl) ?_
  refine lv_if_lt (tgt := 36) hx hb dX11_puts_4 (by decide) (fun h => absurd h (by decide)) (fun _ => ?_)
  refine lv_aload_n hx hb dX11_puts_7 rfl (lv_at hl 1 rfl) ?_
  refine va_get (D := (dC, dI)) (ci := 11) (v := .ref h1) (C := RX11) (T := TX11) (N := 95) hx hb hts inlX11 hown hK hP 0 rfl rfl 1 (by decide) (hts (.fieldLink RX11 7 "ShapeReaderModel" "tape" "[B") mw_8_27) (fun _ h9 => h9) rfl dX11_puts_8 ?_
  refine lv_aload_n hx hb dX11_puts_11 rfl (lv_at hl 1 rfl) ?_
  refine va_get (D := (dC, dI)) (ci := 11) (v := .int 0) (C := RX11) (T := TX11) (N := 95) hx hb hts inlX11 hown hK hP 0 rfl rfl 2 (by decide) (hts (.fieldLink RX11 182 "ShapeReaderModel" "taped" "I") mw_10_23) (fun _ h9 => h9) rfl dX11_puts_12 ?_
  refine lv_iload_n hx hb dX11_puts_15 rfl (lv_at hl 2 rfl) ?_
  refine lv_iload_n hx hb dX11_puts_16 rfl (lv_at hl 0 rfl) ?_
  refine lv_ishr hx hb dX11_puts_17 ?_
  refine lv_topi (fun x_2 ex_2 => ?_)
  refine lv_i2b (v := x_2.toInt8.toInt32) hx hb dX11_puts_18 rfl ?_
  generalize x_2.toInt8.toInt32 = x_3
  refine va_bast hx hb hK hP hD hS 1 0 rfl rfl (vp_in_iff.mpr (by decide)) dX11_puts_19 (fun H locs hP hD hS => ?_)
  obtain ⟨f_4, hP, hD⟩ : ∃ f_4 : Nat → Int32, va_P (dC, dI) vwCl [(h0, .inr (11, ((g 0) :: .ref h1 :: .int 0 :: (g 3) :: (g 4) :: (g 5) :: (g 6) :: (g 7) :: (g 8) :: (g 9) :: (g 10) :: (g 11) :: (g 12) :: (g 13) :: (g 14) :: (g 15) :: (g 16) :: (g 17) :: (g 18) :: (g 19) :: (g 20) :: (g 21) :: (g 22) :: (g 23) :: (g 24) :: (g 25) :: (g 26) :: (g 27) :: (g 28) :: (g 29) :: (g 30) :: (g 31) :: (g 32) :: (g 33) :: (g 34) :: (g 35) :: (g 36) :: (g 37) :: (g 38) :: (g 39) :: (g 40) :: (g 41) :: (g 42) :: (g 43) :: (g 44) :: (g 45) :: (g 46) :: (g 47) :: (g 48) :: (g 49) :: (g 50) :: (g 51) :: (g 52) :: (g 53) :: (g 54) :: (g 55) :: (g 56) :: (g 57) :: (g 58) :: (g 59) :: (g 60) :: (g 61) :: (g 62) :: (g 63) :: (g 64) :: (g 65) :: (g 66) :: (g 67) :: (g 68) :: (g 69) :: (g 70) :: (g 71) :: (g 72) :: (g 73) :: (g 74) :: (g 75) :: (g 76) :: (g 77) :: (g 78) :: (g 79) :: (g 80) :: (g 81) :: (g 82) :: (g 83) :: (g 84) :: (g 85) :: (g 86) :: (g 87) :: (g 88) :: (g 89) :: (g 90) :: (g 91) :: (g 92) :: (g 93) :: (g 94) :: []))), (h1, .inl (cA, 1000, .inl f_4))] H ∧ va_D A [(h0, .inr (11, ((g 0) :: .ref h1 :: .int 0 :: (g 3) :: (g 4) :: (g 5) :: (g 6) :: (g 7) :: (g 8) :: (g 9) :: (g 10) :: (g 11) :: (g 12) :: (g 13) :: (g 14) :: (g 15) :: (g 16) :: (g 17) :: (g 18) :: (g 19) :: (g 20) :: (g 21) :: (g 22) :: (g 23) :: (g 24) :: (g 25) :: (g 26) :: (g 27) :: (g 28) :: (g 29) :: (g 30) :: (g 31) :: (g 32) :: (g 33) :: (g 34) :: (g 35) :: (g 36) :: (g 37) :: (g 38) :: (g 39) :: (g 40) :: (g 41) :: (g 42) :: (g 43) :: (g 44) :: (g 45) :: (g 46) :: (g 47) :: (g 48) :: (g 49) :: (g 50) :: (g 51) :: (g 52) :: (g 53) :: (g 54) :: (g 55) :: (g 56) :: (g 57) :: (g 58) :: (g 59) :: (g 60) :: (g 61) :: (g 62) :: (g 63) :: (g 64) :: (g 65) :: (g 66) :: (g 67) :: (g 68) :: (g 69) :: (g 70) :: (g 71) :: (g 72) :: (g 73) :: (g 74) :: (g 75) :: (g 76) :: (g 77) :: (g 78) :: (g 79) :: (g 80) :: (g 81) :: (g 82) :: (g 83) :: (g 84) :: (g 85) :: (g 86) :: (g 87) :: (g 88) :: (g 89) :: (g 90) :: (g 91) :: (g 92) :: (g 93) :: (g 94) :: []))), (h1, .inl (cA, 1000, .inl f_4))] := ⟨_, hP, hD⟩
  refine lv_aload_n hx hb dX11_puts_20 rfl (lv_at hl 1 rfl) ?_
  refine lv_dup hx hb dX11_puts_21 rfl ?_
  refine va_get (D := (dC, dI)) (ci := 11) (v := .int 0) (C := RX11) (T := TX11) (N := 95) hx hb hts inlX11 hown hK hP 0 rfl rfl 2 (by decide) (hts (.fieldLink RX11 182 "ShapeReaderModel" "taped" "I") mw_10_23) (fun _ h9 => h9) rfl dX11_puts_22 ?_
  refine lv_iconst (v := 1) hx hb dX11_puts_25 (by decide) ?_
  refine lv_iadd hx hb dX11_puts_26 ?_
  refine lv_topi (fun k_5 ek_5 => ?_)
  obtain rfl : k_5 = 1 := ek_5.trans (by decide)
  refine va_put (D := (dC, dI)) (ci := 11) (v := .int 1) (ty := .int) (C := RX11) (T := TX11) (N := 95) hx hb hts inlX11 tyX11 tyX11_ok nmX11 hown hK hP hD hS 0 rfl rfl 2 (by decide) (hts (.fieldLink RX11 182 "ShapeReaderModel" "taped" "I") mw_10_23) (fun _ h9 => h9) rfl (by decide +kernel) rfl rfl (Nat.le_of_ble_eq_true rfl) dX11_puts_27 (fun H locs hP hD hS => ?_)
  have hP : va_P (dC, dI) vwCl [(h0, .inr (11, ((g 0) :: .ref h1 :: .int 1 :: (g 3) :: (g 4) :: (g 5) :: (g 6) :: (g 7) :: (g 8) :: (g 9) :: (g 10) :: (g 11) :: (g 12) :: (g 13) :: (g 14) :: (g 15) :: (g 16) :: (g 17) :: (g 18) :: (g 19) :: (g 20) :: (g 21) :: (g 22) :: (g 23) :: (g 24) :: (g 25) :: (g 26) :: (g 27) :: (g 28) :: (g 29) :: (g 30) :: (g 31) :: (g 32) :: (g 33) :: (g 34) :: (g 35) :: (g 36) :: (g 37) :: (g 38) :: (g 39) :: (g 40) :: (g 41) :: (g 42) :: (g 43) :: (g 44) :: (g 45) :: (g 46) :: (g 47) :: (g 48) :: (g 49) :: (g 50) :: (g 51) :: (g 52) :: (g 53) :: (g 54) :: (g 55) :: (g 56) :: (g 57) :: (g 58) :: (g 59) :: (g 60) :: (g 61) :: (g 62) :: (g 63) :: (g 64) :: (g 65) :: (g 66) :: (g 67) :: (g 68) :: (g 69) :: (g 70) :: (g 71) :: (g 72) :: (g 73) :: (g 74) :: (g 75) :: (g 76) :: (g 77) :: (g 78) :: (g 79) :: (g 80) :: (g 81) :: (g 82) :: (g 83) :: (g 84) :: (g 85) :: (g 86) :: (g 87) :: (g 88) :: (g 89) :: (g 90) :: (g 91) :: (g 92) :: (g 93) :: (g 94) :: []))), (h1, .inl (cA, 1000, .inl f_4))] H := hP
  have hD : va_D A [(h0, .inr (11, ((g 0) :: .ref h1 :: .int 1 :: (g 3) :: (g 4) :: (g 5) :: (g 6) :: (g 7) :: (g 8) :: (g 9) :: (g 10) :: (g 11) :: (g 12) :: (g 13) :: (g 14) :: (g 15) :: (g 16) :: (g 17) :: (g 18) :: (g 19) :: (g 20) :: (g 21) :: (g 22) :: (g 23) :: (g 24) :: (g 25) :: (g 26) :: (g 27) :: (g 28) :: (g 29) :: (g 30) :: (g 31) :: (g 32) :: (g 33) :: (g 34) :: (g 35) :: (g 36) :: (g 37) :: (g 38) :: (g 39) :: (g 40) :: (g 41) :: (g 42) :: (g 43) :: (g 44) :: (g 45) :: (g 46) :: (g 47) :: (g 48) :: (g 49) :: (g 50) :: (g 51) :: (g 52) :: (g 53) :: (g 54) :: (g 55) :: (g 56) :: (g 57) :: (g 58) :: (g 59) :: (g 60) :: (g 61) :: (g 62) :: (g 63) :: (g 64) :: (g 65) :: (g 66) :: (g 67) :: (g 68) :: (g 69) :: (g 70) :: (g 71) :: (g 72) :: (g 73) :: (g 74) :: (g 75) :: (g 76) :: (g 77) :: (g 78) :: (g 79) :: (g 80) :: (g 81) :: (g 82) :: (g 83) :: (g 84) :: (g 85) :: (g 86) :: (g 87) :: (g 88) :: (g 89) :: (g 90) :: (g 91) :: (g 92) :: (g 93) :: (g 94) :: []))), (h1, .inl (cA, 1000, .inl f_4))] := hD
  refine lv_iinc (v := 16) (lv' := [(2, .int 16), (0, .ref h0), (1, .int p0)]) hx hb dX11_puts_30 hl (k := 0) rfl (by decide) (by decide) rfl (fun ls hl => ?_)
  refine lv_goto (tgt := 3) hx hb dX11_puts_33 (by decide) ?_
  refine lv_iload_n hx hb dX11_puts_3 rfl (lv_at hl 0 rfl) ?_
  refine lv_if_lt (tgt := 36) hx hb dX11_puts_4 (by decide) (fun h => absurd h (by decide)) (fun _ => ?_)
  refine lv_aload_n hx hb dX11_puts_7 rfl (lv_at hl 1 rfl) ?_
  refine va_get (D := (dC, dI)) (ci := 11) (v := .ref h1) (C := RX11) (T := TX11) (N := 95) hx hb hts inlX11 hown hK hP 0 rfl rfl 1 (by decide) (hts (.fieldLink RX11 7 "ShapeReaderModel" "tape" "[B") mw_8_27) (fun _ h9 => h9) rfl dX11_puts_8 ?_
  refine lv_aload_n hx hb dX11_puts_11 rfl (lv_at hl 1 rfl) ?_
  refine va_get (D := (dC, dI)) (ci := 11) (v := .int 1) (C := RX11) (T := TX11) (N := 95) hx hb hts inlX11 hown hK hP 0 rfl rfl 2 (by decide) (hts (.fieldLink RX11 182 "ShapeReaderModel" "taped" "I") mw_10_23) (fun _ h9 => h9) rfl dX11_puts_12 ?_
  refine lv_iload_n hx hb dX11_puts_15 rfl (lv_at hl 2 rfl) ?_
  refine lv_iload_n hx hb dX11_puts_16 rfl (lv_at hl 0 rfl) ?_
  refine lv_ishr hx hb dX11_puts_17 ?_
  refine lv_topi (fun x_7 ex_7 => ?_)
  refine lv_i2b (v := x_7.toInt8.toInt32) hx hb dX11_puts_18 rfl ?_
  generalize x_7.toInt8.toInt32 = x_8
  refine va_bast hx hb hK hP hD hS 1 0 rfl rfl (vp_in_iff.mpr (by decide)) dX11_puts_19 (fun H locs hP hD hS => ?_)
  obtain ⟨f_9, hP, hD⟩ : ∃ f_9 : Nat → Int32, va_P (dC, dI) vwCl [(h0, .inr (11, ((g 0) :: .ref h1 :: .int 1 :: (g 3) :: (g 4) :: (g 5) :: (g 6) :: (g 7) :: (g 8) :: (g 9) :: (g 10) :: (g 11) :: (g 12) :: (g 13) :: (g 14) :: (g 15) :: (g 16) :: (g 17) :: (g 18) :: (g 19) :: (g 20) :: (g 21) :: (g 22) :: (g 23) :: (g 24) :: (g 25) :: (g 26) :: (g 27) :: (g 28) :: (g 29) :: (g 30) :: (g 31) :: (g 32) :: (g 33) :: (g 34) :: (g 35) :: (g 36) :: (g 37) :: (g 38) :: (g 39) :: (g 40) :: (g 41) :: (g 42) :: (g 43) :: (g 44) :: (g 45) :: (g 46) :: (g 47) :: (g 48) :: (g 49) :: (g 50) :: (g 51) :: (g 52) :: (g 53) :: (g 54) :: (g 55) :: (g 56) :: (g 57) :: (g 58) :: (g 59) :: (g 60) :: (g 61) :: (g 62) :: (g 63) :: (g 64) :: (g 65) :: (g 66) :: (g 67) :: (g 68) :: (g 69) :: (g 70) :: (g 71) :: (g 72) :: (g 73) :: (g 74) :: (g 75) :: (g 76) :: (g 77) :: (g 78) :: (g 79) :: (g 80) :: (g 81) :: (g 82) :: (g 83) :: (g 84) :: (g 85) :: (g 86) :: (g 87) :: (g 88) :: (g 89) :: (g 90) :: (g 91) :: (g 92) :: (g 93) :: (g 94) :: []))), (h1, .inl (cA, 1000, .inl f_9))] H ∧ va_D A [(h0, .inr (11, ((g 0) :: .ref h1 :: .int 1 :: (g 3) :: (g 4) :: (g 5) :: (g 6) :: (g 7) :: (g 8) :: (g 9) :: (g 10) :: (g 11) :: (g 12) :: (g 13) :: (g 14) :: (g 15) :: (g 16) :: (g 17) :: (g 18) :: (g 19) :: (g 20) :: (g 21) :: (g 22) :: (g 23) :: (g 24) :: (g 25) :: (g 26) :: (g 27) :: (g 28) :: (g 29) :: (g 30) :: (g 31) :: (g 32) :: (g 33) :: (g 34) :: (g 35) :: (g 36) :: (g 37) :: (g 38) :: (g 39) :: (g 40) :: (g 41) :: (g 42) :: (g 43) :: (g 44) :: (g 45) :: (g 46) :: (g 47) :: (g 48) :: (g 49) :: (g 50) :: (g 51) :: (g 52) :: (g 53) :: (g 54) :: (g 55) :: (g 56) :: (g 57) :: (g 58) :: (g 59) :: (g 60) :: (g 61) :: (g 62) :: (g 63) :: (g 64) :: (g 65) :: (g 66) :: (g 67) :: (g 68) :: (g 69) :: (g 70) :: (g 71) :: (g 72) :: (g 73) :: (g 74) :: (g 75) :: (g 76) :: (g 77) :: (g 78) :: (g 79) :: (g 80) :: (g 81) :: (g 82) :: (g 83) :: (g 84) :: (g 85) :: (g 86) :: (g 87) :: (g 88) :: (g 89) :: (g 90) :: (g 91) :: (g 92) :: (g 93) :: (g 94) :: []))), (h1, .inl (cA, 1000, .inl f_9))] := ⟨_, hP, hD⟩
  refine lv_aload_n hx hb dX11_puts_20 rfl (lv_at hl 1 rfl) ?_
  refine lv_dup hx hb dX11_puts_21 rfl ?_
  refine va_get (D := (dC, dI)) (ci := 11) (v := .int 1) (C := RX11) (T := TX11) (N := 95) hx hb hts inlX11 hown hK hP 0 rfl rfl 2 (by decide) (hts (.fieldLink RX11 182 "ShapeReaderModel" "taped" "I") mw_10_23) (fun _ h9 => h9) rfl dX11_puts_22 ?_
  refine lv_iconst (v := 1) hx hb dX11_puts_25 (by decide) ?_
  refine lv_iadd hx hb dX11_puts_26 ?_
  refine lv_topi (fun k_10 ek_10 => ?_)
  obtain rfl : k_10 = 2 := ek_10.trans (by decide)
  refine va_put (D := (dC, dI)) (ci := 11) (v := .int 2) (ty := .int) (C := RX11) (T := TX11) (N := 95) hx hb hts inlX11 tyX11 tyX11_ok nmX11 hown hK hP hD hS 0 rfl rfl 2 (by decide) (hts (.fieldLink RX11 182 "ShapeReaderModel" "taped" "I") mw_10_23) (fun _ h9 => h9) rfl (by decide +kernel) rfl rfl (Nat.le_of_ble_eq_true rfl) dX11_puts_27 (fun H locs hP hD hS => ?_)
  have hP : va_P (dC, dI) vwCl [(h0, .inr (11, ((g 0) :: .ref h1 :: .int 2 :: (g 3) :: (g 4) :: (g 5) :: (g 6) :: (g 7) :: (g 8) :: (g 9) :: (g 10) :: (g 11) :: (g 12) :: (g 13) :: (g 14) :: (g 15) :: (g 16) :: (g 17) :: (g 18) :: (g 19) :: (g 20) :: (g 21) :: (g 22) :: (g 23) :: (g 24) :: (g 25) :: (g 26) :: (g 27) :: (g 28) :: (g 29) :: (g 30) :: (g 31) :: (g 32) :: (g 33) :: (g 34) :: (g 35) :: (g 36) :: (g 37) :: (g 38) :: (g 39) :: (g 40) :: (g 41) :: (g 42) :: (g 43) :: (g 44) :: (g 45) :: (g 46) :: (g 47) :: (g 48) :: (g 49) :: (g 50) :: (g 51) :: (g 52) :: (g 53) :: (g 54) :: (g 55) :: (g 56) :: (g 57) :: (g 58) :: (g 59) :: (g 60) :: (g 61) :: (g 62) :: (g 63) :: (g 64) :: (g 65) :: (g 66) :: (g 67) :: (g 68) :: (g 69) :: (g 70) :: (g 71) :: (g 72) :: (g 73) :: (g 74) :: (g 75) :: (g 76) :: (g 77) :: (g 78) :: (g 79) :: (g 80) :: (g 81) :: (g 82) :: (g 83) :: (g 84) :: (g 85) :: (g 86) :: (g 87) :: (g 88) :: (g 89) :: (g 90) :: (g 91) :: (g 92) :: (g 93) :: (g 94) :: []))), (h1, .inl (cA, 1000, .inl f_9))] H := hP
  have hD : va_D A [(h0, .inr (11, ((g 0) :: .ref h1 :: .int 2 :: (g 3) :: (g 4) :: (g 5) :: (g 6) :: (g 7) :: (g 8) :: (g 9) :: (g 10) :: (g 11) :: (g 12) :: (g 13) :: (g 14) :: (g 15) :: (g 16) :: (g 17) :: (g 18) :: (g 19) :: (g 20) :: (g 21) :: (g 22) :: (g 23) :: (g 24) :: (g 25) :: (g 26) :: (g 27) :: (g 28) :: (g 29) :: (g 30) :: (g 31) :: (g 32) :: (g 33) :: (g 34) :: (g 35) :: (g 36) :: (g 37) :: (g 38) :: (g 39) :: (g 40) :: (g 41) :: (g 42) :: (g 43) :: (g 44) :: (g 45) :: (g 46) :: (g 47) :: (g 48) :: (g 49) :: (g 50) :: (g 51) :: (g 52) :: (g 53) :: (g 54) :: (g 55) :: (g 56) :: (g 57) :: (g 58) :: (g 59) :: (g 60) :: (g 61) :: (g 62) :: (g 63) :: (g 64) :: (g 65) :: (g 66) :: (g 67) :: (g 68) :: (g 69) :: (g 70) :: (g 71) :: (g 72) :: (g 73) :: (g 74) :: (g 75) :: (g 76) :: (g 77) :: (g 78) :: (g 79) :: (g 80) :: (g 81) :: (g 82) :: (g 83) :: (g 84) :: (g 85) :: (g 86) :: (g 87) :: (g 88) :: (g 89) :: (g 90) :: (g 91) :: (g 92) :: (g 93) :: (g 94) :: []))), (h1, .inl (cA, 1000, .inl f_9))] := hD
  refine lv_iinc (v := 8) (lv' := [(2, .int 8), (0, .ref h0), (1, .int p0)]) hx hb dX11_puts_30 hl (k := 0) rfl (by decide) (by decide) rfl (fun ls hl => ?_)
  refine lv_goto (tgt := 3) hx hb dX11_puts_33 (by decide) ?_
  refine lv_iload_n hx hb dX11_puts_3 rfl (lv_at hl 0 rfl) ?_
  refine lv_if_lt (tgt := 36) hx hb dX11_puts_4 (by decide) (fun h => absurd h (by decide)) (fun _ => ?_)
  refine lv_aload_n hx hb dX11_puts_7 rfl (lv_at hl 1 rfl) ?_
  refine va_get (D := (dC, dI)) (ci := 11) (v := .ref h1) (C := RX11) (T := TX11) (N := 95) hx hb hts inlX11 hown hK hP 0 rfl rfl 1 (by decide) (hts (.fieldLink RX11 7 "ShapeReaderModel" "tape" "[B") mw_8_27) (fun _ h9 => h9) rfl dX11_puts_8 ?_
  refine lv_aload_n hx hb dX11_puts_11 rfl (lv_at hl 1 rfl) ?_
  refine va_get (D := (dC, dI)) (ci := 11) (v := .int 2) (C := RX11) (T := TX11) (N := 95) hx hb hts inlX11 hown hK hP 0 rfl rfl 2 (by decide) (hts (.fieldLink RX11 182 "ShapeReaderModel" "taped" "I") mw_10_23) (fun _ h9 => h9) rfl dX11_puts_12 ?_
  refine lv_iload_n hx hb dX11_puts_15 rfl (lv_at hl 2 rfl) ?_
  refine lv_iload_n hx hb dX11_puts_16 rfl (lv_at hl 0 rfl) ?_
  refine lv_ishr hx hb dX11_puts_17 ?_
  refine lv_topi (fun x_12 ex_12 => ?_)
  refine lv_i2b (v := x_12.toInt8.toInt32) hx hb dX11_puts_18 rfl ?_
  generalize x_12.toInt8.toInt32 = x_13
  refine va_bast hx hb hK hP hD hS 1 0 rfl rfl (vp_in_iff.mpr (by decide)) dX11_puts_19 (fun H locs hP hD hS => ?_)
  obtain ⟨f_14, hP, hD⟩ : ∃ f_14 : Nat → Int32, va_P (dC, dI) vwCl [(h0, .inr (11, ((g 0) :: .ref h1 :: .int 2 :: (g 3) :: (g 4) :: (g 5) :: (g 6) :: (g 7) :: (g 8) :: (g 9) :: (g 10) :: (g 11) :: (g 12) :: (g 13) :: (g 14) :: (g 15) :: (g 16) :: (g 17) :: (g 18) :: (g 19) :: (g 20) :: (g 21) :: (g 22) :: (g 23) :: (g 24) :: (g 25) :: (g 26) :: (g 27) :: (g 28) :: (g 29) :: (g 30) :: (g 31) :: (g 32) :: (g 33) :: (g 34) :: (g 35) :: (g 36) :: (g 37) :: (g 38) :: (g 39) :: (g 40) :: (g 41) :: (g 42) :: (g 43) :: (g 44) :: (g 45) :: (g 46) :: (g 47) :: (g 48) :: (g 49) :: (g 50) :: (g 51) :: (g 52) :: (g 53) :: (g 54) :: (g 55) :: (g 56) :: (g 57) :: (g 58) :: (g 59) :: (g 60) :: (g 61) :: (g 62) :: (g 63) :: (g 64) :: (g 65) :: (g 66) :: (g 67) :: (g 68) :: (g 69) :: (g 70) :: (g 71) :: (g 72) :: (g 73) :: (g 74) :: (g 75) :: (g 76) :: (g 77) :: (g 78) :: (g 79) :: (g 80) :: (g 81) :: (g 82) :: (g 83) :: (g 84) :: (g 85) :: (g 86) :: (g 87) :: (g 88) :: (g 89) :: (g 90) :: (g 91) :: (g 92) :: (g 93) :: (g 94) :: []))), (h1, .inl (cA, 1000, .inl f_14))] H ∧ va_D A [(h0, .inr (11, ((g 0) :: .ref h1 :: .int 2 :: (g 3) :: (g 4) :: (g 5) :: (g 6) :: (g 7) :: (g 8) :: (g 9) :: (g 10) :: (g 11) :: (g 12) :: (g 13) :: (g 14) :: (g 15) :: (g 16) :: (g 17) :: (g 18) :: (g 19) :: (g 20) :: (g 21) :: (g 22) :: (g 23) :: (g 24) :: (g 25) :: (g 26) :: (g 27) :: (g 28) :: (g 29) :: (g 30) :: (g 31) :: (g 32) :: (g 33) :: (g 34) :: (g 35) :: (g 36) :: (g 37) :: (g 38) :: (g 39) :: (g 40) :: (g 41) :: (g 42) :: (g 43) :: (g 44) :: (g 45) :: (g 46) :: (g 47) :: (g 48) :: (g 49) :: (g 50) :: (g 51) :: (g 52) :: (g 53) :: (g 54) :: (g 55) :: (g 56) :: (g 57) :: (g 58) :: (g 59) :: (g 60) :: (g 61) :: (g 62) :: (g 63) :: (g 64) :: (g 65) :: (g 66) :: (g 67) :: (g 68) :: (g 69) :: (g 70) :: (g 71) :: (g 72) :: (g 73) :: (g 74) :: (g 75) :: (g 76) :: (g 77) :: (g 78) :: (g 79) :: (g 80) :: (g 81) :: (g 82) :: (g 83) :: (g 84) :: (g 85) :: (g 86) :: (g 87) :: (g 88) :: (g 89) :: (g 90) :: (g 91) :: (g 92) :: (g 93) :: (g 94) :: []))), (h1, .inl (cA, 1000, .inl f_14))] := ⟨_, hP, hD⟩
  refine lv_aload_n hx hb dX11_puts_20 rfl (lv_at hl 1 rfl) ?_
  refine lv_dup hx hb dX11_puts_21 rfl ?_
  refine va_get (D := (dC, dI)) (ci := 11) (v := .int 2) (C := RX11) (T := TX11) (N := 95) hx hb hts inlX11 hown hK hP 0 rfl rfl 2 (by decide) (hts (.fieldLink RX11 182 "ShapeReaderModel" "taped" "I") mw_10_23) (fun _ h9 => h9) rfl dX11_puts_22 ?_
  refine lv_iconst (v := 1) hx hb dX11_puts_25 (by decide) ?_
  refine lv_iadd hx hb dX11_puts_26 ?_
  refine lv_topi (fun k_15 ek_15 => ?_)
  obtain rfl : k_15 = 3 := ek_15.trans (by decide)
  refine va_put (D := (dC, dI)) (ci := 11) (v := .int 3) (ty := .int) (C := RX11) (T := TX11) (N := 95) hx hb hts inlX11 tyX11 tyX11_ok nmX11 hown hK hP hD hS 0 rfl rfl 2 (by decide) (hts (.fieldLink RX11 182 "ShapeReaderModel" "taped" "I") mw_10_23) (fun _ h9 => h9) rfl (by decide +kernel) rfl rfl (Nat.le_of_ble_eq_true rfl) dX11_puts_27 (fun H locs hP hD hS => ?_)
  have hP : va_P (dC, dI) vwCl [(h0, .inr (11, ((g 0) :: .ref h1 :: .int 3 :: (g 3) :: (g 4) :: (g 5) :: (g 6) :: (g 7) :: (g 8) :: (g 9) :: (g 10) :: (g 11) :: (g 12) :: (g 13) :: (g 14) :: (g 15) :: (g 16) :: (g 17) :: (g 18) :: (g 19) :: (g 20) :: (g 21) :: (g 22) :: (g 23) :: (g 24) :: (g 25) :: (g 26) :: (g 27) :: (g 28) :: (g 29) :: (g 30) :: (g 31) :: (g 32) :: (g 33) :: (g 34) :: (g 35) :: (g 36) :: (g 37) :: (g 38) :: (g 39) :: (g 40) :: (g 41) :: (g 42) :: (g 43) :: (g 44) :: (g 45) :: (g 46) :: (g 47) :: (g 48) :: (g 49) :: (g 50) :: (g 51) :: (g 52) :: (g 53) :: (g 54) :: (g 55) :: (g 56) :: (g 57) :: (g 58) :: (g 59) :: (g 60) :: (g 61) :: (g 62) :: (g 63) :: (g 64) :: (g 65) :: (g 66) :: (g 67) :: (g 68) :: (g 69) :: (g 70) :: (g 71) :: (g 72) :: (g 73) :: (g 74) :: (g 75) :: (g 76) :: (g 77) :: (g 78) :: (g 79) :: (g 80) :: (g 81) :: (g 82) :: (g 83) :: (g 84) :: (g 85) :: (g 86) :: (g 87) :: (g 88) :: (g 89) :: (g 90) :: (g 91) :: (g 92) :: (g 93) :: (g 94) :: []))), (h1, .inl (cA, 1000, .inl f_14))] H := hP
  have hD : va_D A [(h0, .inr (11, ((g 0) :: .ref h1 :: .int 3 :: (g 3) :: (g 4) :: (g 5) :: (g 6) :: (g 7) :: (g 8) :: (g 9) :: (g 10) :: (g 11) :: (g 12) :: (g 13) :: (g 14) :: (g 15) :: (g 16) :: (g 17) :: (g 18) :: (g 19) :: (g 20) :: (g 21) :: (g 22) :: (g 23) :: (g 24) :: (g 25) :: (g 26) :: (g 27) :: (g 28) :: (g 29) :: (g 30) :: (g 31) :: (g 32) :: (g 33) :: (g 34) :: (g 35) :: (g 36) :: (g 37) :: (g 38) :: (g 39) :: (g 40) :: (g 41) :: (g 42) :: (g 43) :: (g 44) :: (g 45) :: (g 46) :: (g 47) :: (g 48) :: (g 49) :: (g 50) :: (g 51) :: (g 52) :: (g 53) :: (g 54) :: (g 55) :: (g 56) :: (g 57) :: (g 58) :: (g 59) :: (g 60) :: (g 61) :: (g 62) :: (g 63) :: (g 64) :: (g 65) :: (g 66) :: (g 67) :: (g 68) :: (g 69) :: (g 70) :: (g 71) :: (g 72) :: (g 73) :: (g 74) :: (g 75) :: (g 76) :: (g 77) :: (g 78) :: (g 79) :: (g 80) :: (g 81) :: (g 82) :: (g 83) :: (g 84) :: (g 85) :: (g 86) :: (g 87) :: (g 88) :: (g 89) :: (g 90) :: (g 91) :: (g 92) :: (g 93) :: (g 94) :: []))), (h1, .inl (cA, 1000, .inl f_14))] := hD
  refine lv_iinc (v := 0) (lv' := [(2, .int 0), (0, .ref h0), (1, .int p0)]) hx hb dX11_puts_30 hl (k := 0) rfl (by decide) (by decide) rfl (fun ls hl => ?_)
  refine lv_goto (tgt := 3) hx hb dX11_puts_33 (by decide) ?_
  refine lv_iload_n hx hb dX11_puts_3 rfl (lv_at hl 0 rfl) ?_
  refine lv_if_lt (tgt := 36) hx hb dX11_puts_4 (by decide) (fun h => absurd h (by decide)) (fun _ => ?_)
  refine lv_aload_n hx hb dX11_puts_7 rfl (lv_at hl 1 rfl) ?_
  refine va_get (D := (dC, dI)) (ci := 11) (v := .ref h1) (C := RX11) (T := TX11) (N := 95) hx hb hts inlX11 hown hK hP 0 rfl rfl 1 (by decide) (hts (.fieldLink RX11 7 "ShapeReaderModel" "tape" "[B") mw_8_27) (fun _ h9 => h9) rfl dX11_puts_8 ?_
  refine lv_aload_n hx hb dX11_puts_11 rfl (lv_at hl 1 rfl) ?_
  refine va_get (D := (dC, dI)) (ci := 11) (v := .int 3) (C := RX11) (T := TX11) (N := 95) hx hb hts inlX11 hown hK hP 0 rfl rfl 2 (by decide) (hts (.fieldLink RX11 182 "ShapeReaderModel" "taped" "I") mw_10_23) (fun _ h9 => h9) rfl dX11_puts_12 ?_
  refine lv_iload_n hx hb dX11_puts_15 rfl (lv_at hl 2 rfl) ?_
  refine lv_iload_n hx hb dX11_puts_16 rfl (lv_at hl 0 rfl) ?_
  refine lv_ishr hx hb dX11_puts_17 ?_
  refine lv_topi (fun x_17 ex_17 => ?_)
  refine lv_i2b (v := x_17.toInt8.toInt32) hx hb dX11_puts_18 rfl ?_
  generalize x_17.toInt8.toInt32 = x_18
  refine va_bast hx hb hK hP hD hS 1 0 rfl rfl (vp_in_iff.mpr (by decide)) dX11_puts_19 (fun H locs hP hD hS => ?_)
  obtain ⟨f_19, hP, hD⟩ : ∃ f_19 : Nat → Int32, va_P (dC, dI) vwCl [(h0, .inr (11, ((g 0) :: .ref h1 :: .int 3 :: (g 3) :: (g 4) :: (g 5) :: (g 6) :: (g 7) :: (g 8) :: (g 9) :: (g 10) :: (g 11) :: (g 12) :: (g 13) :: (g 14) :: (g 15) :: (g 16) :: (g 17) :: (g 18) :: (g 19) :: (g 20) :: (g 21) :: (g 22) :: (g 23) :: (g 24) :: (g 25) :: (g 26) :: (g 27) :: (g 28) :: (g 29) :: (g 30) :: (g 31) :: (g 32) :: (g 33) :: (g 34) :: (g 35) :: (g 36) :: (g 37) :: (g 38) :: (g 39) :: (g 40) :: (g 41) :: (g 42) :: (g 43) :: (g 44) :: (g 45) :: (g 46) :: (g 47) :: (g 48) :: (g 49) :: (g 50) :: (g 51) :: (g 52) :: (g 53) :: (g 54) :: (g 55) :: (g 56) :: (g 57) :: (g 58) :: (g 59) :: (g 60) :: (g 61) :: (g 62) :: (g 63) :: (g 64) :: (g 65) :: (g 66) :: (g 67) :: (g 68) :: (g 69) :: (g 70) :: (g 71) :: (g 72) :: (g 73) :: (g 74) :: (g 75) :: (g 76) :: (g 77) :: (g 78) :: (g 79) :: (g 80) :: (g 81) :: (g 82) :: (g 83) :: (g 84) :: (g 85) :: (g 86) :: (g 87) :: (g 88) :: (g 89) :: (g 90) :: (g 91) :: (g 92) :: (g 93) :: (g 94) :: []))), (h1, .inl (cA, 1000, .inl f_19))] H ∧ va_D A [(h0, .inr (11, ((g 0) :: .ref h1 :: .int 3 :: (g 3) :: (g 4) :: (g 5) :: (g 6) :: (g 7) :: (g 8) :: (g 9) :: (g 10) :: (g 11) :: (g 12) :: (g 13) :: (g 14) :: (g 15) :: (g 16) :: (g 17) :: (g 18) :: (g 19) :: (g 20) :: (g 21) :: (g 22) :: (g 23) :: (g 24) :: (g 25) :: (g 26) :: (g 27) :: (g 28) :: (g 29) :: (g 30) :: (g 31) :: (g 32) :: (g 33) :: (g 34) :: (g 35) :: (g 36) :: (g 37) :: (g 38) :: (g 39) :: (g 40) :: (g 41) :: (g 42) :: (g 43) :: (g 44) :: (g 45) :: (g 46) :: (g 47) :: (g 48) :: (g 49) :: (g 50) :: (g 51) :: (g 52) :: (g 53) :: (g 54) :: (g 55) :: (g 56) :: (g 57) :: (g 58) :: (g 59) :: (g 60) :: (g 61) :: (g 62) :: (g 63) :: (g 64) :: (g 65) :: (g 66) :: (g 67) :: (g 68) :: (g 69) :: (g 70) :: (g 71) :: (g 72) :: (g 73) :: (g 74) :: (g 75) :: (g 76) :: (g 77) :: (g 78) :: (g 79) :: (g 80) :: (g 81) :: (g 82) :: (g 83) :: (g 84) :: (g 85) :: (g 86) :: (g 87) :: (g 88) :: (g 89) :: (g 90) :: (g 91) :: (g 92) :: (g 93) :: (g 94) :: []))), (h1, .inl (cA, 1000, .inl f_19))] := ⟨_, hP, hD⟩
  refine lv_aload_n hx hb dX11_puts_20 rfl (lv_at hl 1 rfl) ?_
  refine lv_dup hx hb dX11_puts_21 rfl ?_
  refine va_get (D := (dC, dI)) (ci := 11) (v := .int 3) (C := RX11) (T := TX11) (N := 95) hx hb hts inlX11 hown hK hP 0 rfl rfl 2 (by decide) (hts (.fieldLink RX11 182 "ShapeReaderModel" "taped" "I") mw_10_23) (fun _ h9 => h9) rfl dX11_puts_22 ?_
  refine lv_iconst (v := 1) hx hb dX11_puts_25 (by decide) ?_
  refine lv_iadd hx hb dX11_puts_26 ?_
  refine lv_topi (fun k_20 ek_20 => ?_)
  obtain rfl : k_20 = 4 := ek_20.trans (by decide)
  refine va_put (D := (dC, dI)) (ci := 11) (v := .int 4) (ty := .int) (C := RX11) (T := TX11) (N := 95) hx hb hts inlX11 tyX11 tyX11_ok nmX11 hown hK hP hD hS 0 rfl rfl 2 (by decide) (hts (.fieldLink RX11 182 "ShapeReaderModel" "taped" "I") mw_10_23) (fun _ h9 => h9) rfl (by decide +kernel) rfl rfl (Nat.le_of_ble_eq_true rfl) dX11_puts_27 (fun H locs hP hD hS => ?_)
  have hP : va_P (dC, dI) vwCl [(h0, .inr (11, ((g 0) :: .ref h1 :: .int 4 :: (g 3) :: (g 4) :: (g 5) :: (g 6) :: (g 7) :: (g 8) :: (g 9) :: (g 10) :: (g 11) :: (g 12) :: (g 13) :: (g 14) :: (g 15) :: (g 16) :: (g 17) :: (g 18) :: (g 19) :: (g 20) :: (g 21) :: (g 22) :: (g 23) :: (g 24) :: (g 25) :: (g 26) :: (g 27) :: (g 28) :: (g 29) :: (g 30) :: (g 31) :: (g 32) :: (g 33) :: (g 34) :: (g 35) :: (g 36) :: (g 37) :: (g 38) :: (g 39) :: (g 40) :: (g 41) :: (g 42) :: (g 43) :: (g 44) :: (g 45) :: (g 46) :: (g 47) :: (g 48) :: (g 49) :: (g 50) :: (g 51) :: (g 52) :: (g 53) :: (g 54) :: (g 55) :: (g 56) :: (g 57) :: (g 58) :: (g 59) :: (g 60) :: (g 61) :: (g 62) :: (g 63) :: (g 64) :: (g 65) :: (g 66) :: (g 67) :: (g 68) :: (g 69) :: (g 70) :: (g 71) :: (g 72) :: (g 73) :: (g 74) :: (g 75) :: (g 76) :: (g 77) :: (g 78) :: (g 79) :: (g 80) :: (g 81) :: (g 82) :: (g 83) :: (g 84) :: (g 85) :: (g 86) :: (g 87) :: (g 88) :: (g 89) :: (g 90) :: (g 91) :: (g 92) :: (g 93) :: (g 94) :: []))), (h1, .inl (cA, 1000, .inl f_19))] H := hP
  have hD : va_D A [(h0, .inr (11, ((g 0) :: .ref h1 :: .int 4 :: (g 3) :: (g 4) :: (g 5) :: (g 6) :: (g 7) :: (g 8) :: (g 9) :: (g 10) :: (g 11) :: (g 12) :: (g 13) :: (g 14) :: (g 15) :: (g 16) :: (g 17) :: (g 18) :: (g 19) :: (g 20) :: (g 21) :: (g 22) :: (g 23) :: (g 24) :: (g 25) :: (g 26) :: (g 27) :: (g 28) :: (g 29) :: (g 30) :: (g 31) :: (g 32) :: (g 33) :: (g 34) :: (g 35) :: (g 36) :: (g 37) :: (g 38) :: (g 39) :: (g 40) :: (g 41) :: (g 42) :: (g 43) :: (g 44) :: (g 45) :: (g 46) :: (g 47) :: (g 48) :: (g 49) :: (g 50) :: (g 51) :: (g 52) :: (g 53) :: (g 54) :: (g 55) :: (g 56) :: (g 57) :: (g 58) :: (g 59) :: (g 60) :: (g 61) :: (g 62) :: (g 63) :: (g 64) :: (g 65) :: (g 66) :: (g 67) :: (g 68) :: (g 69) :: (g 70) :: (g 71) :: (g 72) :: (g 73) :: (g 74) :: (g 75) :: (g 76) :: (g 77) :: (g 78) :: (g 79) :: (g 80) :: (g 81) :: (g 82) :: (g 83) :: (g 84) :: (g 85) :: (g 86) :: (g 87) :: (g 88) :: (g 89) :: (g 90) :: (g 91) :: (g 92) :: (g 93) :: (g 94) :: []))), (h1, .inl (cA, 1000, .inl f_19))] := hD
  refine lv_iinc (v := (-8)) (lv' := [(2, .int (-8)), (0, .ref h0), (1, .int p0)]) hx hb dX11_puts_30 hl (k := 0) rfl (by decide) (by decide) rfl (fun ls hl => ?_)
  refine lv_goto (tgt := 3) hx hb dX11_puts_33 (by decide) ?_
  refine lv_iload_n hx hb dX11_puts_3 rfl (lv_at hl 0 rfl) ?_
  refine lv_if_lt (tgt := 36) hx hb dX11_puts_4 (by decide) (fun _ => ?_) (fun h => absurd (by decide) h)
  have hP9 := hP.sub (ws' := [(h0, .inr (11, ((g 0) :: .ref h1 :: .int 4 :: (g 3) :: (g 4) :: (g 5) :: (g 6) :: (g 7) :: (g 8) :: (g 9) :: (g 10) :: (g 11) :: (g 12) :: (g 13) :: (g 14) :: (g 15) :: (g 16) :: (g 17) :: (g 18) :: (g 19) :: (g 20) :: (g 21) :: (g 22) :: (g 23) :: (g 24) :: (g 25) :: (g 26) :: (g 27) :: (g 28) :: (g 29) :: (g 30) :: (g 31) :: (g 32) :: (g 33) :: (g 34) :: (g 35) :: (g 36) :: (g 37) :: (g 38) :: (g 39) :: (g 40) :: (g 41) :: (g 42) :: (g 43) :: (g 44) :: (g 45) :: (g 46) :: (g 47) :: (g 48) :: (g 49) :: (g 50) :: (g 51) :: (g 52) :: (g 53) :: (g 54) :: (g 55) :: (g 56) :: (g 57) :: (g 58) :: (g 59) :: (g 60) :: (g 61) :: (g 62) :: (g 63) :: (g 64) :: (g 65) :: (g 66) :: (g 67) :: (g 68) :: (g 69) :: (g 70) :: (g 71) :: (g 72) :: (g 73) :: (g 74) :: (g 75) :: (g 76) :: (g 77) :: (g 78) :: (g 79) :: (g 80) :: (g 81) :: (g 82) :: (g 83) :: (g 84) :: (g 85) :: (g 86) :: (g 87) :: (g 88) :: (g 89) :: (g 90) :: (g 91) :: (g 92) :: (g 93) :: (g 94) :: []))), (h1, .inl (cA, 1000, .inl f_19))]) [0, 1] rfl
  have hD9 := hD.sub (ws' := [(h0, .inr (11, ((g 0) :: .ref h1 :: .int 4 :: (g 3) :: (g 4) :: (g 5) :: (g 6) :: (g 7) :: (g 8) :: (g 9) :: (g 10) :: (g 11) :: (g 12) :: (g 13) :: (g 14) :: (g 15) :: (g 16) :: (g 17) :: (g 18) :: (g 19) :: (g 20) :: (g 21) :: (g 22) :: (g 23) :: (g 24) :: (g 25) :: (g 26) :: (g 27) :: (g 28) :: (g 29) :: (g 30) :: (g 31) :: (g 32) :: (g 33) :: (g 34) :: (g 35) :: (g 36) :: (g 37) :: (g 38) :: (g 39) :: (g 40) :: (g 41) :: (g 42) :: (g 43) :: (g 44) :: (g 45) :: (g 46) :: (g 47) :: (g 48) :: (g 49) :: (g 50) :: (g 51) :: (g 52) :: (g 53) :: (g 54) :: (g 55) :: (g 56) :: (g 57) :: (g 58) :: (g 59) :: (g 60) :: (g 61) :: (g 62) :: (g 63) :: (g 64) :: (g 65) :: (g 66) :: (g 67) :: (g 68) :: (g 69) :: (g 70) :: (g 71) :: (g 72) :: (g 73) :: (g 74) :: (g 75) :: (g 76) :: (g 77) :: (g 78) :: (g 79) :: (g 80) :: (g 81) :: (g 82) :: (g 83) :: (g 84) :: (g 85) :: (g 86) :: (g 87) :: (g 88) :: (g 89) :: (g 90) :: (g 91) :: (g 92) :: (g 93) :: (g 94) :: []))), (h1, .inl (cA, 1000, .inl f_19))]) [0, 1] (by decide) rfl
  have hK9 := hK.sub (tys' := [(cA, .byte)]) [0] rfl
  refine W.widen (k := 0) (n := 0) (Nat.le_of_ble_eq_true rfl) (Nat.le_of_ble_eq_true rfl) ?_
  exact W.vret hx hb hr (fun t ht hW => ⟨⟨(), rfl, trivial, f_19, by rw [ht]; exact hP9, va_K.moved hW.alike hK9, hD9⟩, hS.F ht⟩) hS.2.2 dX11_puts_36

set_option maxRecDepth 100000 in
set_option maxHeartbeats 4000000 in
theorem c_puts4 (l : Launch) (dC : Nat → ClassId) (dI : Nat → Nat → Nat) (h0 : Nat) (h1 : Nat) (cA : ClassId) (f : Nat → Int32) (g : Nat → Value) (p0 : Int32) (sz : Nat) : Met l yX11_puts (.code yX11_puts cX11_puts 3 none :: pw) ({ frames := 0, cells := 0, slots := 0, locals := 0 }) (va_Pc [.ref h0, .int p0] (vPre dC dI [(h0, .inr (11, ((g 0) :: .ref h1 :: .int 4 :: (g 3) :: (g 4) :: (g 5) :: (g 6) :: (g 7) :: (g 8) :: (g 9) :: (g 10) :: (g 11) :: (g 12) :: (g 13) :: (g 14) :: (g 15) :: (g 16) :: (g 17) :: (g 18) :: (g 19) :: (g 20) :: (g 21) :: (g 22) :: (g 23) :: (g 24) :: (g 25) :: (g 26) :: (g 27) :: (g 28) :: (g 29) :: (g 30) :: (g 31) :: (g 32) :: (g 33) :: (g 34) :: (g 35) :: (g 36) :: (g 37) :: (g 38) :: (g 39) :: (g 40) :: (g 41) :: (g 42) :: (g 43) :: (g 44) :: (g 45) :: (g 46) :: (g 47) :: (g 48) :: (g 49) :: (g 50) :: (g 51) :: (g 52) :: (g 53) :: (g 54) :: (g 55) :: (g 56) :: (g 57) :: (g 58) :: (g 59) :: (g 60) :: (g 61) :: (g 62) :: (g 63) :: (g 64) :: (g 65) :: (g 66) :: (g 67) :: (g 68) :: (g 69) :: (g 70) :: (g 71) :: (g 72) :: (g 73) :: (g 74) :: (g 75) :: (g 76) :: (g 77) :: (g 78) :: (g 79) :: (g 80) :: (g 81) :: (g 82) :: (g 83) :: (g 84) :: (g 85) :: (g 86) :: (g 87) :: (g 88) :: (g 89) :: (g 90) :: (g 91) :: (g 92) :: (g 93) :: (g 94) :: []))), (h1, .inl (cA, 1000, .inl f))] [(cA, .byte)] sz)) (va_Qv (fun (_ : Unit) => True) (fun (_ : Unit) t => ∃ (f9 : Nat → Int32), vPst dC dI (va_A [(h0, .inr (11, ((g 0) :: .ref h1 :: .int 4 :: (g 3) :: (g 4) :: (g 5) :: (g 6) :: (g 7) :: (g 8) :: (g 9) :: (g 10) :: (g 11) :: (g 12) :: (g 13) :: (g 14) :: (g 15) :: (g 16) :: (g 17) :: (g 18) :: (g 19) :: (g 20) :: (g 21) :: (g 22) :: (g 23) :: (g 24) :: (g 25) :: (g 26) :: (g 27) :: (g 28) :: (g 29) :: (g 30) :: (g 31) :: (g 32) :: (g 33) :: (g 34) :: (g 35) :: (g 36) :: (g 37) :: (g 38) :: (g 39) :: (g 40) :: (g 41) :: (g 42) :: (g 43) :: (g 44) :: (g 45) :: (g 46) :: (g 47) :: (g 48) :: (g 49) :: (g 50) :: (g 51) :: (g 52) :: (g 53) :: (g 54) :: (g 55) :: (g 56) :: (g 57) :: (g 58) :: (g 59) :: (g 60) :: (g 61) :: (g 62) :: (g 63) :: (g 64) :: (g 65) :: (g 66) :: (g 67) :: (g 68) :: (g 69) :: (g 70) :: (g 71) :: (g 72) :: (g 73) :: (g 74) :: (g 75) :: (g 76) :: (g 77) :: (g 78) :: (g 79) :: (g 80) :: (g 81) :: (g 82) :: (g 83) :: (g 84) :: (g 85) :: (g 86) :: (g 87) :: (g 88) :: (g 89) :: (g 90) :: (g 91) :: (g 92) :: (g 93) :: (g 94) :: []))), (h1, .inl (cA, 1000, .inl f))] sz) [(h0, .inr (11, ((g 0) :: .ref h1 :: .int 8 :: (g 3) :: (g 4) :: (g 5) :: (g 6) :: (g 7) :: (g 8) :: (g 9) :: (g 10) :: (g 11) :: (g 12) :: (g 13) :: (g 14) :: (g 15) :: (g 16) :: (g 17) :: (g 18) :: (g 19) :: (g 20) :: (g 21) :: (g 22) :: (g 23) :: (g 24) :: (g 25) :: (g 26) :: (g 27) :: (g 28) :: (g 29) :: (g 30) :: (g 31) :: (g 32) :: (g 33) :: (g 34) :: (g 35) :: (g 36) :: (g 37) :: (g 38) :: (g 39) :: (g 40) :: (g 41) :: (g 42) :: (g 43) :: (g 44) :: (g 45) :: (g 46) :: (g 47) :: (g 48) :: (g 49) :: (g 50) :: (g 51) :: (g 52) :: (g 53) :: (g 54) :: (g 55) :: (g 56) :: (g 57) :: (g 58) :: (g 59) :: (g 60) :: (g 61) :: (g 62) :: (g 63) :: (g 64) :: (g 65) :: (g 66) :: (g 67) :: (g 68) :: (g 69) :: (g 70) :: (g 71) :: (g 72) :: (g 73) :: (g 74) :: (g 75) :: (g 76) :: (g 77) :: (g 78) :: (g 79) :: (g 80) :: (g 81) :: (g 82) :: (g 83) :: (g 84) :: (g 85) :: (g 86) :: (g 87) :: (g 88) :: (g 89) :: (g 90) :: (g 91) :: (g 92) :: (g 93) :: (g 94) :: []))), (h1, .inl (cA, 1000, .inl f9))] [(cA, .byte)] t) (va_A [(h0, .inr (11, ((g 0) :: .ref h1 :: .int 4 :: (g 3) :: (g 4) :: (g 5) :: (g 6) :: (g 7) :: (g 8) :: (g 9) :: (g 10) :: (g 11) :: (g 12) :: (g 13) :: (g 14) :: (g 15) :: (g 16) :: (g 17) :: (g 18) :: (g 19) :: (g 20) :: (g 21) :: (g 22) :: (g 23) :: (g 24) :: (g 25) :: (g 26) :: (g 27) :: (g 28) :: (g 29) :: (g 30) :: (g 31) :: (g 32) :: (g 33) :: (g 34) :: (g 35) :: (g 36) :: (g 37) :: (g 38) :: (g 39) :: (g 40) :: (g 41) :: (g 42) :: (g 43) :: (g 44) :: (g 45) :: (g 46) :: (g 47) :: (g 48) :: (g 49) :: (g 50) :: (g 51) :: (g 52) :: (g 53) :: (g 54) :: (g 55) :: (g 56) :: (g 57) :: (g 58) :: (g 59) :: (g 60) :: (g 61) :: (g 62) :: (g 63) :: (g 64) :: (g 65) :: (g 66) :: (g 67) :: (g 68) :: (g 69) :: (g 70) :: (g 71) :: (g 72) :: (g 73) :: (g 74) :: (g 75) :: (g 76) :: (g 77) :: (g 78) :: (g 79) :: (g 80) :: (g 81) :: (g 82) :: (g 83) :: (g 84) :: (g 85) :: (g 86) :: (g 87) :: (g 88) :: (g 89) :: (g 90) :: (g 91) :: (g 92) :: (g 93) :: (g 94) :: []))), (h1, .inl (cA, 1000, .inl f))] sz)) 0 0 (va_A [(h0, .inr (11, ((g 0) :: .ref h1 :: .int 4 :: (g 3) :: (g 4) :: (g 5) :: (g 6) :: (g 7) :: (g 8) :: (g 9) :: (g 10) :: (g 11) :: (g 12) :: (g 13) :: (g 14) :: (g 15) :: (g 16) :: (g 17) :: (g 18) :: (g 19) :: (g 20) :: (g 21) :: (g 22) :: (g 23) :: (g 24) :: (g 25) :: (g 26) :: (g 27) :: (g 28) :: (g 29) :: (g 30) :: (g 31) :: (g 32) :: (g 33) :: (g 34) :: (g 35) :: (g 36) :: (g 37) :: (g 38) :: (g 39) :: (g 40) :: (g 41) :: (g 42) :: (g 43) :: (g 44) :: (g 45) :: (g 46) :: (g 47) :: (g 48) :: (g 49) :: (g 50) :: (g 51) :: (g 52) :: (g 53) :: (g 54) :: (g 55) :: (g 56) :: (g 57) :: (g 58) :: (g 59) :: (g 60) :: (g 61) :: (g 62) :: (g 63) :: (g 64) :: (g 65) :: (g 66) :: (g 67) :: (g 68) :: (g 69) :: (g 70) :: (g 71) :: (g 72) :: (g 73) :: (g 74) :: (g 75) :: (g 76) :: (g 77) :: (g 78) :: (g 79) :: (g 80) :: (g 81) :: (g 82) :: (g 83) :: (g 84) :: (g 85) :: (g 86) :: (g 87) :: (g 88) :: (g 89) :: (g 90) :: (g 91) :: (g 92) :: (g 93) :: (g 94) :: []))), (h1, .inl (cA, 1000, .inl f))] sz) := by
  refine Met.ofW (cc := cX11_puts) (maxL := 3) (ret := none) (by decide) rfl ?_
  intro p e s m args below meth c s₁ B hml hv
  obtain ⟨rfl, hsz, hP, hK, hD0⟩ := hv
  have hx := B.exec
  have hb := B.bytes
  have hr := B.returns
  have hts := atoms_spec (ws := .code yX11_puts cX11_puts 3 none :: pw) B.pre
  have hts : ∀ w ∈ pw, w.before _ s = true := fun w h => hts w (List.mem_cons_of_mem _ h)
  have hown : s.vm.findClass RX11 = some m.cls := findClass_of_methodNamed B.named
  have hlocks := B.notSynchronized
  subst hsz
  have hD := hD0.self (sz := s.heap.size)
  generalize hAe : va_A [(h0, .inr (11, ((g 0) :: .ref h1 :: .int 4 :: (g 3) :: (g 4) :: (g 5) :: (g 6) :: (g 7) :: (g 8) :: (g 9) :: (g 10) :: (g 11) :: (g 12) :: (g 13) :: (g 14) :: (g 15) :: (g 16) :: (g 17) :: (g 18) :: (g 19) :: (g 20) :: (g 21) :: (g 22) :: (g 23) :: (g 24) :: (g 25) :: (g 26) :: (g 27) :: (g 28) :: (g 29) :: (g 30) :: (g 31) :: (g 32) :: (g 33) :: (g 34) :: (g 35) :: (g 36) :: (g 37) :: (g 38) :: (g 39) :: (g 40) :: (g 41) :: (g 42) :: (g 43) :: (g 44) :: (g 45) :: (g 46) :: (g 47) :: (g 48) :: (g 49) :: (g 50) :: (g 51) :: (g 52) :: (g 53) :: (g 54) :: (g 55) :: (g 56) :: (g 57) :: (g 58) :: (g 59) :: (g 60) :: (g 61) :: (g 62) :: (g 63) :: (g 64) :: (g 65) :: (g 66) :: (g 67) :: (g 68) :: (g 69) :: (g 70) :: (g 71) :: (g 72) :: (g 73) :: (g 74) :: (g 75) :: (g 76) :: (g 77) :: (g 78) :: (g 79) :: (g 80) :: (g 81) :: (g 82) :: (g 83) :: (g 84) :: (g 85) :: (g 86) :: (g 87) :: (g 88) :: (g 89) :: (g 90) :: (g 91) :: (g 92) :: (g 93) :: (g 94) :: []))), (h1, .inl (cA, 1000, .inl f))] s.heap.size = A at hD ⊢
  have hA : ∀ q : Nat, s.heap.size ≤ q → A q := fun q h => by rw [← hAe]; exact Or.inr h
  have hS : va_S A s.heap s.heap [] := va_S.rf
  have hP : va_P (dC, dI) vwCl [(h0, .inr (11, ((g 0) :: .ref h1 :: .int 4 :: (g 3) :: (g 4) :: (g 5) :: (g 6) :: (g 7) :: (g 8) :: (g 9) :: (g 10) :: (g 11) :: (g 12) :: (g 13) :: (g 14) :: (g 15) :: (g 16) :: (g 17) :: (g 18) :: (g 19) :: (g 20) :: (g 21) :: (g 22) :: (g 23) :: (g 24) :: (g 25) :: (g 26) :: (g 27) :: (g 28) :: (g 29) :: (g 30) :: (g 31) :: (g 32) :: (g 33) :: (g 34) :: (g 35) :: (g 36) :: (g 37) :: (g 38) :: (g 39) :: (g 40) :: (g 41) :: (g 42) :: (g 43) :: (g 44) :: (g 45) :: (g 46) :: (g 47) :: (g 48) :: (g 49) :: (g 50) :: (g 51) :: (g 52) :: (g 53) :: (g 54) :: (g 55) :: (g 56) :: (g 57) :: (g 58) :: (g 59) :: (g 60) :: (g 61) :: (g 62) :: (g 63) :: (g 64) :: (g 65) :: (g 66) :: (g 67) :: (g 68) :: (g 69) :: (g 70) :: (g 71) :: (g 72) :: (g 73) :: (g 74) :: (g 75) :: (g 76) :: (g 77) :: (g 78) :: (g 79) :: (g 80) :: (g 81) :: (g 82) :: (g 83) :: (g 84) :: (g 85) :: (g 86) :: (g 87) :: (g 88) :: (g 89) :: (g 90) :: (g 91) :: (g 92) :: (g 93) :: (g 94) :: []))), (h1, .inl (cA, 1000, .inl f))] s.heap := hP
  have hl := lv_entry ([.ref h0, .int p0]) (n := 3) (Nat.le_of_ble_eq_true rfl)
  rw [lg_entry_eq]
  generalize (lg_sl ([.ref h0, .int p0]) ++ List.replicate (3 - (lg_sl ([.ref h0, .int p0])).length) Slot.unset).toArray = ls at hl ⊢
  have hl : lv_has ls 3 [(0, .ref h0), (1, .int p0)] := hl
  refine lv_bipush (v := 24) hx hb dX11_puts_0 (by decide) ?_
  refine lv_istore_n (lv' := [(2, .int 24), (0, .ref h0), (1, .int p0)]) hx hb dX11_puts_2 rfl hl (by decide) rfl (fun ls hl => ?_)
  refine lv_iload_n hx hb dX11_puts_3 rfl (lv_at hl 0 rfl) ?_
  refine lv_if_lt (tgt := 36) hx hb dX11_puts_4 (by decide) (fun h => absurd h (by decide)) (fun _ => ?_)
  refine lv_aload_n hx hb dX11_puts_7 rfl (lv_at hl 1 rfl) ?_
  refine va_get (D := (dC, dI)) (ci := 11) (v := .ref h1) (C := RX11) (T := TX11) (N := 95) hx hb hts inlX11 hown hK hP 0 rfl rfl 1 (by decide) (hts (.fieldLink RX11 7 "ShapeReaderModel" "tape" "[B") mw_8_27) (fun _ h9 => h9) rfl dX11_puts_8 ?_
  refine lv_aload_n hx hb dX11_puts_11 rfl (lv_at hl 1 rfl) ?_
  refine va_get (D := (dC, dI)) (ci := 11) (v := .int 4) (C := RX11) (T := TX11) (N := 95) hx hb hts inlX11 hown hK hP 0 rfl rfl 2 (by decide) (hts (.fieldLink RX11 182 "ShapeReaderModel" "taped" "I") mw_10_23) (fun _ h9 => h9) rfl dX11_puts_12 ?_
  refine lv_iload_n hx hb dX11_puts_15 rfl (lv_at hl 2 rfl) ?_
  refine lv_iload_n hx hb dX11_puts_16 rfl (lv_at hl 0 rfl) ?_
  refine lv_ishr hx hb dX11_puts_17 ?_
  refine lv_topi (fun x_2 ex_2 => ?_)
  refine lv_i2b (v := x_2.toInt8.toInt32) hx hb dX11_puts_18 rfl ?_
  generalize x_2.toInt8.toInt32 = x_3
  refine va_bast hx hb hK hP hD hS 1 0 rfl rfl (vp_in_iff.mpr (by decide)) dX11_puts_19 (fun H locs hP hD hS => ?_)
  obtain ⟨f_4, hP, hD⟩ : ∃ f_4 : Nat → Int32, va_P (dC, dI) vwCl [(h0, .inr (11, ((g 0) :: .ref h1 :: .int 4 :: (g 3) :: (g 4) :: (g 5) :: (g 6) :: (g 7) :: (g 8) :: (g 9) :: (g 10) :: (g 11) :: (g 12) :: (g 13) :: (g 14) :: (g 15) :: (g 16) :: (g 17) :: (g 18) :: (g 19) :: (g 20) :: (g 21) :: (g 22) :: (g 23) :: (g 24) :: (g 25) :: (g 26) :: (g 27) :: (g 28) :: (g 29) :: (g 30) :: (g 31) :: (g 32) :: (g 33) :: (g 34) :: (g 35) :: (g 36) :: (g 37) :: (g 38) :: (g 39) :: (g 40) :: (g 41) :: (g 42) :: (g 43) :: (g 44) :: (g 45) :: (g 46) :: (g 47) :: (g 48) :: (g 49) :: (g 50) :: (g 51) :: (g 52) :: (g 53) :: (g 54) :: (g 55) :: (g 56) :: (g 57) :: (g 58) :: (g 59) :: (g 60) :: (g 61) :: (g 62) :: (g 63) :: (g 64) :: (g 65) :: (g 66) :: (g 67) :: (g 68) :: (g 69) :: (g 70) :: (g 71) :: (g 72) :: (g 73) :: (g 74) :: (g 75) :: (g 76) :: (g 77) :: (g 78) :: (g 79) :: (g 80) :: (g 81) :: (g 82) :: (g 83) :: (g 84) :: (g 85) :: (g 86) :: (g 87) :: (g 88) :: (g 89) :: (g 90) :: (g 91) :: (g 92) :: (g 93) :: (g 94) :: []))), (h1, .inl (cA, 1000, .inl f_4))] H ∧ va_D A [(h0, .inr (11, ((g 0) :: .ref h1 :: .int 4 :: (g 3) :: (g 4) :: (g 5) :: (g 6) :: (g 7) :: (g 8) :: (g 9) :: (g 10) :: (g 11) :: (g 12) :: (g 13) :: (g 14) :: (g 15) :: (g 16) :: (g 17) :: (g 18) :: (g 19) :: (g 20) :: (g 21) :: (g 22) :: (g 23) :: (g 24) :: (g 25) :: (g 26) :: (g 27) :: (g 28) :: (g 29) :: (g 30) :: (g 31) :: (g 32) :: (g 33) :: (g 34) :: (g 35) :: (g 36) :: (g 37) :: (g 38) :: (g 39) :: (g 40) :: (g 41) :: (g 42) :: (g 43) :: (g 44) :: (g 45) :: (g 46) :: (g 47) :: (g 48) :: (g 49) :: (g 50) :: (g 51) :: (g 52) :: (g 53) :: (g 54) :: (g 55) :: (g 56) :: (g 57) :: (g 58) :: (g 59) :: (g 60) :: (g 61) :: (g 62) :: (g 63) :: (g 64) :: (g 65) :: (g 66) :: (g 67) :: (g 68) :: (g 69) :: (g 70) :: (g 71) :: (g 72) :: (g 73) :: (g 74) :: (g 75) :: (g 76) :: (g 77) :: (g 78) :: (g 79) :: (g 80) :: (g 81) :: (g 82) :: (g 83) :: (g 84) :: (g 85) :: (g 86) :: (g 87) :: (g 88) :: (g 89) :: (g 90) :: (g 91) :: (g 92) :: (g 93) :: (g 94) :: []))), (h1, .inl (cA, 1000, .inl f_4))] := ⟨_, hP, hD⟩
  refine lv_aload_n hx hb dX11_puts_20 rfl (lv_at hl 1 rfl) ?_
  refine lv_dup hx hb dX11_puts_21 rfl ?_
  refine va_get (D := (dC, dI)) (ci := 11) (v := .int 4) (C := RX11) (T := TX11) (N := 95) hx hb hts inlX11 hown hK hP 0 rfl rfl 2 (by decide) (hts (.fieldLink RX11 182 "ShapeReaderModel" "taped" "I") mw_10_23) (fun _ h9 => h9) rfl dX11_puts_22 ?_
  refine lv_iconst (v := 1) hx hb dX11_puts_25 (by decide) ?_
  refine lv_iadd hx hb dX11_puts_26 ?_
  refine lv_topi (fun k_5 ek_5 => ?_)
  obtain rfl : k_5 = 5 := ek_5.trans (by decide)
  refine va_put (D := (dC, dI)) (ci := 11) (v := .int 5) (ty := .int) (C := RX11) (T := TX11) (N := 95) hx hb hts inlX11 tyX11 tyX11_ok nmX11 hown hK hP hD hS 0 rfl rfl 2 (by decide) (hts (.fieldLink RX11 182 "ShapeReaderModel" "taped" "I") mw_10_23) (fun _ h9 => h9) rfl (by decide +kernel) rfl rfl (Nat.le_of_ble_eq_true rfl) dX11_puts_27 (fun H locs hP hD hS => ?_)
  have hP : va_P (dC, dI) vwCl [(h0, .inr (11, ((g 0) :: .ref h1 :: .int 5 :: (g 3) :: (g 4) :: (g 5) :: (g 6) :: (g 7) :: (g 8) :: (g 9) :: (g 10) :: (g 11) :: (g 12) :: (g 13) :: (g 14) :: (g 15) :: (g 16) :: (g 17) :: (g 18) :: (g 19) :: (g 20) :: (g 21) :: (g 22) :: (g 23) :: (g 24) :: (g 25) :: (g 26) :: (g 27) :: (g 28) :: (g 29) :: (g 30) :: (g 31) :: (g 32) :: (g 33) :: (g 34) :: (g 35) :: (g 36) :: (g 37) :: (g 38) :: (g 39) :: (g 40) :: (g 41) :: (g 42) :: (g 43) :: (g 44) :: (g 45) :: (g 46) :: (g 47) :: (g 48) :: (g 49) :: (g 50) :: (g 51) :: (g 52) :: (g 53) :: (g 54) :: (g 55) :: (g 56) :: (g 57) :: (g 58) :: (g 59) :: (g 60) :: (g 61) :: (g 62) :: (g 63) :: (g 64) :: (g 65) :: (g 66) :: (g 67) :: (g 68) :: (g 69) :: (g 70) :: (g 71) :: (g 72) :: (g 73) :: (g 74) :: (g 75) :: (g 76) :: (g 77) :: (g 78) :: (g 79) :: (g 80) :: (g 81) :: (g 82) :: (g 83) :: (g 84) :: (g 85) :: (g 86) :: (g 87) :: (g 88) :: (g 89) :: (g 90) :: (g 91) :: (g 92) :: (g 93) :: (g 94) :: []))), (h1, .inl (cA, 1000, .inl f_4))] H := hP
  have hD : va_D A [(h0, .inr (11, ((g 0) :: .ref h1 :: .int 5 :: (g 3) :: (g 4) :: (g 5) :: (g 6) :: (g 7) :: (g 8) :: (g 9) :: (g 10) :: (g 11) :: (g 12) :: (g 13) :: (g 14) :: (g 15) :: (g 16) :: (g 17) :: (g 18) :: (g 19) :: (g 20) :: (g 21) :: (g 22) :: (g 23) :: (g 24) :: (g 25) :: (g 26) :: (g 27) :: (g 28) :: (g 29) :: (g 30) :: (g 31) :: (g 32) :: (g 33) :: (g 34) :: (g 35) :: (g 36) :: (g 37) :: (g 38) :: (g 39) :: (g 40) :: (g 41) :: (g 42) :: (g 43) :: (g 44) :: (g 45) :: (g 46) :: (g 47) :: (g 48) :: (g 49) :: (g 50) :: (g 51) :: (g 52) :: (g 53) :: (g 54) :: (g 55) :: (g 56) :: (g 57) :: (g 58) :: (g 59) :: (g 60) :: (g 61) :: (g 62) :: (g 63) :: (g 64) :: (g 65) :: (g 66) :: (g 67) :: (g 68) :: (g 69) :: (g 70) :: (g 71) :: (g 72) :: (g 73) :: (g 74) :: (g 75) :: (g 76) :: (g 77) :: (g 78) :: (g 79) :: (g 80) :: (g 81) :: (g 82) :: (g 83) :: (g 84) :: (g 85) :: (g 86) :: (g 87) :: (g 88) :: (g 89) :: (g 90) :: (g 91) :: (g 92) :: (g 93) :: (g 94) :: []))), (h1, .inl (cA, 1000, .inl f_4))] := hD
  refine lv_iinc (v := 16) (lv' := [(2, .int 16), (0, .ref h0), (1, .int p0)]) hx hb dX11_puts_30 hl (k := 0) rfl (by decide) (by decide) rfl (fun ls hl => ?_)
  refine lv_goto (tgt := 3) hx hb dX11_puts_33 (by decide) ?_
  refine lv_iload_n hx hb dX11_puts_3 rfl (lv_at hl 0 rfl) ?_
  refine lv_if_lt (tgt := 36) hx hb dX11_puts_4 (by decide) (fun h => absurd h (by decide)) (fun _ => ?_)
  refine lv_aload_n hx hb dX11_puts_7 rfl (lv_at hl 1 rfl) ?_
  refine va_get (D := (dC, dI)) (ci := 11) (v := .ref h1) (C := RX11) (T := TX11) (N := 95) hx hb hts inlX11 hown hK hP 0 rfl rfl 1 (by decide) (hts (.fieldLink RX11 7 "ShapeReaderModel" "tape" "[B") mw_8_27) (fun _ h9 => h9) rfl dX11_puts_8 ?_
  refine lv_aload_n hx hb dX11_puts_11 rfl (lv_at hl 1 rfl) ?_
  refine va_get (D := (dC, dI)) (ci := 11) (v := .int 5) (C := RX11) (T := TX11) (N := 95) hx hb hts inlX11 hown hK hP 0 rfl rfl 2 (by decide) (hts (.fieldLink RX11 182 "ShapeReaderModel" "taped" "I") mw_10_23) (fun _ h9 => h9) rfl dX11_puts_12 ?_
  refine lv_iload_n hx hb dX11_puts_15 rfl (lv_at hl 2 rfl) ?_
  refine lv_iload_n hx hb dX11_puts_16 rfl (lv_at hl 0 rfl) ?_
  refine lv_ishr hx hb dX11_puts_17 ?_
  refine lv_topi (fun x_7 ex_7 => ?_)
  refine lv_i2b (v := x_7.toInt8.toInt32) hx hb dX11_puts_18 rfl ?_
  generalize x_7.toInt8.toInt32 = x_8
  refine va_bast hx hb hK hP hD hS 1 0 rfl rfl (vp_in_iff.mpr (by decide)) dX11_puts_19 (fun H locs hP hD hS => ?_)
  obtain ⟨f_9, hP, hD⟩ : ∃ f_9 : Nat → Int32, va_P (dC, dI) vwCl [(h0, .inr (11, ((g 0) :: .ref h1 :: .int 5 :: (g 3) :: (g 4) :: (g 5) :: (g 6) :: (g 7) :: (g 8) :: (g 9) :: (g 10) :: (g 11) :: (g 12) :: (g 13) :: (g 14) :: (g 15) :: (g 16) :: (g 17) :: (g 18) :: (g 19) :: (g 20) :: (g 21) :: (g 22) :: (g 23) :: (g 24) :: (g 25) :: (g 26) :: (g 27) :: (g 28) :: (g 29) :: (g 30) :: (g 31) :: (g 32) :: (g 33) :: (g 34) :: (g 35) :: (g 36) :: (g 37) :: (g 38) :: (g 39) :: (g 40) :: (g 41) :: (g 42) :: (g 43) :: (g 44) :: (g 45) :: (g 46) :: (g 47) :: (g 48) :: (g 49) :: (g 50) :: (g 51) :: (g 52) :: (g 53) :: (g 54) :: (g 55) :: (g 56) :: (g 57) :: (g 58) :: (g 59) :: (g 60) :: (g 61) :: (g 62) :: (g 63) :: (g 64) :: (g 65) :: (g 66) :: (g 67) :: (g 68) :: (g 69) :: (g 70) :: (g 71) :: (g 72) :: (g 73) :: (g 74) :: (g 75) :: (g 76) :: (g 77) :: (g 78) :: (g 79) :: (g 80) :: (g 81) :: (g 82) :: (g 83) :: (g 84) :: (g 85) :: (g 86) :: (g 87) :: (g 88) :: (g 89) :: (g 90) :: (g 91) :: (g 92) :: (g 93) :: (g 94) :: []))), (h1, .inl (cA, 1000, .inl f_9))] H ∧ va_D A [(h0, .inr (11, ((g 0) :: .ref h1 :: .int 5 :: (g 3) :: (g 4) :: (g 5) :: (g 6) :: (g 7) :: (g 8) :: (g 9) :: (g 10) :: (g 11) :: (g 12) :: (g 13) :: (g 14) :: (g 15) :: (g 16) :: (g 17) :: (g 18) :: (g 19) :: (g 20) :: (g 21) :: (g 22) :: (g 23) :: (g 24) :: (g 25) :: (g 26) :: (g 27) :: (g 28) :: (g 29) :: (g 30) :: (g 31) :: (g 32) :: (g 33) :: (g 34) :: (g 35) :: (g 36) :: (g 37) :: (g 38) :: (g 39) :: (g 40) :: (g 41) :: (g 42) :: (g 43) :: (g 44) :: (g 45) :: (g 46) :: (g 47) :: (g 48) :: (g 49) :: (g 50) :: (g 51) :: (g 52) :: (g 53) :: (g 54) :: (g 55) :: (g 56) :: (g 57) :: (g 58) :: (g 59) :: (g 60) :: (g 61) :: (g 62) :: (g 63) :: (g 64) :: (g 65) :: (g 66) :: (g 67) :: (g 68) :: (g 69) :: (g 70) :: (g 71) :: (g 72) :: (g 73) :: (g 74) :: (g 75) :: (g 76) :: (g 77) :: (g 78) :: (g 79) :: (g 80) :: (g 81) :: (g 82) :: (g 83) :: (g 84) :: (g 85) :: (g 86) :: (g 87) :: (g 88) :: (g 89) :: (g 90) :: (g 91) :: (g 92) :: (g 93) :: (g 94) :: []))), (h1, .inl (cA, 1000, .inl f_9))] := ⟨_, hP, hD⟩
  refine lv_aload_n hx hb dX11_puts_20 rfl (lv_at hl 1 rfl) ?_
  refine lv_dup hx hb dX11_puts_21 rfl ?_
  refine va_get (D := (dC, dI)) (ci := 11) (v := .int 5) (C := RX11) (T := TX11) (N := 95) hx hb hts inlX11 hown hK hP 0 rfl rfl 2 (by decide) (hts (.fieldLink RX11 182 "ShapeReaderModel" "taped" "I") mw_10_23) (fun _ h9 => h9) rfl dX11_puts_22 ?_
  refine lv_iconst (v := 1) hx hb dX11_puts_25 (by decide) ?_
  refine lv_iadd hx hb dX11_puts_26 ?_
  refine lv_topi (fun k_10 ek_10 => ?_)
  obtain rfl : k_10 = 6 := ek_10.trans (by decide)
  refine va_put (D := (dC, dI)) (ci := 11) (v := .int 6) (ty := .int) (C := RX11) (T := TX11) (N := 95) hx hb hts inlX11 tyX11 tyX11_ok nmX11 hown hK hP hD hS 0 rfl rfl 2 (by decide) (hts (.fieldLink RX11 182 "ShapeReaderModel" "taped" "I") mw_10_23) (fun _ h9 => h9) rfl (by decide +kernel) rfl rfl (Nat.le_of_ble_eq_true rfl) dX11_puts_27 (fun H locs hP hD hS => ?_)
  have hP : va_P (dC, dI) vwCl [(h0, .inr (11, ((g 0) :: .ref h1 :: .int 6 :: (g 3) :: (g 4) :: (g 5) :: (g 6) :: (g 7) :: (g 8) :: (g 9) :: (g 10) :: (g 11) :: (g 12) :: (g 13) :: (g 14) :: (g 15) :: (g 16) :: (g 17) :: (g 18) :: (g 19) :: (g 20) :: (g 21) :: (g 22) :: (g 23) :: (g 24) :: (g 25) :: (g 26) :: (g 27) :: (g 28) :: (g 29) :: (g 30) :: (g 31) :: (g 32) :: (g 33) :: (g 34) :: (g 35) :: (g 36) :: (g 37) :: (g 38) :: (g 39) :: (g 40) :: (g 41) :: (g 42) :: (g 43) :: (g 44) :: (g 45) :: (g 46) :: (g 47) :: (g 48) :: (g 49) :: (g 50) :: (g 51) :: (g 52) :: (g 53) :: (g 54) :: (g 55) :: (g 56) :: (g 57) :: (g 58) :: (g 59) :: (g 60) :: (g 61) :: (g 62) :: (g 63) :: (g 64) :: (g 65) :: (g 66) :: (g 67) :: (g 68) :: (g 69) :: (g 70) :: (g 71) :: (g 72) :: (g 73) :: (g 74) :: (g 75) :: (g 76) :: (g 77) :: (g 78) :: (g 79) :: (g 80) :: (g 81) :: (g 82) :: (g 83) :: (g 84) :: (g 85) :: (g 86) :: (g 87) :: (g 88) :: (g 89) :: (g 90) :: (g 91) :: (g 92) :: (g 93) :: (g 94) :: []))), (h1, .inl (cA, 1000, .inl f_9))] H := hP
  have hD : va_D A [(h0, .inr (11, ((g 0) :: .ref h1 :: .int 6 :: (g 3) :: (g 4) :: (g 5) :: (g 6) :: (g 7) :: (g 8) :: (g 9) :: (g 10) :: (g 11) :: (g 12) :: (g 13) :: (g 14) :: (g 15) :: (g 16) :: (g 17) :: (g 18) :: (g 19) :: (g 20) :: (g 21) :: (g 22) :: (g 23) :: (g 24) :: (g 25) :: (g 26) :: (g 27) :: (g 28) :: (g 29) :: (g 30) :: (g 31) :: (g 32) :: (g 33) :: (g 34) :: (g 35) :: (g 36) :: (g 37) :: (g 38) :: (g 39) :: (g 40) :: (g 41) :: (g 42) :: (g 43) :: (g 44) :: (g 45) :: (g 46) :: (g 47) :: (g 48) :: (g 49) :: (g 50) :: (g 51) :: (g 52) :: (g 53) :: (g 54) :: (g 55) :: (g 56) :: (g 57) :: (g 58) :: (g 59) :: (g 60) :: (g 61) :: (g 62) :: (g 63) :: (g 64) :: (g 65) :: (g 66) :: (g 67) :: (g 68) :: (g 69) :: (g 70) :: (g 71) :: (g 72) :: (g 73) :: (g 74) :: (g 75) :: (g 76) :: (g 77) :: (g 78) :: (g 79) :: (g 80) :: (g 81) :: (g 82) :: (g 83) :: (g 84) :: (g 85) :: (g 86) :: (g 87) :: (g 88) :: (g 89) :: (g 90) :: (g 91) :: (g 92) :: (g 93) :: (g 94) :: []))), (h1, .inl (cA, 1000, .inl f_9))] := hD
  refine lv_iinc (v := 8) (lv' := [(2, .int 8), (0, .ref h0), (1, .int p0)]) hx hb dX11_puts_30 hl (k := 0) rfl (by decide) (by decide) rfl (fun ls hl => ?_)
  refine lv_goto (tgt := 3) hx hb dX11_puts_33 (by decide) ?_
  refine lv_iload_n hx hb dX11_puts_3 rfl (lv_at hl 0 rfl) ?_
  refine lv_if_lt (tgt := 36) hx hb dX11_puts_4 (by decide) (fun h => absurd h (by decide)) (fun _ => ?_)
  refine lv_aload_n hx hb dX11_puts_7 rfl (lv_at hl 1 rfl) ?_
  refine va_get (D := (dC, dI)) (ci := 11) (v := .ref h1) (C := RX11) (T := TX11) (N := 95) hx hb hts inlX11 hown hK hP 0 rfl rfl 1 (by decide) (hts (.fieldLink RX11 7 "ShapeReaderModel" "tape" "[B") mw_8_27) (fun _ h9 => h9) rfl dX11_puts_8 ?_
  refine lv_aload_n hx hb dX11_puts_11 rfl (lv_at hl 1 rfl) ?_
  refine va_get (D := (dC, dI)) (ci := 11) (v := .int 6) (C := RX11) (T := TX11) (N := 95) hx hb hts inlX11 hown hK hP 0 rfl rfl 2 (by decide) (hts (.fieldLink RX11 182 "ShapeReaderModel" "taped" "I") mw_10_23) (fun _ h9 => h9) rfl dX11_puts_12 ?_
  refine lv_iload_n hx hb dX11_puts_15 rfl (lv_at hl 2 rfl) ?_
  refine lv_iload_n hx hb dX11_puts_16 rfl (lv_at hl 0 rfl) ?_
  refine lv_ishr hx hb dX11_puts_17 ?_
  refine lv_topi (fun x_12 ex_12 => ?_)
  refine lv_i2b (v := x_12.toInt8.toInt32) hx hb dX11_puts_18 rfl ?_
  generalize x_12.toInt8.toInt32 = x_13
  refine va_bast hx hb hK hP hD hS 1 0 rfl rfl (vp_in_iff.mpr (by decide)) dX11_puts_19 (fun H locs hP hD hS => ?_)
  obtain ⟨f_14, hP, hD⟩ : ∃ f_14 : Nat → Int32, va_P (dC, dI) vwCl [(h0, .inr (11, ((g 0) :: .ref h1 :: .int 6 :: (g 3) :: (g 4) :: (g 5) :: (g 6) :: (g 7) :: (g 8) :: (g 9) :: (g 10) :: (g 11) :: (g 12) :: (g 13) :: (g 14) :: (g 15) :: (g 16) :: (g 17) :: (g 18) :: (g 19) :: (g 20) :: (g 21) :: (g 22) :: (g 23) :: (g 24) :: (g 25) :: (g 26) :: (g 27) :: (g 28) :: (g 29) :: (g 30) :: (g 31) :: (g 32) :: (g 33) :: (g 34) :: (g 35) :: (g 36) :: (g 37) :: (g 38) :: (g 39) :: (g 40) :: (g 41) :: (g 42) :: (g 43) :: (g 44) :: (g 45) :: (g 46) :: (g 47) :: (g 48) :: (g 49) :: (g 50) :: (g 51) :: (g 52) :: (g 53) :: (g 54) :: (g 55) :: (g 56) :: (g 57) :: (g 58) :: (g 59) :: (g 60) :: (g 61) :: (g 62) :: (g 63) :: (g 64) :: (g 65) :: (g 66) :: (g 67) :: (g 68) :: (g 69) :: (g 70) :: (g 71) :: (g 72) :: (g 73) :: (g 74) :: (g 75) :: (g 76) :: (g 77) :: (g 78) :: (g 79) :: (g 80) :: (g 81) :: (g 82) :: (g 83) :: (g 84) :: (g 85) :: (g 86) :: (g 87) :: (g 88) :: (g 89) :: (g 90) :: (g 91) :: (g 92) :: (g 93) :: (g 94) :: []))), (h1, .inl (cA, 1000, .inl f_14))] H ∧ va_D A [(h0, .inr (11, ((g 0) :: .ref h1 :: .int 6 :: (g 3) :: (g 4) :: (g 5) :: (g 6) :: (g 7) :: (g 8) :: (g 9) :: (g 10) :: (g 11) :: (g 12) :: (g 13) :: (g 14) :: (g 15) :: (g 16) :: (g 17) :: (g 18) :: (g 19) :: (g 20) :: (g 21) :: (g 22) :: (g 23) :: (g 24) :: (g 25) :: (g 26) :: (g 27) :: (g 28) :: (g 29) :: (g 30) :: (g 31) :: (g 32) :: (g 33) :: (g 34) :: (g 35) :: (g 36) :: (g 37) :: (g 38) :: (g 39) :: (g 40) :: (g 41) :: (g 42) :: (g 43) :: (g 44) :: (g 45) :: (g 46) :: (g 47) :: (g 48) :: (g 49) :: (g 50) :: (g 51) :: (g 52) :: (g 53) :: (g 54) :: (g 55) :: (g 56) :: (g 57) :: (g 58) :: (g 59) :: (g 60) :: (g 61) :: (g 62) :: (g 63) :: (g 64) :: (g 65) :: (g 66) :: (g 67) :: (g 68) :: (g 69) :: (g 70) :: (g 71) :: (g 72) :: (g 73) :: (g 74) :: (g 75) :: (g 76) :: (g 77) :: (g 78) :: (g 79) :: (g 80) :: (g 81) :: (g 82) :: (g 83) :: (g 84) :: (g 85) :: (g 86) :: (g 87) :: (g 88) :: (g 89) :: (g 90) :: (g 91) :: (g 92) :: (g 93) :: (g 94) :: []))), (h1, .inl (cA, 1000, .inl f_14))] := ⟨_, hP, hD⟩
  refine lv_aload_n hx hb dX11_puts_20 rfl (lv_at hl 1 rfl) ?_
  refine lv_dup hx hb dX11_puts_21 rfl ?_
  refine va_get (D := (dC, dI)) (ci := 11) (v := .int 6) (C := RX11) (T := TX11) (N := 95) hx hb hts inlX11 hown hK hP 0 rfl rfl 2 (by decide) (hts (.fieldLink RX11 182 "ShapeReaderModel" "taped" "I") mw_10_23) (fun _ h9 => h9) rfl dX11_puts_22 ?_
  refine lv_iconst (v := 1) hx hb dX11_puts_25 (by decide) ?_
  refine lv_iadd hx hb dX11_puts_26 ?_
  refine lv_topi (fun k_15 ek_15 => ?_)
  obtain rfl : k_15 = 7 := ek_15.trans (by decide)
  refine va_put (D := (dC, dI)) (ci := 11) (v := .int 7) (ty := .int) (C := RX11) (T := TX11) (N := 95) hx hb hts inlX11 tyX11 tyX11_ok nmX11 hown hK hP hD hS 0 rfl rfl 2 (by decide) (hts (.fieldLink RX11 182 "ShapeReaderModel" "taped" "I") mw_10_23) (fun _ h9 => h9) rfl (by decide +kernel) rfl rfl (Nat.le_of_ble_eq_true rfl) dX11_puts_27 (fun H locs hP hD hS => ?_)
  have hP : va_P (dC, dI) vwCl [(h0, .inr (11, ((g 0) :: .ref h1 :: .int 7 :: (g 3) :: (g 4) :: (g 5) :: (g 6) :: (g 7) :: (g 8) :: (g 9) :: (g 10) :: (g 11) :: (g 12) :: (g 13) :: (g 14) :: (g 15) :: (g 16) :: (g 17) :: (g 18) :: (g 19) :: (g 20) :: (g 21) :: (g 22) :: (g 23) :: (g 24) :: (g 25) :: (g 26) :: (g 27) :: (g 28) :: (g 29) :: (g 30) :: (g 31) :: (g 32) :: (g 33) :: (g 34) :: (g 35) :: (g 36) :: (g 37) :: (g 38) :: (g 39) :: (g 40) :: (g 41) :: (g 42) :: (g 43) :: (g 44) :: (g 45) :: (g 46) :: (g 47) :: (g 48) :: (g 49) :: (g 50) :: (g 51) :: (g 52) :: (g 53) :: (g 54) :: (g 55) :: (g 56) :: (g 57) :: (g 58) :: (g 59) :: (g 60) :: (g 61) :: (g 62) :: (g 63) :: (g 64) :: (g 65) :: (g 66) :: (g 67) :: (g 68) :: (g 69) :: (g 70) :: (g 71) :: (g 72) :: (g 73) :: (g 74) :: (g 75) :: (g 76) :: (g 77) :: (g 78) :: (g 79) :: (g 80) :: (g 81) :: (g 82) :: (g 83) :: (g 84) :: (g 85) :: (g 86) :: (g 87) :: (g 88) :: (g 89) :: (g 90) :: (g 91) :: (g 92) :: (g 93) :: (g 94) :: []))), (h1, .inl (cA, 1000, .inl f_14))] H := hP
  have hD : va_D A [(h0, .inr (11, ((g 0) :: .ref h1 :: .int 7 :: (g 3) :: (g 4) :: (g 5) :: (g 6) :: (g 7) :: (g 8) :: (g 9) :: (g 10) :: (g 11) :: (g 12) :: (g 13) :: (g 14) :: (g 15) :: (g 16) :: (g 17) :: (g 18) :: (g 19) :: (g 20) :: (g 21) :: (g 22) :: (g 23) :: (g 24) :: (g 25) :: (g 26) :: (g 27) :: (g 28) :: (g 29) :: (g 30) :: (g 31) :: (g 32) :: (g 33) :: (g 34) :: (g 35) :: (g 36) :: (g 37) :: (g 38) :: (g 39) :: (g 40) :: (g 41) :: (g 42) :: (g 43) :: (g 44) :: (g 45) :: (g 46) :: (g 47) :: (g 48) :: (g 49) :: (g 50) :: (g 51) :: (g 52) :: (g 53) :: (g 54) :: (g 55) :: (g 56) :: (g 57) :: (g 58) :: (g 59) :: (g 60) :: (g 61) :: (g 62) :: (g 63) :: (g 64) :: (g 65) :: (g 66) :: (g 67) :: (g 68) :: (g 69) :: (g 70) :: (g 71) :: (g 72) :: (g 73) :: (g 74) :: (g 75) :: (g 76) :: (g 77) :: (g 78) :: (g 79) :: (g 80) :: (g 81) :: (g 82) :: (g 83) :: (g 84) :: (g 85) :: (g 86) :: (g 87) :: (g 88) :: (g 89) :: (g 90) :: (g 91) :: (g 92) :: (g 93) :: (g 94) :: []))), (h1, .inl (cA, 1000, .inl f_14))] := hD
  refine lv_iinc (v := 0) (lv' := [(2, .int 0), (0, .ref h0), (1, .int p0)]) hx hb dX11_puts_30 hl (k := 0) rfl (by decide) (by decide) rfl (fun ls hl => ?_)
  refine lv_goto (tgt := 3) hx hb dX11_puts_33 (by decide) ?_
  refine lv_iload_n hx hb dX11_puts_3 rfl (lv_at hl 0 rfl) ?_
  refine lv_if_lt (tgt := 36) hx hb dX11_puts_4 (by decide) (fun h => absurd h (by decide)) (fun _ => ?_)
  refine lv_aload_n hx hb dX11_puts_7 rfl (lv_at hl 1 rfl) ?_
  refine va_get (D := (dC, dI)) (ci := 11) (v := .ref h1) (C := RX11) (T := TX11) (N := 95) hx hb hts inlX11 hown hK hP 0 rfl rfl 1 (by decide) (hts (.fieldLink RX11 7 "ShapeReaderModel" "tape" "[B") mw_8_27) (fun _ h9 => h9) rfl dX11_puts_8 ?_
  refine lv_aload_n hx hb dX11_puts_11 rfl (lv_at hl 1 rfl) ?_
  refine va_get (D := (dC, dI)) (ci := 11) (v := .int 7) (C := RX11) (T := TX11) (N := 95) hx hb hts inlX11 hown hK hP 0 rfl rfl 2 (by decide) (hts (.fieldLink RX11 182 "ShapeReaderModel" "taped" "I") mw_10_23) (fun _ h9 => h9) rfl dX11_puts_12 ?_
  refine lv_iload_n hx hb dX11_puts_15 rfl (lv_at hl 2 rfl) ?_
  refine lv_iload_n hx hb dX11_puts_16 rfl (lv_at hl 0 rfl) ?_
  refine lv_ishr hx hb dX11_puts_17 ?_
  refine lv_topi (fun x_17 ex_17 => ?_)
  refine lv_i2b (v := x_17.toInt8.toInt32) hx hb dX11_puts_18 rfl ?_
  generalize x_17.toInt8.toInt32 = x_18
  refine va_bast hx hb hK hP hD hS 1 0 rfl rfl (vp_in_iff.mpr (by decide)) dX11_puts_19 (fun H locs hP hD hS => ?_)
  obtain ⟨f_19, hP, hD⟩ : ∃ f_19 : Nat → Int32, va_P (dC, dI) vwCl [(h0, .inr (11, ((g 0) :: .ref h1 :: .int 7 :: (g 3) :: (g 4) :: (g 5) :: (g 6) :: (g 7) :: (g 8) :: (g 9) :: (g 10) :: (g 11) :: (g 12) :: (g 13) :: (g 14) :: (g 15) :: (g 16) :: (g 17) :: (g 18) :: (g 19) :: (g 20) :: (g 21) :: (g 22) :: (g 23) :: (g 24) :: (g 25) :: (g 26) :: (g 27) :: (g 28) :: (g 29) :: (g 30) :: (g 31) :: (g 32) :: (g 33) :: (g 34) :: (g 35) :: (g 36) :: (g 37) :: (g 38) :: (g 39) :: (g 40) :: (g 41) :: (g 42) :: (g 43) :: (g 44) :: (g 45) :: (g 46) :: (g 47) :: (g 48) :: (g 49) :: (g 50) :: (g 51) :: (g 52) :: (g 53) :: (g 54) :: (g 55) :: (g 56) :: (g 57) :: (g 58) :: (g 59) :: (g 60) :: (g 61) :: (g 62) :: (g 63) :: (g 64) :: (g 65) :: (g 66) :: (g 67) :: (g 68) :: (g 69) :: (g 70) :: (g 71) :: (g 72) :: (g 73) :: (g 74) :: (g 75) :: (g 76) :: (g 77) :: (g 78) :: (g 79) :: (g 80) :: (g 81) :: (g 82) :: (g 83) :: (g 84) :: (g 85) :: (g 86) :: (g 87) :: (g 88) :: (g 89) :: (g 90) :: (g 91) :: (g 92) :: (g 93) :: (g 94) :: []))), (h1, .inl (cA, 1000, .inl f_19))] H ∧ va_D A [(h0, .inr (11, ((g 0) :: .ref h1 :: .int 7 :: (g 3) :: (g 4) :: (g 5) :: (g 6) :: (g 7) :: (g 8) :: (g 9) :: (g 10) :: (g 11) :: (g 12) :: (g 13) :: (g 14) :: (g 15) :: (g 16) :: (g 17) :: (g 18) :: (g 19) :: (g 20) :: (g 21) :: (g 22) :: (g 23) :: (g 24) :: (g 25) :: (g 26) :: (g 27) :: (g 28) :: (g 29) :: (g 30) :: (g 31) :: (g 32) :: (g 33) :: (g 34) :: (g 35) :: (g 36) :: (g 37) :: (g 38) :: (g 39) :: (g 40) :: (g 41) :: (g 42) :: (g 43) :: (g 44) :: (g 45) :: (g 46) :: (g 47) :: (g 48) :: (g 49) :: (g 50) :: (g 51) :: (g 52) :: (g 53) :: (g 54) :: (g 55) :: (g 56) :: (g 57) :: (g 58) :: (g 59) :: (g 60) :: (g 61) :: (g 62) :: (g 63) :: (g 64) :: (g 65) :: (g 66) :: (g 67) :: (g 68) :: (g 69) :: (g 70) :: (g 71) :: (g 72) :: (g 73) :: (g 74) :: (g 75) :: (g 76) :: (g 77) :: (g 78) :: (g 79) :: (g 80) :: (g 81) :: (g 82) :: (g 83) :: (g 84) :: (g 85) :: (g 86) :: (g 87) :: (g 88) :: (g 89) :: (g 90) :: (g 91) :: (g 92) :: (g 93) :: (g 94) :: []))), (h1, .inl (cA, 1000, .inl f_19))] := ⟨_, hP, hD⟩
  refine lv_aload_n hx hb dX11_puts_20 rfl (lv_at hl 1 rfl) ?_
  refine lv_dup hx hb dX11_puts_21 rfl ?_
  refine va_get (D := (dC, dI)) (ci := 11) (v := .int 7) (C := RX11) (T := TX11) (N := 95) hx hb hts inlX11 hown hK hP 0 rfl rfl 2 (by decide) (hts (.fieldLink RX11 182 "ShapeReaderModel" "taped" "I") mw_10_23) (fun _ h9 => h9) rfl dX11_puts_22 ?_
  refine lv_iconst (v := 1) hx hb dX11_puts_25 (by decide) ?_
  refine lv_iadd hx hb dX11_puts_26 ?_
  refine lv_topi (fun k_20 ek_20 => ?_)
  obtain rfl : k_20 = 8 := ek_20.trans (by decide)
  refine va_put (D := (dC, dI)) (ci := 11) (v := .int 8) (ty := .int) (C := RX11) (T := TX11) (N := 95) hx hb hts inlX11 tyX11 tyX11_ok nmX11 hown hK hP hD hS 0 rfl rfl 2 (by decide) (hts (.fieldLink RX11 182 "ShapeReaderModel" "taped" "I") mw_10_23) (fun _ h9 => h9) rfl (by decide +kernel) rfl rfl (Nat.le_of_ble_eq_true rfl) dX11_puts_27 (fun H locs hP hD hS => ?_)
  have hP : va_P (dC, dI) vwCl [(h0, .inr (11, ((g 0) :: .ref h1 :: .int 8 :: (g 3) :: (g 4) :: (g 5) :: (g 6) :: (g 7) :: (g 8) :: (g 9) :: (g 10) :: (g 11) :: (g 12) :: (g 13) :: (g 14) :: (g 15) :: (g 16) :: (g 17) :: (g 18) :: (g 19) :: (g 20) :: (g 21) :: (g 22) :: (g 23) :: (g 24) :: (g 25) :: (g 26) :: (g 27) :: (g 28) :: (g 29) :: (g 30) :: (g 31) :: (g 32) :: (g 33) :: (g 34) :: (g 35) :: (g 36) :: (g 37) :: (g 38) :: (g 39) :: (g 40) :: (g 41) :: (g 42) :: (g 43) :: (g 44) :: (g 45) :: (g 46) :: (g 47) :: (g 48) :: (g 49) :: (g 50) :: (g 51) :: (g 52) :: (g 53) :: (g 54) :: (g 55) :: (g 56) :: (g 57) :: (g 58) :: (g 59) :: (g 60) :: (g 61) :: (g 62) :: (g 63) :: (g 64) :: (g 65) :: (g 66) :: (g 67) :: (g 68) :: (g 69) :: (g 70) :: (g 71) :: (g 72) :: (g 73) :: (g 74) :: (g 75) :: (g 76) :: (g 77) :: (g 78) :: (g 79) :: (g 80) :: (g 81) :: (g 82) :: (g 83) :: (g 84) :: (g 85) :: (g 86) :: (g 87) :: (g 88) :: (g 89) :: (g 90) :: (g 91) :: (g 92) :: (g 93) :: (g 94) :: []))), (h1, .inl (cA, 1000, .inl f_19))] H := hP
  have hD : va_D A [(h0, .inr (11, ((g 0) :: .ref h1 :: .int 8 :: (g 3) :: (g 4) :: (g 5) :: (g 6) :: (g 7) :: (g 8) :: (g 9) :: (g 10) :: (g 11) :: (g 12) :: (g 13) :: (g 14) :: (g 15) :: (g 16) :: (g 17) :: (g 18) :: (g 19) :: (g 20) :: (g 21) :: (g 22) :: (g 23) :: (g 24) :: (g 25) :: (g 26) :: (g 27) :: (g 28) :: (g 29) :: (g 30) :: (g 31) :: (g 32) :: (g 33) :: (g 34) :: (g 35) :: (g 36) :: (g 37) :: (g 38) :: (g 39) :: (g 40) :: (g 41) :: (g 42) :: (g 43) :: (g 44) :: (g 45) :: (g 46) :: (g 47) :: (g 48) :: (g 49) :: (g 50) :: (g 51) :: (g 52) :: (g 53) :: (g 54) :: (g 55) :: (g 56) :: (g 57) :: (g 58) :: (g 59) :: (g 60) :: (g 61) :: (g 62) :: (g 63) :: (g 64) :: (g 65) :: (g 66) :: (g 67) :: (g 68) :: (g 69) :: (g 70) :: (g 71) :: (g 72) :: (g 73) :: (g 74) :: (g 75) :: (g 76) :: (g 77) :: (g 78) :: (g 79) :: (g 80) :: (g 81) :: (g 82) :: (g 83) :: (g 84) :: (g 85) :: (g 86) :: (g 87) :: (g 88) :: (g 89) :: (g 90) :: (g 91) :: (g 92) :: (g 93) :: (g 94) :: []))), (h1, .inl (cA, 1000, .inl f_19))] := hD
  refine lv_iinc (v := (-8)) (lv' := [(2, .int (-8)), (0, .ref h0), (1, .int p0)]) hx hb dX11_puts_30 hl (k := 0) rfl (by decide) (by decide) rfl (fun ls hl => ?_)
  refine lv_goto (tgt := 3) hx hb dX11_puts_33 (by decide) ?_
  refine lv_iload_n hx hb dX11_puts_3 rfl (lv_at hl 0 rfl) ?_
  refine lv_if_lt (tgt := 36) hx hb dX11_puts_4 (by decide) (fun _ => ?_) (fun h => absurd (by decide) h)
  have hP9 := hP.sub (ws' := [(h0, .inr (11, ((g 0) :: .ref h1 :: .int 8 :: (g 3) :: (g 4) :: (g 5) :: (g 6) :: (g 7) :: (g 8) :: (g 9) :: (g 10) :: (g 11) :: (g 12) :: (g 13) :: (g 14) :: (g 15) :: (g 16) :: (g 17) :: (g 18) :: (g 19) :: (g 20) :: (g 21) :: (g 22) :: (g 23) :: (g 24) :: (g 25) :: (g 26) :: (g 27) :: (g 28) :: (g 29) :: (g 30) :: (g 31) :: (g 32) :: (g 33) :: (g 34) :: (g 35) :: (g 36) :: (g 37) :: (g 38) :: (g 39) :: (g 40) :: (g 41) :: (g 42) :: (g 43) :: (g 44) :: (g 45) :: (g 46) :: (g 47) :: (g 48) :: (g 49) :: (g 50) :: (g 51) :: (g 52) :: (g 53) :: (g 54) :: (g 55) :: (g 56) :: (g 57) :: (g 58) :: (g 59) :: (g 60) :: (g 61) :: (g 62) :: (g 63) :: (g 64) :: (g 65) :: (g 66) :: (g 67) :: (g 68) :: (g 69) :: (g 70) :: (g 71) :: (g 72) :: (g 73) :: (g 74) :: (g 75) :: (g 76) :: (g 77) :: (g 78) :: (g 79) :: (g 80) :: (g 81) :: (g 82) :: (g 83) :: (g 84) :: (g 85) :: (g 86) :: (g 87) :: (g 88) :: (g 89) :: (g 90) :: (g 91) :: (g 92) :: (g 93) :: (g 94) :: []))), (h1, .inl (cA, 1000, .inl f_19))]) [0, 1] rfl
  have hD9 := hD.sub (ws' := [(h0, .inr (11, ((g 0) :: .ref h1 :: .int 8 :: (g 3) :: (g 4) :: (g 5) :: (g 6) :: (g 7) :: (g 8) :: (g 9) :: (g 10) :: (g 11) :: (g 12) :: (g 13) :: (g 14) :: (g 15) :: (g 16) :: (g 17) :: (g 18) :: (g 19) :: (g 20) :: (g 21) :: (g 22) :: (g 23) :: (g 24) :: (g 25) :: (g 26) :: (g 27) :: (g 28) :: (g 29) :: (g 30) :: (g 31) :: (g 32) :: (g 33) :: (g 34) :: (g 35) :: (g 36) :: (g 37) :: (g 38) :: (g 39) :: (g 40) :: (g 41) :: (g 42) :: (g 43) :: (g 44) :: (g 45) :: (g 46) :: (g 47) :: (g 48) :: (g 49) :: (g 50) :: (g 51) :: (g 52) :: (g 53) :: (g 54) :: (g 55) :: (g 56) :: (g 57) :: (g 58) :: (g 59) :: (g 60) :: (g 61) :: (g 62) :: (g 63) :: (g 64) :: (g 65) :: (g 66) :: (g 67) :: (g 68) :: (g 69) :: (g 70) :: (g 71) :: (g 72) :: (g 73) :: (g 74) :: (g 75) :: (g 76) :: (g 77) :: (g 78) :: (g 79) :: (g 80) :: (g 81) :: (g 82) :: (g 83) :: (g 84) :: (g 85) :: (g 86) :: (g 87) :: (g 88) :: (g 89) :: (g 90) :: (g 91) :: (g 92) :: (g 93) :: (g 94) :: []))), (h1, .inl (cA, 1000, .inl f_19))]) [0, 1] (by decide) rfl
  have hK9 := hK.sub (tys' := [(cA, .byte)]) [0] rfl
  refine W.widen (k := 0) (n := 0) (Nat.le_of_ble_eq_true rfl) (Nat.le_of_ble_eq_true rfl) ?_
  exact W.vret hx hb hr (fun t ht hW => ⟨⟨(), rfl, trivial, f_19, by rw [ht]; exact hP9, va_K.moved hW.alike hK9, hD9⟩, hS.F ht⟩) hS.2.2 dX11_puts_36

set_option maxRecDepth 100000 in
set_option maxHeartbeats 4000000 in
theorem c_puts8 (l : Launch) (dC : Nat → ClassId) (dI : Nat → Nat → Nat) (h0 : Nat) (h1 : Nat) (cA : ClassId) (f : Nat → Int32) (g : Nat → Value) (p0 : Int32) (sz : Nat) : Met l yX11_puts (.code yX11_puts cX11_puts 3 none :: pw) ({ frames := 0, cells := 0, slots := 0, locals := 0 }) (va_Pc [.ref h0, .int p0] (vPre dC dI [(h0, .inr (11, ((g 0) :: .ref h1 :: .int 8 :: (g 3) :: (g 4) :: (g 5) :: (g 6) :: (g 7) :: (g 8) :: (g 9) :: (g 10) :: (g 11) :: (g 12) :: (g 13) :: (g 14) :: (g 15) :: (g 16) :: (g 17) :: (g 18) :: (g 19) :: (g 20) :: (g 21) :: (g 22) :: (g 23) :: (g 24) :: (g 25) :: (g 26) :: (g 27) :: (g 28) :: (g 29) :: (g 30) :: (g 31) :: (g 32) :: (g 33) :: (g 34) :: (g 35) :: (g 36) :: (g 37) :: (g 38) :: (g 39) :: (g 40) :: (g 41) :: (g 42) :: (g 43) :: (g 44) :: (g 45) :: (g 46) :: (g 47) :: (g 48) :: (g 49) :: (g 50) :: (g 51) :: (g 52) :: (g 53) :: (g 54) :: (g 55) :: (g 56) :: (g 57) :: (g 58) :: (g 59) :: (g 60) :: (g 61) :: (g 62) :: (g 63) :: (g 64) :: (g 65) :: (g 66) :: (g 67) :: (g 68) :: (g 69) :: (g 70) :: (g 71) :: (g 72) :: (g 73) :: (g 74) :: (g 75) :: (g 76) :: (g 77) :: (g 78) :: (g 79) :: (g 80) :: (g 81) :: (g 82) :: (g 83) :: (g 84) :: (g 85) :: (g 86) :: (g 87) :: (g 88) :: (g 89) :: (g 90) :: (g 91) :: (g 92) :: (g 93) :: (g 94) :: []))), (h1, .inl (cA, 1000, .inl f))] [(cA, .byte)] sz)) (va_Qv (fun (_ : Unit) => True) (fun (_ : Unit) t => ∃ (f9 : Nat → Int32), vPst dC dI (va_A [(h0, .inr (11, ((g 0) :: .ref h1 :: .int 8 :: (g 3) :: (g 4) :: (g 5) :: (g 6) :: (g 7) :: (g 8) :: (g 9) :: (g 10) :: (g 11) :: (g 12) :: (g 13) :: (g 14) :: (g 15) :: (g 16) :: (g 17) :: (g 18) :: (g 19) :: (g 20) :: (g 21) :: (g 22) :: (g 23) :: (g 24) :: (g 25) :: (g 26) :: (g 27) :: (g 28) :: (g 29) :: (g 30) :: (g 31) :: (g 32) :: (g 33) :: (g 34) :: (g 35) :: (g 36) :: (g 37) :: (g 38) :: (g 39) :: (g 40) :: (g 41) :: (g 42) :: (g 43) :: (g 44) :: (g 45) :: (g 46) :: (g 47) :: (g 48) :: (g 49) :: (g 50) :: (g 51) :: (g 52) :: (g 53) :: (g 54) :: (g 55) :: (g 56) :: (g 57) :: (g 58) :: (g 59) :: (g 60) :: (g 61) :: (g 62) :: (g 63) :: (g 64) :: (g 65) :: (g 66) :: (g 67) :: (g 68) :: (g 69) :: (g 70) :: (g 71) :: (g 72) :: (g 73) :: (g 74) :: (g 75) :: (g 76) :: (g 77) :: (g 78) :: (g 79) :: (g 80) :: (g 81) :: (g 82) :: (g 83) :: (g 84) :: (g 85) :: (g 86) :: (g 87) :: (g 88) :: (g 89) :: (g 90) :: (g 91) :: (g 92) :: (g 93) :: (g 94) :: []))), (h1, .inl (cA, 1000, .inl f))] sz) [(h0, .inr (11, ((g 0) :: .ref h1 :: .int 12 :: (g 3) :: (g 4) :: (g 5) :: (g 6) :: (g 7) :: (g 8) :: (g 9) :: (g 10) :: (g 11) :: (g 12) :: (g 13) :: (g 14) :: (g 15) :: (g 16) :: (g 17) :: (g 18) :: (g 19) :: (g 20) :: (g 21) :: (g 22) :: (g 23) :: (g 24) :: (g 25) :: (g 26) :: (g 27) :: (g 28) :: (g 29) :: (g 30) :: (g 31) :: (g 32) :: (g 33) :: (g 34) :: (g 35) :: (g 36) :: (g 37) :: (g 38) :: (g 39) :: (g 40) :: (g 41) :: (g 42) :: (g 43) :: (g 44) :: (g 45) :: (g 46) :: (g 47) :: (g 48) :: (g 49) :: (g 50) :: (g 51) :: (g 52) :: (g 53) :: (g 54) :: (g 55) :: (g 56) :: (g 57) :: (g 58) :: (g 59) :: (g 60) :: (g 61) :: (g 62) :: (g 63) :: (g 64) :: (g 65) :: (g 66) :: (g 67) :: (g 68) :: (g 69) :: (g 70) :: (g 71) :: (g 72) :: (g 73) :: (g 74) :: (g 75) :: (g 76) :: (g 77) :: (g 78) :: (g 79) :: (g 80) :: (g 81) :: (g 82) :: (g 83) :: (g 84) :: (g 85) :: (g 86) :: (g 87) :: (g 88) :: (g 89) :: (g 90) :: (g 91) :: (g 92) :: (g 93) :: (g 94) :: []))), (h1, .inl (cA, 1000, .inl f9))] [(cA, .byte)] t) (va_A [(h0, .inr (11, ((g 0) :: .ref h1 :: .int 8 :: (g 3) :: (g 4) :: (g 5) :: (g 6) :: (g 7) :: (g 8) :: (g 9) :: (g 10) :: (g 11) :: (g 12) :: (g 13) :: (g 14) :: (g 15) :: (g 16) :: (g 17) :: (g 18) :: (g 19) :: (g 20) :: (g 21) :: (g 22) :: (g 23) :: (g 24) :: (g 25) :: (g 26) :: (g 27) :: (g 28) :: (g 29) :: (g 30) :: (g 31) :: (g 32) :: (g 33) :: (g 34) :: (g 35) :: (g 36) :: (g 37) :: (g 38) :: (g 39) :: (g 40) :: (g 41) :: (g 42) :: (g 43) :: (g 44) :: (g 45) :: (g 46) :: (g 47) :: (g 48) :: (g 49) :: (g 50) :: (g 51) :: (g 52) :: (g 53) :: (g 54) :: (g 55) :: (g 56) :: (g 57) :: (g 58) :: (g 59) :: (g 60) :: (g 61) :: (g 62) :: (g 63) :: (g 64) :: (g 65) :: (g 66) :: (g 67) :: (g 68) :: (g 69) :: (g 70) :: (g 71) :: (g 72) :: (g 73) :: (g 74) :: (g 75) :: (g 76) :: (g 77) :: (g 78) :: (g 79) :: (g 80) :: (g 81) :: (g 82) :: (g 83) :: (g 84) :: (g 85) :: (g 86) :: (g 87) :: (g 88) :: (g 89) :: (g 90) :: (g 91) :: (g 92) :: (g 93) :: (g 94) :: []))), (h1, .inl (cA, 1000, .inl f))] sz)) 0 0 (va_A [(h0, .inr (11, ((g 0) :: .ref h1 :: .int 8 :: (g 3) :: (g 4) :: (g 5) :: (g 6) :: (g 7) :: (g 8) :: (g 9) :: (g 10) :: (g 11) :: (g 12) :: (g 13) :: (g 14) :: (g 15) :: (g 16) :: (g 17) :: (g 18) :: (g 19) :: (g 20) :: (g 21) :: (g 22) :: (g 23) :: (g 24) :: (g 25) :: (g 26) :: (g 27) :: (g 28) :: (g 29) :: (g 30) :: (g 31) :: (g 32) :: (g 33) :: (g 34) :: (g 35) :: (g 36) :: (g 37) :: (g 38) :: (g 39) :: (g 40) :: (g 41) :: (g 42) :: (g 43) :: (g 44) :: (g 45) :: (g 46) :: (g 47) :: (g 48) :: (g 49) :: (g 50) :: (g 51) :: (g 52) :: (g 53) :: (g 54) :: (g 55) :: (g 56) :: (g 57) :: (g 58) :: (g 59) :: (g 60) :: (g 61) :: (g 62) :: (g 63) :: (g 64) :: (g 65) :: (g 66) :: (g 67) :: (g 68) :: (g 69) :: (g 70) :: (g 71) :: (g 72) :: (g 73) :: (g 74) :: (g 75) :: (g 76) :: (g 77) :: (g 78) :: (g 79) :: (g 80) :: (g 81) :: (g 82) :: (g 83) :: (g 84) :: (g 85) :: (g 86) :: (g 87) :: (g 88) :: (g 89) :: (g 90) :: (g 91) :: (g 92) :: (g 93) :: (g 94) :: []))), (h1, .inl (cA, 1000, .inl f))] sz) := by
  refine Met.ofW (cc := cX11_puts) (maxL := 3) (ret := none) (by decide) rfl ?_
  intro p e s m args below meth c s₁ B hml hv
  obtain ⟨rfl, hsz, hP, hK, hD0⟩ := hv
  have hx := B.exec
  have hb := B.bytes
  have hr := B.returns
  have hts := atoms_spec (ws := .code yX11_puts cX11_puts 3 none :: pw) B.pre
  have hts : ∀ w ∈ pw, w.before _ s = true := fun w h => hts w (List.mem_cons_of_mem _ h)
  have hown : s.vm.findClass RX11 = some m.cls := findClass_of_methodNamed B.named
  have hlocks := B.notSynchronized
  subst hsz
  have hD := hD0.self (sz := s.heap.size)
  generalize hAe : va_A [(h0, .inr (11, ((g 0) :: .ref h1 :: .int 8 :: (g 3) :: (g 4) :: (g 5) :: (g 6) :: (g 7) :: (g 8) :: (g 9) :: (g 10) :: (g 11) :: (g 12) :: (g 13) :: (g 14) :: (g 15) :: (g 16) :: (g 17) :: (g 18) :: (g 19) :: (g 20) :: (g 21) :: (g 22) :: (g 23) :: (g 24) :: (g 25) :: (g 26) :: (g 27) :: (g 28) :: (g 29) :: (g 30) :: (g 31) :: (g 32) :: (g 33) :: (g 34) :: (g 35) :: (g 36) :: (g 37) :: (g 38) :: (g 39) :: (g 40) :: (g 41) :: (g 42) :: (g 43) :: (g 44) :: (g 45) :: (g 46) :: (g 47) :: (g 48) :: (g 49) :: (g 50) :: (g 51) :: (g 52) :: (g 53) :: (g 54) :: (g 55) :: (g 56) :: (g 57) :: (g 58) :: (g 59) :: (g 60) :: (g 61) :: (g 62) :: (g 63) :: (g 64) :: (g 65) :: (g 66) :: (g 67) :: (g 68) :: (g 69) :: (g 70) :: (g 71) :: (g 72) :: (g 73) :: (g 74) :: (g 75) :: (g 76) :: (g 77) :: (g 78) :: (g 79) :: (g 80) :: (g 81) :: (g 82) :: (g 83) :: (g 84) :: (g 85) :: (g 86) :: (g 87) :: (g 88) :: (g 89) :: (g 90) :: (g 91) :: (g 92) :: (g 93) :: (g 94) :: []))), (h1, .inl (cA, 1000, .inl f))] s.heap.size = A at hD ⊢
  have hA : ∀ q : Nat, s.heap.size ≤ q → A q := fun q h => by rw [← hAe]; exact Or.inr h
  have hS : va_S A s.heap s.heap [] := va_S.rf
  have hP : va_P (dC, dI) vwCl [(h0, .inr (11, ((g 0) :: .ref h1 :: .int 8 :: (g 3) :: (g 4) :: (g 5) :: (g 6) :: (g 7) :: (g 8) :: (g 9) :: (g 10) :: (g 11) :: (g 12) :: (g 13) :: (g 14) :: (g 15) :: (g 16) :: (g 17) :: (g 18) :: (g 19) :: (g 20) :: (g 21) :: (g 22) :: (g 23) :: (g 24) :: (g 25) :: (g 26) :: (g 27) :: (g 28) :: (g 29) :: (g 30) :: (g 31) :: (g 32) :: (g 33) :: (g 34) :: (g 35) :: (g 36) :: (g 37) :: (g 38) :: (g 39) :: (g 40) :: (g 41) :: (g 42) :: (g 43) :: (g 44) :: (g 45) :: (g 46) :: (g 47) :: (g 48) :: (g 49) :: (g 50) :: (g 51) :: (g 52) :: (g 53) :: (g 54) :: (g 55) :: (g 56) :: (g 57) :: (g 58) :: (g 59) :: (g 60) :: (g 61) :: (g 62) :: (g 63) :: (g 64) :: (g 65) :: (g 66) :: (g 67) :: (g 68) :: (g 69) :: (g 70) :: (g 71) :: (g 72) :: (g 73) :: (g 74) :: (g 75) :: (g 76) :: (g 77) :: (g 78) :: (g 79) :: (g 80) :: (g 81) :: (g 82) :: (g 83) :: (g 84) :: (g 85) :: (g 86) :: (g 87) :: (g 88) :: (g 89) :: (g 90) :: (g 91) :: (g 92) :: (g 93) :: (g 94) :: []))), (h1, .inl (cA, 1000, .inl f))] s.heap := hP
  have hl := lv_entry ([.ref h0, .int p0]) (n := 3) (Nat.le_of_ble_eq_true rfl)
  rw [lg_entry_eq]
  generalize (lg_sl ([.ref h0, .int p0]) ++ List.replicate (3 - (lg_sl ([.ref h0, .int p0])).length) Slot.unset).toArray = ls at hl ⊢
  have hl : lv_has ls 3 [(0, .ref h0), (1, .int p0)] := hl
  refine lv_bipush (v := 24) hx hb dX11_puts_0 (by decide) ?_
  refine lv_istore_n (lv' := [(2, .int 24), (0, .ref h0), (1, .int p0)]) hx hb dX11_puts_2 rfl hl (by decide) rfl (fun ls hl => ?_)
  refine lv_iload_n hx hb dX11_puts_3 rfl (lv_at hl 0 rfl) ?_
  refine lv_if_lt (tgt := 36) hx hb dX11_puts_4 (by decide) (fun h => absurd h (by decide)) (fun _ => ?_)
  refine lv_aload_n hx hb dX11_puts_7 rfl (lv_at hl 1 rfl) ?_
  refine va_get (D := (dC, dI)) (ci := 11) (v := .ref h1) (C := RX11) (T := TX11) (N := 95) hx hb hts inlX11 hown hK hP 0 rfl rfl 1 (by decide) (hts (.fieldLink RX11 7 "ShapeReaderModel" "tape" "[B") mw_8_27) (fun _ h9 => h9) rfl dX11_puts_8 ?_
  refine lv_aload_n hx hb dX11_puts_11 rfl (lv_at hl 1 rfl) ?_
  refine va_get (D := (dC, dI)) (ci := 11) (v := .int 8) (C := RX11) (T := TX11) (N := 95) hx hb hts inlX11 hown hK hP 0 rfl rfl 2 (by decide) (hts (.fieldLink RX11 182 "ShapeReaderModel" "taped" "I") mw_10_23) (fun _ h9 => h9) rfl dX11_puts_12 ?_
  refine lv_iload_n hx hb dX11_puts_15 rfl (lv_at hl 2 rfl) ?_
  refine lv_iload_n hx hb dX11_puts_16 rfl (lv_at hl 0 rfl) ?_
  refine lv_ishr hx hb dX11_puts_17 ?_
  refine lv_topi (fun x_2 ex_2 => ?_)
  refine lv_i2b (v := x_2.toInt8.toInt32) hx hb dX11_puts_18 rfl ?_
  generalize x_2.toInt8.toInt32 = x_3
  refine va_bast hx hb hK hP hD hS 1 0 rfl rfl (vp_in_iff.mpr (by decide)) dX11_puts_19 (fun H locs hP hD hS => ?_)
  obtain ⟨f_4, hP, hD⟩ : ∃ f_4 : Nat → Int32, va_P (dC, dI) vwCl [(h0, .inr (11, ((g 0) :: .ref h1 :: .int 8 :: (g 3) :: (g 4) :: (g 5) :: (g 6) :: (g 7) :: (g 8) :: (g 9) :: (g 10) :: (g 11) :: (g 12) :: (g 13) :: (g 14) :: (g 15) :: (g 16) :: (g 17) :: (g 18) :: (g 19) :: (g 20) :: (g 21) :: (g 22) :: (g 23) :: (g 24) :: (g 25) :: (g 26) :: (g 27) :: (g 28) :: (g 29) :: (g 30) :: (g 31) :: (g 32) :: (g 33) :: (g 34) :: (g 35) :: (g 36) :: (g 37) :: (g 38) :: (g 39) :: (g 40) :: (g 41) :: (g 42) :: (g 43) :: (g 44) :: (g 45) :: (g 46) :: (g 47) :: (g 48) :: (g 49) :: (g 50) :: (g 51) :: (g 52) :: (g 53) :: (g 54) :: (g 55) :: (g 56) :: (g 57) :: (g 58) :: (g 59) :: (g 60) :: (g 61) :: (g 62) :: (g 63) :: (g 64) :: (g 65) :: (g 66) :: (g 67) :: (g 68) :: (g 69) :: (g 70) :: (g 71) :: (g 72) :: (g 73) :: (g 74) :: (g 75) :: (g 76) :: (g 77) :: (g 78) :: (g 79) :: (g 80) :: (g 81) :: (g 82) :: (g 83) :: (g 84) :: (g 85) :: (g 86) :: (g 87) :: (g 88) :: (g 89) :: (g 90) :: (g 91) :: (g 92) :: (g 93) :: (g 94) :: []))), (h1, .inl (cA, 1000, .inl f_4))] H ∧ va_D A [(h0, .inr (11, ((g 0) :: .ref h1 :: .int 8 :: (g 3) :: (g 4) :: (g 5) :: (g 6) :: (g 7) :: (g 8) :: (g 9) :: (g 10) :: (g 11) :: (g 12) :: (g 13) :: (g 14) :: (g 15) :: (g 16) :: (g 17) :: (g 18) :: (g 19) :: (g 20) :: (g 21) :: (g 22) :: (g 23) :: (g 24) :: (g 25) :: (g 26) :: (g 27) :: (g 28) :: (g 29) :: (g 30) :: (g 31) :: (g 32) :: (g 33) :: (g 34) :: (g 35) :: (g 36) :: (g 37) :: (g 38) :: (g 39) :: (g 40) :: (g 41) :: (g 42) :: (g 43) :: (g 44) :: (g 45) :: (g 46) :: (g 47) :: (g 48) :: (g 49) :: (g 50) :: (g 51) :: (g 52) :: (g 53) :: (g 54) :: (g 55) :: (g 56) :: (g 57) :: (g 58) :: (g 59) :: (g 60) :: (g 61) :: (g 62) :: (g 63) :: (g 64) :: (g 65) :: (g 66) :: (g 67) :: (g 68) :: (g 69) :: (g 70) :: (g 71) :: (g 72) :: (g 73) :: (g 74) :: (g 75) :: (g 76) :: (g 77) :: (g 78) :: (g 79) :: (g 80) :: (g 81) :: (g 82) :: (g 83) :: (g 84) :: (g 85) :: (g 86) :: (g 87) :: (g 88) :: (g 89) :: (g 90) :: (g 91) :: (g 92) :: (g 93) :: (g 94) :: []))), (h1, .inl (cA, 1000, .inl f_4))] := ⟨_, hP, hD⟩
  refine lv_aload_n hx hb dX11_puts_20 rfl (lv_at hl 1 rfl) ?_
  refine lv_dup hx hb dX11_puts_21 rfl ?_
  refine va_get (D := (dC, dI)) (ci := 11) (v := .int 8) (C := RX11) (T := TX11) (N := 95) hx hb hts inlX11 hown hK hP 0 rfl rfl 2 (by decide) (hts (.fieldLink RX11 182 "ShapeReaderModel" "taped" "I") mw_10_23) (fun _ h9 => h9) rfl dX11_puts_22 ?_
  refine lv_iconst (v := 1) hx hb dX11_puts_25 (by decide) ?_
  refine lv_iadd hx hb dX11_puts_26 ?_
  refine lv_topi (fun k_5 ek_5 => ?_)
  obtain rfl : k_5 = 9 := ek_5.trans (by decide)
  refine va_put (D := (dC, dI)) (ci := 11) (v := .int 9) (ty := .int) (C := RX11) (T := TX11) (N := 95) hx hb hts inlX11 tyX11 tyX11_ok nmX11 hown hK hP hD hS 0 rfl rfl 2 (by decide) (hts (.fieldLink RX11 182 "ShapeReaderModel" "taped" "I") mw_10_23) (fun _ h9 => h9) rfl (by decide +kernel) rfl rfl (Nat.le_of_ble_eq_true rfl) dX11_puts_27 (fun H locs hP hD hS => ?_)
  have hP : va_P (dC, dI) vwCl [(h0, .inr (11, ((g 0) :: .ref h1 :: .int 9 :: (g 3) :: (g 4) :: (g 5) :: (g 6) :: (g 7) :: (g 8) :: (g 9) :: (g 10) :: (g 11) :: (g 12) :: (g 13) :: (g 14) :: (g 15) :: (g 16) :: (g 17) :: (g 18) :: (g 19) :: (g 20) :: (g 21) :: (g 22) :: (g 23) :: (g 24) :: (g 25) :: (g 26) :: (g 27) :: (g 28) :: (g 29) :: (g 30) :: (g 31) :: (g 32) :: (g 33) :: (g 34) :: (g 35) :: (g 36) :: (g 37) :: (g 38) :: (g 39) :: (g 40) :: (g 41) :: (g 42) :: (g 43) :: (g 44) :: (g 45) :: (g 46) :: (g 47) :: (g 48) :: (g 49) :: (g 50) :: (g 51) :: (g 52) :: (g 53) :: (g 54) :: (g 55) :: (g 56) :: (g 57) :: (g 58) :: (g 59) :: (g 60) :: (g 61) :: (g 62) :: (g 63) :: (g 64) :: (g 65) :: (g 66) :: (g 67) :: (g 68) :: (g 69) :: (g 70) :: (g 71) :: (g 72) :: (g 73) :: (g 74) :: (g 75) :: (g 76) :: (g 77) :: (g 78) :: (g 79) :: (g 80) :: (g 81) :: (g 82) :: (g 83) :: (g 84) :: (g 85) :: (g 86) :: (g 87) :: (g 88) :: (g 89) :: (g 90) :: (g 91) :: (g 92) :: (g 93) :: (g 94) :: []))), (h1, .inl (cA, 1000, .inl f_4))] H := hP
  have hD : va_D A [(h0, .inr (11, ((g 0) :: .ref h1 :: .int 9 :: (g 3) :: (g 4) :: (g 5) :: (g 6) :: (g 7) :: (g 8) :: (g 9) :: (g 10) :: (g 11) :: (g 12) :: (g 13) :: (g 14) :: (g 15) :: (g 16) :: (g 17) :: (g 18) :: (g 19) :: (g 20) :: (g 21) :: (g 22) :: (g 23) :: (g 24) :: (g 25) :: (g 26) :: (g 27) :: (g 28) :: (g 29) :: (g 30) :: (g 31) :: (g 32) :: (g 33) :: (g 34) :: (g 35) :: (g 36) :: (g 37) :: (g 38) :: (g 39) :: (g 40) :: (g 41) :: (g 42) :: (g 43) :: (g 44) :: (g 45) :: (g 46) :: (g 47) :: (g 48) :: (g 49) :: (g 50) :: (g 51) :: (g 52) :: (g 53) :: (g 54) :: (g 55) :: (g 56) :: (g 57) :: (g 58) :: (g 59) :: (g 60) :: (g 61) :: (g 62) :: (g 63) :: (g 64) :: (g 65) :: (g 66) :: (g 67) :: (g 68) :: (g 69) :: (g 70) :: (g 71) :: (g 72) :: (g 73) :: (g 74) :: (g 75) :: (g 76) :: (g 77) :: (g 78) :: (g 79) :: (g 80) :: (g 81) :: (g 82) :: (g 83) :: (g 84) :: (g 85) :: (g 86) :: (g 87) :: (g 88) :: (g 89) :: (g 90) :: (g 91) :: (g 92) :: (g 93) :: (g 94) :: []))), (h1, .inl (cA, 1000, .inl f_4))] := hD
  refine lv_iinc (v := 16) (lv' := [(2, .int 16), (0, .ref h0), (1, .int p0)]) hx hb dX11_puts_30 hl (k := 0) rfl (by decide) (by decide) rfl (fun ls hl => ?_)
  refine lv_goto (tgt := 3) hx hb dX11_puts_33 (by decide) ?_
  refine lv_iload_n hx hb dX11_puts_3 rfl (lv_at hl 0 rfl) ?_
  refine lv_if_lt (tgt := 36) hx hb dX11_puts_4 (by decide) (fun h => absurd h (by decide)) (fun _ => ?_)
  refine lv_aload_n hx hb dX11_puts_7 rfl (lv_at hl 1 rfl) ?_
  refine va_get (D := (dC, dI)) (ci := 11) (v := .ref h1) (C := RX11) (T := TX11) (N := 95) hx hb hts inlX11 hown hK hP 0 rfl rfl 1 (by decide) (hts (.fieldLink RX11 7 "ShapeReaderModel" "tape" "[B") mw_8_27) (fun _ h9 => h9) rfl dX11_puts_8 ?_
  refine lv_aload_n hx hb dX11_puts_11 rfl (lv_at hl 1 rfl) ?_
  refine va_get (D := (dC, dI)) (ci := 11) (v := .int 9) (C := RX11) (T := TX11) (N := 95) hx hb hts inlX11 hown hK hP 0 rfl rfl 2 (by decide) (hts (.fieldLink RX11 182 "ShapeReaderModel" "taped" "I") mw_10_23) (fun _ h9 => h9) rfl dX11_puts_12 ?_
  refine lv_iload_n hx hb dX11_puts_15 rfl (lv_at hl 2 rfl) ?_
  refine lv_iload_n hx hb dX11_puts_16 rfl (lv_at hl 0 rfl) ?_
  refine lv_ishr hx hb dX11_puts_17 ?_
  refine lv_topi (fun x_7 ex_7 => ?_)
  refine lv_i2b (v := x_7.toInt8.toInt32) hx hb dX11_puts_18 rfl ?_
  generalize x_7.toInt8.toInt32 = x_8
  refine va_bast hx hb hK hP hD hS 1 0 rfl rfl (vp_in_iff.mpr (by decide)) dX11_puts_19 (fun H locs hP hD hS => ?_)
  obtain ⟨f_9, hP, hD⟩ : ∃ f_9 : Nat → Int32, va_P (dC, dI) vwCl [(h0, .inr (11, ((g 0) :: .ref h1 :: .int 9 :: (g 3) :: (g 4) :: (g 5) :: (g 6) :: (g 7) :: (g 8) :: (g 9) :: (g 10) :: (g 11) :: (g 12) :: (g 13) :: (g 14) :: (g 15) :: (g 16) :: (g 17) :: (g 18) :: (g 19) :: (g 20) :: (g 21) :: (g 22) :: (g 23) :: (g 24) :: (g 25) :: (g 26) :: (g 27) :: (g 28) :: (g 29) :: (g 30) :: (g 31) :: (g 32) :: (g 33) :: (g 34) :: (g 35) :: (g 36) :: (g 37) :: (g 38) :: (g 39) :: (g 40) :: (g 41) :: (g 42) :: (g 43) :: (g 44) :: (g 45) :: (g 46) :: (g 47) :: (g 48) :: (g 49) :: (g 50) :: (g 51) :: (g 52) :: (g 53) :: (g 54) :: (g 55) :: (g 56) :: (g 57) :: (g 58) :: (g 59) :: (g 60) :: (g 61) :: (g 62) :: (g 63) :: (g 64) :: (g 65) :: (g 66) :: (g 67) :: (g 68) :: (g 69) :: (g 70) :: (g 71) :: (g 72) :: (g 73) :: (g 74) :: (g 75) :: (g 76) :: (g 77) :: (g 78) :: (g 79) :: (g 80) :: (g 81) :: (g 82) :: (g 83) :: (g 84) :: (g 85) :: (g 86) :: (g 87) :: (g 88) :: (g 89) :: (g 90) :: (g 91) :: (g 92) :: (g 93) :: (g 94) :: []))), (h1, .inl (cA, 1000, .inl f_9))] H ∧ va_D A [(h0, .inr (11, ((g 0) :: .ref h1 :: .int 9 :: (g 3) :: (g 4) :: (g 5) :: (g 6) :: (g 7) :: (g 8) :: (g 9) :: (g 10) :: (g 11) :: (g 12) :: (g 13) :: (g 14) :: (g 15) :: (g 16) :: (g 17) :: (g 18) :: (g 19) :: (g 20) :: (g 21) :: (g 22) :: (g 23) :: (g 24) :: (g 25) :: (g 26) :: (g 27) :: (g 28) :: (g 29) :: (g 30) :: (g 31) :: (g 32) :: (g 33) :: (g 34) :: (g 35) :: (g 36) :: (g 37) :: (g 38) :: (g 39) :: (g 40) :: (g 41) :: (g 42) :: (g 43) :: (g 44) :: (g 45) :: (g 46) :: (g 47) :: (g 48) :: (g 49) :: (g 50) :: (g 51) :: (g 52) :: (g 53) :: (g 54) :: (g 55) :: (g 56) :: (g 57) :: (g 58) :: (g 59) :: (g 60) :: (g 61) :: (g 62) :: (g 63) :: (g 64) :: (g 65) :: (g 66) :: (g 67) :: (g 68) :: (g 69) :: (g 70) :: (g 71) :: (g 72) :: (g 73) :: (g 74) :: (g 75) :: (g 76) :: (g 77) :: (g 78) :: (g 79) :: (g 80) :: (g 81) :: (g 82) :: (g 83) :: (g 84) :: (g 85) :: (g 86) :: (g 87) :: (g 88) :: (g 89) :: (g 90) :: (g 91) :: (g 92) :: (g 93) :: (g 94) :: []))), (h1, .inl (cA, 1000, .inl f_9))] := ⟨_, hP, hD⟩
  refine lv_aload_n hx hb dX11_puts_20 rfl (lv_at hl 1 rfl) ?_
  refine lv_dup hx hb dX11_puts_21 rfl ?_
  refine va_get (D := (dC, dI)) (ci := 11) (v := .int 9) (C := RX11) (T := TX11) (N := 95) hx hb hts inlX11 hown hK hP 0 rfl rfl 2 (by decide) (hts (.fieldLink RX11 182 "ShapeReaderModel" "taped" "I") mw_10_23) (fun _ h9 => h9) rfl dX11_puts_22 ?_
  refine lv_iconst (v := 1) hx hb dX11_puts_25 (by decide) ?_
  refine lv_iadd hx hb dX11_puts_26 ?_
  refine lv_topi (fun k_10 ek_10 => ?_)
  obtain rfl : k_10 = 10 := ek_10.trans (by decide)
  refine va_put (D := (dC, dI)) (ci := 11) (v := .int 10) (ty := .int) (C := RX11) (T := TX11) (N := 95) hx hb hts inlX11 tyX11 tyX11_ok nmX11 hown hK hP hD hS 0 rfl rfl 2 (by decide) (hts (.fieldLink RX11 182 "ShapeReaderModel" "taped" "I") mw_10_23) (fun _ h9 => h9) rfl (by decide +kernel) rfl rfl (Nat.le_of_ble_eq_true rfl) dX11_puts_27 (fun H locs hP hD hS => ?_)
  have hP : va_P (dC, dI) vwCl [(h0, .inr (11, ((g 0) :: .ref h1 :: .int 10 :: (g 3) :: (g 4) :: (g 5) :: (g 6) :: (g 7) :: (g 8) :: (g 9) :: (g 10) :: (g 11) :: (g 12) :: (g 13) :: (g 14) :: (g 15) :: (g 16) :: (g 17) :: (g 18) :: (g 19) :: (g 20) :: (g 21) :: (g 22) :: (g 23) :: (g 24) :: (g 25) :: (g 26) :: (g 27) :: (g 28) :: (g 29) :: (g 30) :: (g 31) :: (g 32) :: (g 33) :: (g 34) :: (g 35) :: (g 36) :: (g 37) :: (g 38) :: (g 39) :: (g 40) :: (g 41) :: (g 42) :: (g 43) :: (g 44) :: (g 45) :: (g 46) :: (g 47) :: (g 48) :: (g 49) :: (g 50) :: (g 51) :: (g 52) :: (g 53) :: (g 54) :: (g 55) :: (g 56) :: (g 57) :: (g 58) :: (g 59) :: (g 60) :: (g 61) :: (g 62) :: (g 63) :: (g 64) :: (g 65) :: (g 66) :: (g 67) :: (g 68) :: (g 69) :: (g 70) :: (g 71) :: (g 72) :: (g 73) :: (g 74) :: (g 75) :: (g 76) :: (g 77) :: (g 78) :: (g 79) :: (g 80) :: (g 81) :: (g 82) :: (g 83) :: (g 84) :: (g 85) :: (g 86) :: (g 87) :: (g 88) :: (g 89) :: (g 90) :: (g 91) :: (g 92) :: (g 93) :: (g 94) :: []))), (h1, .inl (cA, 1000, .inl f_9))] H := hP
  have hD : va_D A [(h0, .inr (11, ((g 0) :: .ref h1 :: .int 10 :: (g 3) :: (g 4) :: (g 5) :: (g 6) :: (g 7) :: (g 8) :: (g 9) :: (g 10) :: (g 11) :: (g 12) :: (g 13) :: (g 14) :: (g 15) :: (g 16) :: (g 17) :: (g 18) :: (g 19) :: (g 20) :: (g 21) :: (g 22) :: (g 23) :: (g 24) :: (g 25) :: (g 26) :: (g 27) :: (g 28) :: (g 29) :: (g 30) :: (g 31) :: (g 32) :: (g 33) :: (g 34) :: (g 35) :: (g 36) :: (g 37) :: (g 38) :: (g 39) :: (g 40) :: (g 41) :: (g 42) :: (g 43) :: (g 44) :: (g 45) :: (g 46) :: (g 47) :: (g 48) :: (g 49) :: (g 50) :: (g 51) :: (g 52) :: (g 53) :: (g 54) :: (g 55) :: (g 56) :: (g 57) :: (g 58) :: (g 59) :: (g 60) :: (g 61) :: (g 62) :: (g 63) :: (g 64) :: (g 65) :: (g 66) :: (g 67) :: (g 68) :: (g 69) :: (g 70) :: (g 71) :: (g 72) :: (g 73) :: (g 74) :: (g 75) :: (g 76) :: (g 77) :: (g 78) :: (g 79) :: (g 80) :: (g 81) :: (g 82) :: (g 83) :: (g 84) :: (g 85) :: (g 86) :: (g 87) :: (g 88) :: (g 89) :: (g 90) :: (g 91) :: (g 92) :: (g 93) :: (g 94) :: []))), (h1, .inl (cA, 1000, .inl f_9))] := hD
  refine lv_iinc (v := 8) (lv' := [(2, .int 8), (0, .ref h0), (1, .int p0)]) hx hb dX11_puts_30 hl (k := 0) rfl (by decide) (by decide) rfl (fun ls hl => ?_)
  refine lv_goto (tgt := 3) hx hb dX11_puts_33 (by decide) ?_
  refine lv_iload_n hx hb dX11_puts_3 rfl (lv_at hl 0 rfl) ?_
  refine lv_if_lt (tgt := 36) hx hb dX11_puts_4 (by decide) (fun h => absurd h (by decide)) (fun _ => ?_)
  refine lv_aload_n hx hb dX11_puts_7 rfl (lv_at hl 1 rfl) ?_
  refine va_get (D := (dC, dI)) (ci := 11) (v := .ref h1) (C := RX11) (T := TX11) (N := 95) hx hb hts inlX11 hown hK hP 0 rfl rfl 1 (by decide) (hts (.fieldLink RX11 7 "ShapeReaderModel" "tape" "[B") mw_8_27) (fun _ h9 => h9) rfl dX11_puts_8 ?_
  refine lv_aload_n hx hb dX11_puts_11 rfl (lv_at hl 1 rfl) ?_
  refine va_get (D := (dC, dI)) (ci := 11) (v := .int 10) (C := RX11) (T := TX11) (N := 95) hx hb hts inlX11 hown hK hP 0 rfl rfl 2 (by decide) (hts (.fieldLink RX11 182 "ShapeReaderModel" "taped" "I") mw_10_23) (fun _ h9 => h9) rfl dX11_puts_12 ?_
  refine lv_iload_n hx hb dX11_puts_15 rfl (lv_at hl 2 rfl) ?_
  refine lv_iload_n hx hb dX11_puts_16 rfl (lv_at hl 0 rfl) ?_
  refine lv_ishr hx hb dX11_puts_17 ?_
  refine lv_topi (fun x_12 ex_12 => ?_)
  refine lv_i2b (v := x_12.toInt8.toInt32) hx hb dX11_puts_18 rfl ?_
  generalize x_12.toInt8.toInt32 = x_13
  refine va_bast hx hb hK hP hD hS 1 0 rfl rfl (vp_in_iff.mpr (by decide)) dX11_puts_19 (fun H locs hP hD hS => ?_)
  obtain ⟨f_14, hP, hD⟩ : ∃ f_14 : Nat → Int32, va_P (dC, dI) vwCl [(h0, .inr (11, ((g 0) :: .ref h1 :: .int 10 :: (g 3) :: (g 4) :: (g 5) :: (g 6) :: (g 7) :: (g 8) :: (g 9) :: (g 10) :: (g 11) :: (g 12) :: (g 13) :: (g 14) :: (g 15) :: (g 16) :: (g 17) :: (g 18) :: (g 19) :: (g 20) :: (g 21) :: (g 22) :: (g 23) :: (g 24) :: (g 25) :: (g 26) :: (g 27) :: (g 28) :: (g 29) :: (g 30) :: (g 31) :: (g 32) :: (g 33) :: (g 34) :: (g 35) :: (g 36) :: (g 37) :: (g 38) :: (g 39) :: (g 40) :: (g 41) :: (g 42) :: (g 43) :: (g 44) :: (g 45) :: (g 46) :: (g 47) :: (g 48) :: (g 49) :: (g 50) :: (g 51) :: (g 52) :: (g 53) :: (g 54) :: (g 55) :: (g 56) :: (g 57) :: (g 58) :: (g 59) :: (g 60) :: (g 61) :: (g 62) :: (g 63) :: (g 64) :: (g 65) :: (g 66) :: (g 67) :: (g 68) :: (g 69) :: (g 70) :: (g 71) :: (g 72) :: (g 73) :: (g 74) :: (g 75) :: (g 76) :: (g 77) :: (g 78) :: (g 79) :: (g 80) :: (g 81) :: (g 82) :: (g 83) :: (g 84) :: (g 85) :: (g 86) :: (g 87) :: (g 88) :: (g 89) :: (g 90) :: (g 91) :: (g 92) :: (g 93) :: (g 94) :: []))), (h1, .inl (cA, 1000, .inl f_14))] H ∧ va_D A [(h0, .inr (11, ((g 0) :: .ref h1 :: .int 10 :: (g 3) :: (g 4) :: (g 5) :: (g 6) :: (g 7) :: (g 8) :: (g 9) :: (g 10) :: (g 11) :: (g 12) :: (g 13) :: (g 14) :: (g 15) :: (g 16) :: (g 17) :: (g 18) :: (g 19) :: (g 20) :: (g 21) :: (g 22) :: (g 23) :: (g 24) :: (g 25) :: (g 26) :: (g 27) :: (g 28) :: (g 29) :: (g 30) :: (g 31) :: (g 32) :: (g 33) :: (g 34) :: (g 35) :: (g 36) :: (g 37) :: (g 38) :: (g 39) :: (g 40) :: (g 41) :: (g 42) :: (g 43) :: (g 44) :: (g 45) :: (g 46) :: (g 47) :: (g 48) :: (g 49) :: (g 50) :: (g 51) :: (g 52) :: (g 53) :: (g 54) :: (g 55) :: (g 56) :: (g 57) :: (g 58) :: (g 59) :: (g 60) :: (g 61) :: (g 62) :: (g 63) :: (g 64) :: (g 65) :: (g 66) :: (g 67) :: (g 68) :: (g 69) :: (g 70) :: (g 71) :: (g 72) :: (g 73) :: (g 74) :: (g 75) :: (g 76) :: (g 77) :: (g 78) :: (g 79) :: (g 80) :: (g 81) :: (g 82) :: (g 83) :: (g 84) :: (g 85) :: (g 86) :: (g 87) :: (g 88) :: (g 89) :: (g 90) :: (g 91) :: (g 92) :: (g 93) :: (g 94) :: []))), (h1, .inl (cA, 1000, .inl f_14))] := ⟨_, hP, hD⟩
  refine lv_aload_n hx hb dX11_puts_20 rfl (lv_at hl 1 rfl) ?_
  refine lv_dup hx hb dX11_puts_21 rfl ?_
  refine va_get (D := (dC, dI)) (ci := 11) (v := .int 10) (C := RX11) (T := TX11) (N := 95) hx hb hts inlX11 hown hK hP 0 rfl rfl 2 (by decide) (hts (.fieldLink RX11 182 "ShapeReaderModel" "taped" "I") mw_10_23) (fun _ h9 => h9) rfl dX11_puts_22 ?_
  refine lv_iconst (v := 1) hx hb dX11_puts_25 (by decide) ?_
  refine lv_iadd hx hb dX11_puts_26 ?_
  refine lv_topi (fun k_15 ek_15 => ?_)
  obtain rfl : k_15 = 11 := ek_15.trans (by decide)
  refine va_put (D := (dC, dI)) (ci := 11) (v := .int 11) (ty := .int) (C := RX11) (T := TX11) (N := 95) hx hb hts inlX11 tyX11 tyX11_ok nmX11 hown hK hP hD hS 0 rfl rfl 2 (by decide) (hts (.fieldLink RX11 182 "ShapeReaderModel" "taped" "I") mw_10_23) (fun _ h9 => h9) rfl (by decide +kernel) rfl rfl (Nat.le_of_ble_eq_true rfl) dX11_puts_27 (fun H locs hP hD hS => ?_)
  have hP : va_P (dC, dI) vwCl [(h0, .inr (11, ((g 0) :: .ref h1 :: .int 11 :: (g 3) :: (g 4) :: (g 5) :: (g 6) :: (g 7) :: (g 8) :: (g 9) :: (g 10) :: (g 11) :: (g 12) :: (g 13) :: (g 14) :: (g 15) :: (g 16) :: (g 17) :: (g 18) :: (g 19) :: (g 20) :: (g 21) :: (g 22) :: (g 23) :: (g 24) :: (g 25) :: (g 26) :: (g 27) :: (g 28) :: (g 29) :: (g 30) :: (g 31) :: (g 32) :: (g 33) :: (g 34) :: (g 35) :: (g 36) :: (g 37) :: (g 38) :: (g 39) :: (g 40) :: (g 41) :: (g 42) :: (g 43) :: (g 44) :: (g 45) :: (g 46) :: (g 47) :: (g 48) :: (g 49) :: (g 50) :: (g 51) :: (g 52) :: (g 53) :: (g 54) :: (g 55) :: (g 56) :: (g 57) :: (g 58) :: (g 59) :: (g 60) :: (g 61) :: (g 62) :: (g 63) :: (g 64) :: (g 65) :: (g 66) :: (g 67) :: (g 68) :: (g 69) :: (g 70) :: (g 71) :: (g 72) :: (g 73) :: (g 74) :: (g 75) :: (g 76) :: (g 77) :: (g 78) :: (g 79) :: (g 80) :: (g 81) :: (g 82) :: (g 83) :: (g 84) :: (g 85) :: (g 86) :: (g 87) :: (g 88) :: (g 89) :: (g 90) :: (g 91) :: (g 92) :: (g 93) :: (g 94) :: []))), (h1, .inl (cA, 1000, .inl f_14))] H := hP
  have hD : va_D A [(h0, .inr (11, ((g 0) :: .ref h1 :: .int 11 :: (g 3) :: (g 4) :: (g 5) :: (g 6) :: (g 7) :: (g 8) :: (g 9) :: (g 10) :: (g 11) :: (g 12) :: (g 13) :: (g 14) :: (g 15) :: (g 16) :: (g 17) :: (g 18) :: (g 19) :: (g 20) :: (g 21) :: (g 22) :: (g 23) :: (g 24) :: (g 25) :: (g 26) :: (g 27) :: (g 28) :: (g 29) :: (g 30) :: (g 31) :: (g 32) :: (g 33) :: (g 34) :: (g 35) :: (g 36) :: (g 37) :: (g 38) :: (g 39) :: (g 40) :: (g 41) :: (g 42) :: (g 43) :: (g 44) :: (g 45) :: (g 46) :: (g 47) :: (g 48) :: (g 49) :: (g 50) :: (g 51) :: (g 52) :: (g 53) :: (g 54) :: (g 55) :: (g 56) :: (g 57) :: (g 58) :: (g 59) :: (g 60) :: (g 61) :: (g 62) :: (g 63) :: (g 64) :: (g 65) :: (g 66) :: (g 67) :: (g 68) :: (g 69) :: (g 70) :: (g 71) :: (g 72) :: (g 73) :: (g 74) :: (g 75) :: (g 76) :: (g 77) :: (g 78) :: (g 79) :: (g 80) :: (g 81) :: (g 82) :: (g 83) :: (g 84) :: (g 85) :: (g 86) :: (g 87) :: (g 88) :: (g 89) :: (g 90) :: (g 91) :: (g 92) :: (g 93) :: (g 94) :: []))), (h1, .inl (cA, 1000, .inl f_14))] := hD
  refine lv_iinc (v := 0) (lv' := [(2, .int 0), (0, .ref h0), (1, .int p0)]) hx hb dX11_puts_30 hl (k := 0) rfl (by decide) (by decide) rfl (fun ls hl => ?_)
  refine lv_goto (tgt := 3) hx hb dX11_puts_33 (by decide) ?_
  refine lv_iload_n hx hb dX11_puts_3 rfl (lv_at hl 0 rfl) ?_
  refine lv_if_lt (tgt := 36) hx hb dX11_puts_4 (by decide) (fun h => absurd h (by decide)) (fun _ => ?_)
  refine lv_aload_n hx hb dX11_puts_7 rfl (lv_at hl 1 rfl) ?_
  refine va_get (D := (dC, dI)) (ci := 11) (v := .ref h1) (C := RX11) (T := TX11) (N := 95) hx hb hts inlX11 hown hK hP 0 rfl rfl 1 (by decide) (hts (.fieldLink RX11 7 "ShapeReaderModel" "tape" "[B") mw_8_27) (fun _ h9 => h9) rfl dX11_puts_8 ?_
  refine lv_aload_n hx hb dX11_puts_11 rfl (lv_at hl 1 rfl) ?_
  refine va_get (D := (dC, dI)) (ci := 11) (v := .int 11) (C := RX11) (T := TX11) (N := 95) hx hb hts inlX11 hown hK hP 0 rfl rfl 2 (by decide) (hts (.fieldLink RX11 182 "ShapeReaderModel" "taped" "I") mw_10_23) (fun _ h9 => h9) rfl dX11_puts_12 ?_
  refine lv_iload_n hx hb dX11_puts_15 rfl (lv_at hl 2 rfl) ?_
  refine lv_iload_n hx hb dX11_puts_16 rfl (lv_at hl 0 rfl) ?_
  refine lv_ishr hx hb dX11_puts_17 ?_
  refine lv_topi (fun x_17 ex_17 => ?_)
  refine lv_i2b (v := x_17.toInt8.toInt32) hx hb dX11_puts_18 rfl ?_
  generalize x_17.toInt8.toInt32 = x_18
  refine va_bast hx hb hK hP hD hS 1 0 rfl rfl (vp_in_iff.mpr (by decide)) dX11_puts_19 (fun H locs hP hD hS => ?_)
  obtain ⟨f_19, hP, hD⟩ : ∃ f_19 : Nat → Int32, va_P (dC, dI) vwCl [(h0, .inr (11, ((g 0) :: .ref h1 :: .int 11 :: (g 3) :: (g 4) :: (g 5) :: (g 6) :: (g 7) :: (g 8) :: (g 9) :: (g 10) :: (g 11) :: (g 12) :: (g 13) :: (g 14) :: (g 15) :: (g 16) :: (g 17) :: (g 18) :: (g 19) :: (g 20) :: (g 21) :: (g 22) :: (g 23) :: (g 24) :: (g 25) :: (g 26) :: (g 27) :: (g 28) :: (g 29) :: (g 30) :: (g 31) :: (g 32) :: (g 33) :: (g 34) :: (g 35) :: (g 36) :: (g 37) :: (g 38) :: (g 39) :: (g 40) :: (g 41) :: (g 42) :: (g 43) :: (g 44) :: (g 45) :: (g 46) :: (g 47) :: (g 48) :: (g 49) :: (g 50) :: (g 51) :: (g 52) :: (g 53) :: (g 54) :: (g 55) :: (g 56) :: (g 57) :: (g 58) :: (g 59) :: (g 60) :: (g 61) :: (g 62) :: (g 63) :: (g 64) :: (g 65) :: (g 66) :: (g 67) :: (g 68) :: (g 69) :: (g 70) :: (g 71) :: (g 72) :: (g 73) :: (g 74) :: (g 75) :: (g 76) :: (g 77) :: (g 78) :: (g 79) :: (g 80) :: (g 81) :: (g 82) :: (g 83) :: (g 84) :: (g 85) :: (g 86) :: (g 87) :: (g 88) :: (g 89) :: (g 90) :: (g 91) :: (g 92) :: (g 93) :: (g 94) :: []))), (h1, .inl (cA, 1000, .inl f_19))] H ∧ va_D A [(h0, .inr (11, ((g 0) :: .ref h1 :: .int 11 :: (g 3) :: (g 4) :: (g 5) :: (g 6) :: (g 7) :: (g 8) :: (g 9) :: (g 10) :: (g 11) :: (g 12) :: (g 13) :: (g 14) :: (g 15) :: (g 16) :: (g 17) :: (g 18) :: (g 19) :: (g 20) :: (g 21) :: (g 22) :: (g 23) :: (g 24) :: (g 25) :: (g 26) :: (g 27) :: (g 28) :: (g 29) :: (g 30) :: (g 31) :: (g 32) :: (g 33) :: (g 34) :: (g 35) :: (g 36) :: (g 37) :: (g 38) :: (g 39) :: (g 40) :: (g 41) :: (g 42) :: (g 43) :: (g 44) :: (g 45) :: (g 46) :: (g 47) :: (g 48) :: (g 49) :: (g 50) :: (g 51) :: (g 52) :: (g 53) :: (g 54) :: (g 55) :: (g 56) :: (g 57) :: (g 58) :: (g 59) :: (g 60) :: (g 61) :: (g 62) :: (g 63) :: (g 64) :: (g 65) :: (g 66) :: (g 67) :: (g 68) :: (g 69) :: (g 70) :: (g 71) :: (g 72) :: (g 73) :: (g 74) :: (g 75) :: (g 76) :: (g 77) :: (g 78) :: (g 79) :: (g 80) :: (g 81) :: (g 82) :: (g 83) :: (g 84) :: (g 85) :: (g 86) :: (g 87) :: (g 88) :: (g 89) :: (g 90) :: (g 91) :: (g 92) :: (g 93) :: (g 94) :: []))), (h1, .inl (cA, 1000, .inl f_19))] := ⟨_, hP, hD⟩
  refine lv_aload_n hx hb dX11_puts_20 rfl (lv_at hl 1 rfl) ?_
  refine lv_dup hx hb dX11_puts_21 rfl ?_
  refine va_get (D := (dC, dI)) (ci := 11) (v := .int 11) (C := RX11) (T := TX11) (N := 95) hx hb hts inlX11 hown hK hP 0 rfl rfl 2 (by decide) (hts (.fieldLink RX11 182 "ShapeReaderModel" "taped" "I") mw_10_23) (fun _ h9 => h9) rfl dX11_puts_22 ?_
  refine lv_iconst (v := 1) hx hb dX11_puts_25 (by decide) ?_
  refine lv_iadd hx hb dX11_puts_26 ?_
  refine lv_topi (fun k_20 ek_20 => ?_)
  obtain rfl : k_20 = 12 := ek_20.trans (by decide)
  refine va_put (D := (dC, dI)) (ci := 11) (v := .int 12) (ty := .int) (C := RX11) (T := TX11) (N := 95) hx hb hts inlX11 tyX11 tyX11_ok nmX11 hown hK hP hD hS 0 rfl rfl 2 (by decide) (hts (.fieldLink RX11 182 "ShapeReaderModel" "taped" "I") mw_10_23) (fun _ h9 => h9) rfl (by decide +kernel) rfl rfl (Nat.le_of_ble_eq_true rfl) dX11_puts_27 (fun H locs hP hD hS => ?_)
  have hP : va_P (dC, dI) vwCl [(h0, .inr (11, ((g 0) :: .ref h1 :: .int 12 :: (g 3) :: (g 4) :: (g 5) :: (g 6) :: (g 7) :: (g 8) :: (g 9) :: (g 10) :: (g 11) :: (g 12) :: (g 13) :: (g 14) :: (g 15) :: (g 16) :: (g 17) :: (g 18) :: (g 19) :: (g 20) :: (g 21) :: (g 22) :: (g 23) :: (g 24) :: (g 25) :: (g 26) :: (g 27) :: (g 28) :: (g 29) :: (g 30) :: (g 31) :: (g 32) :: (g 33) :: (g 34) :: (g 35) :: (g 36) :: (g 37) :: (g 38) :: (g 39) :: (g 40) :: (g 41) :: (g 42) :: (g 43) :: (g 44) :: (g 45) :: (g 46) :: (g 47) :: (g 48) :: (g 49) :: (g 50) :: (g 51) :: (g 52) :: (g 53) :: (g 54) :: (g 55) :: (g 56) :: (g 57) :: (g 58) :: (g 59) :: (g 60) :: (g 61) :: (g 62) :: (g 63) :: (g 64) :: (g 65) :: (g 66) :: (g 67) :: (g 68) :: (g 69) :: (g 70) :: (g 71) :: (g 72) :: (g 73) :: (g 74) :: (g 75) :: (g 76) :: (g 77) :: (g 78) :: (g 79) :: (g 80) :: (g 81) :: (g 82) :: (g 83) :: (g 84) :: (g 85) :: (g 86) :: (g 87) :: (g 88) :: (g 89) :: (g 90) :: (g 91) :: (g 92) :: (g 93) :: (g 94) :: []))), (h1, .inl (cA, 1000, .inl f_19))] H := hP
  have hD : va_D A [(h0, .inr (11, ((g 0) :: .ref h1 :: .int 12 :: (g 3) :: (g 4) :: (g 5) :: (g 6) :: (g 7) :: (g 8) :: (g 9) :: (g 10) :: (g 11) :: (g 12) :: (g 13) :: (g 14) :: (g 15) :: (g 16) :: (g 17) :: (g 18) :: (g 19) :: (g 20) :: (g 21) :: (g 22) :: (g 23) :: (g 24) :: (g 25) :: (g 26) :: (g 27) :: (g 28) :: (g 29) :: (g 30) :: (g 31) :: (g 32) :: (g 33) :: (g 34) :: (g 35) :: (g 36) :: (g 37) :: (g 38) :: (g 39) :: (g 40) :: (g 41) :: (g 42) :: (g 43) :: (g 44) :: (g 45) :: (g 46) :: (g 47) :: (g 48) :: (g 49) :: (g 50) :: (g 51) :: (g 52) :: (g 53) :: (g 54) :: (g 55) :: (g 56) :: (g 57) :: (g 58) :: (g 59) :: (g 60) :: (g 61) :: (g 62) :: (g 63) :: (g 64) :: (g 65) :: (g 66) :: (g 67) :: (g 68) :: (g 69) :: (g 70) :: (g 71) :: (g 72) :: (g 73) :: (g 74) :: (g 75) :: (g 76) :: (g 77) :: (g 78) :: (g 79) :: (g 80) :: (g 81) :: (g 82) :: (g 83) :: (g 84) :: (g 85) :: (g 86) :: (g 87) :: (g 88) :: (g 89) :: (g 90) :: (g 91) :: (g 92) :: (g 93) :: (g 94) :: []))), (h1, .inl (cA, 1000, .inl f_19))] := hD
  refine lv_iinc (v := (-8)) (lv' := [(2, .int (-8)), (0, .ref h0), (1, .int p0)]) hx hb dX11_puts_30 hl (k := 0) rfl (by decide) (by decide) rfl (fun ls hl => ?_)
  refine lv_goto (tgt := 3) hx hb dX11_puts_33 (by decide) ?_
  refine lv_iload_n hx hb dX11_puts_3 rfl (lv_at hl 0 rfl) ?_
  refine lv_if_lt (tgt := 36) hx hb dX11_puts_4 (by decide) (fun _ => ?_) (fun h => absurd (by decide) h)
  have hP9 := hP.sub (ws' := [(h0, .inr (11, ((g 0) :: .ref h1 :: .int 12 :: (g 3) :: (g 4) :: (g 5) :: (g 6) :: (g 7) :: (g 8) :: (g 9) :: (g 10) :: (g 11) :: (g 12) :: (g 13) :: (g 14) :: (g 15) :: (g 16) :: (g 17) :: (g 18) :: (g 19) :: (g 20) :: (g 21) :: (g 22) :: (g 23) :: (g 24) :: (g 25) :: (g 26) :: (g 27) :: (g 28) :: (g 29) :: (g 30) :: (g 31) :: (g 32) :: (g 33) :: (g 34) :: (g 35) :: (g 36) :: (g 37) :: (g 38) :: (g 39) :: (g 40) :: (g 41) :: (g 42) :: (g 43) :: (g 44) :: (g 45) :: (g 46) :: (g 47) :: (g 48) :: (g 49) :: (g 50) :: (g 51) :: (g 52) :: (g 53) :: (g 54) :: (g 55) :: (g 56) :: (g 57) :: (g 58) :: (g 59) :: (g 60) :: (g 61) :: (g 62) :: (g 63) :: (g 64) :: (g 65) :: (g 66) :: (g 67) :: (g 68) :: (g 69) :: (g 70) :: (g 71) :: (g 72) :: (g 73) :: (g 74) :: (g 75) :: (g 76) :: (g 77) :: (g 78) :: (g 79) :: (g 80) :: (g 81) :: (g 82) :: (g 83) :: (g 84) :: (g 85) :: (g 86) :: (g 87) :: (g 88) :: (g 89) :: (g 90) :: (g 91) :: (g 92) :: (g 93) :: (g 94) :: []))), (h1, .inl (cA, 1000, .inl f_19))]) [0, 1] rfl
  have hD9 := hD.sub (ws' := [(h0, .inr (11, ((g 0) :: .ref h1 :: .int 12 :: (g 3) :: (g 4) :: (g 5) :: (g 6) :: (g 7) :: (g 8) :: (g 9) :: (g 10) :: (g 11) :: (g 12) :: (g 13) :: (g 14) :: (g 15) :: (g 16) :: (g 17) :: (g 18) :: (g 19) :: (g 20) :: (g 21) :: (g 22) :: (g 23) :: (g 24) :: (g 25) :: (g 26) :: (g 27) :: (g 28) :: (g 29) :: (g 30) :: (g 31) :: (g 32) :: (g 33) :: (g 34) :: (g 35) :: (g 36) :: (g 37) :: (g 38) :: (g 39) :: (g 40) :: (g 41) :: (g 42) :: (g 43) :: (g 44) :: (g 45) :: (g 46) :: (g 47) :: (g 48) :: (g 49) :: (g 50) :: (g 51) :: (g 52) :: (g 53) :: (g 54) :: (g 55) :: (g 56) :: (g 57) :: (g 58) :: (g 59) :: (g 60) :: (g 61) :: (g 62) :: (g 63) :: (g 64) :: (g 65) :: (g 66) :: (g 67) :: (g 68) :: (g 69) :: (g 70) :: (g 71) :: (g 72) :: (g 73) :: (g 74) :: (g 75) :: (g 76) :: (g 77) :: (g 78) :: (g 79) :: (g 80) :: (g 81) :: (g 82) :: (g 83) :: (g 84) :: (g 85) :: (g 86) :: (g 87) :: (g 88) :: (g 89) :: (g 90) :: (g 91) :: (g 92) :: (g 93) :: (g 94) :: []))), (h1, .inl (cA, 1000, .inl f_19))]) [0, 1] (by decide) rfl
  have hK9 := hK.sub (tys' := [(cA, .byte)]) [0] rfl
  refine W.widen (k := 0) (n := 0) (Nat.le_of_ble_eq_true rfl) (Nat.le_of_ble_eq_true rfl) ?_
  exact W.vret hx hb hr (fun t ht hW => ⟨⟨(), rfl, trivial, f_19, by rw [ht]; exact hP9, va_K.moved hW.alike hK9, hD9⟩, hS.F ht⟩) hS.2.2 dX11_puts_36

set_option maxRecDepth 100000 in
set_option maxHeartbeats 4000000 in
theorem c_puts12 (l : Launch) (dC : Nat → ClassId) (dI : Nat → Nat → Nat) (h0 : Nat) (h1 : Nat) (cA : ClassId) (f : Nat → Int32) (g : Nat → Value) (p0 : Int32) (sz : Nat) : Met l yX11_puts (.code yX11_puts cX11_puts 3 none :: pw) ({ frames := 0, cells := 0, slots := 0, locals := 0 }) (va_Pc [.ref h0, .int p0] (vPre dC dI [(h0, .inr (11, ((g 0) :: .ref h1 :: .int 12 :: (g 3) :: (g 4) :: (g 5) :: (g 6) :: (g 7) :: (g 8) :: (g 9) :: (g 10) :: (g 11) :: (g 12) :: (g 13) :: (g 14) :: (g 15) :: (g 16) :: (g 17) :: (g 18) :: (g 19) :: (g 20) :: (g 21) :: (g 22) :: (g 23) :: (g 24) :: (g 25) :: (g 26) :: (g 27) :: (g 28) :: (g 29) :: (g 30) :: (g 31) :: (g 32) :: (g 33) :: (g 34) :: (g 35) :: (g 36) :: (g 37) :: (g 38) :: (g 39) :: (g 40) :: (g 41) :: (g 42) :: (g 43) :: (g 44) :: (g 45) :: (g 46) :: (g 47) :: (g 48) :: (g 49) :: (g 50) :: (g 51) :: (g 52) :: (g 53) :: (g 54) :: (g 55) :: (g 56) :: (g 57) :: (g 58) :: (g 59) :: (g 60) :: (g 61) :: (g 62) :: (g 63) :: (g 64) :: (g 65) :: (g 66) :: (g 67) :: (g 68) :: (g 69) :: (g 70) :: (g 71) :: (g 72) :: (g 73) :: (g 74) :: (g 75) :: (g 76) :: (g 77) :: (g 78) :: (g 79) :: (g 80) :: (g 81) :: (g 82) :: (g 83) :: (g 84) :: (g 85) :: (g 86) :: (g 87) :: (g 88) :: (g 89) :: (g 90) :: (g 91) :: (g 92) :: (g 93) :: (g 94) :: []))), (h1, .inl (cA, 1000, .inl f))] [(cA, .byte)] sz)) (va_Qv (fun (_ : Unit) => True) (fun (_ : Unit) t => ∃ (f9 : Nat → Int32), vPst dC dI (va_A [(h0, .inr (11, ((g 0) :: .ref h1 :: .int 12 :: (g 3) :: (g 4) :: (g 5) :: (g 6) :: (g 7) :: (g 8) :: (g 9) :: (g 10) :: (g 11) :: (g 12) :: (g 13) :: (g 14) :: (g 15) :: (g 16) :: (g 17) :: (g 18) :: (g 19) :: (g 20) :: (g 21) :: (g 22) :: (g 23) :: (g 24) :: (g 25) :: (g 26) :: (g 27) :: (g 28) :: (g 29) :: (g 30) :: (g 31) :: (g 32) :: (g 33) :: (g 34) :: (g 35) :: (g 36) :: (g 37) :: (g 38) :: (g 39) :: (g 40) :: (g 41) :: (g 42) :: (g 43) :: (g 44) :: (g 45) :: (g 46) :: (g 47) :: (g 48) :: (g 49) :: (g 50) :: (g 51) :: (g 52) :: (g 53) :: (g 54) :: (g 55) :: (g 56) :: (g 57) :: (g 58) :: (g 59) :: (g 60) :: (g 61) :: (g 62) :: (g 63) :: (g 64) :: (g 65) :: (g 66) :: (g 67) :: (g 68) :: (g 69) :: (g 70) :: (g 71) :: (g 72) :: (g 73) :: (g 74) :: (g 75) :: (g 76) :: (g 77) :: (g 78) :: (g 79) :: (g 80) :: (g 81) :: (g 82) :: (g 83) :: (g 84) :: (g 85) :: (g 86) :: (g 87) :: (g 88) :: (g 89) :: (g 90) :: (g 91) :: (g 92) :: (g 93) :: (g 94) :: []))), (h1, .inl (cA, 1000, .inl f))] sz) [(h0, .inr (11, ((g 0) :: .ref h1 :: .int 16 :: (g 3) :: (g 4) :: (g 5) :: (g 6) :: (g 7) :: (g 8) :: (g 9) :: (g 10) :: (g 11) :: (g 12) :: (g 13) :: (g 14) :: (g 15) :: (g 16) :: (g 17) :: (g 18) :: (g 19) :: (g 20) :: (g 21) :: (g 22) :: (g 23) :: (g 24) :: (g 25) :: (g 26) :: (g 27) :: (g 28) :: (g 29) :: (g 30) :: (g 31) :: (g 32) :: (g 33) :: (g 34) :: (g 35) :: (g 36) :: (g 37) :: (g 38) :: (g 39) :: (g 40) :: (g 41) :: (g 42) :: (g 43) :: (g 44) :: (g 45) :: (g 46) :: (g 47) :: (g 48) :: (g 49) :: (g 50) :: (g 51) :: (g 52) :: (g 53) :: (g 54) :: (g 55) :: (g 56) :: (g 57) :: (g 58) :: (g 59) :: (g 60) :: (g 61) :: (g 62) :: (g 63) :: (g 64) :: (g 65) :: (g 66) :: (g 67) :: (g 68) :: (g 69) :: (g 70) :: (g 71) :: (g 72) :: (g 73) :: (g 74) :: (g 75) :: (g 76) :: (g 77) :: (g 78) :: (g 79) :: (g 80) :: (g 81) :: (g 82) :: (g 83) :: (g 84) :: (g 85) :: (g 86) :: (g 87) :: (g 88) :: (g 89) :: (g 90) :: (g 91) :: (g 92) :: (g 93) :: (g 94) :: []))), (h1, .inl (cA, 1000, .inl f9))] [(cA, .byte)] t) (va_A [(h0, .inr (11, ((g 0) :: .ref h1 :: .int 12 :: (g 3) :: (g 4) :: (g 5) :: (g 6) :: (g 7) :: (g 8) :: (g 9) :: (g 10) :: (g 11) :: (g 12) :: (g 13) :: (g 14) :: (g 15) :: (g 16) :: (g 17) :: (g 18) :: (g 19) :: (g 20) :: (g 21) :: (g 22) :: (g 23) :: (g 24) :: (g 25) :: (g 26) :: (g 27) :: (g 28) :: (g 29) :: (g 30) :: (g 31) :: (g 32) :: (g 33) :: (g 34) :: (g 35) :: (g 36) :: (g 37) :: (g 38) :: (g 39) :: (g 40) :: (g 41) :: (g 42) :: (g 43) :: (g 44) :: (g 45) :: (g 46) :: (g 47) :: (g 48) :: (g 49) :: (g 50) :: (g 51) :: (g 52) :: (g 53) :: (g 54) :: (g 55) :: (g 56) :: (g 57) :: (g 58) :: (g 59) :: (g 60) :: (g 61) :: (g 62) :: (g 63) :: (g 64) :: (g 65) :: (g 66) :: (g 67) :: (g 68) :: (g 69) :: (g 70) :: (g 71) :: (g 72) :: (g 73) :: (g 74) :: (g 75) :: (g 76) :: (g 77) :: (g 78) :: (g 79) :: (g 80) :: (g 81) :: (g 82) :: (g 83) :: (g 84) :: (g 85) :: (g 86) :: (g 87) :: (g 88) :: (g 89) :: (g 90) :: (g 91) :: (g 92) :: (g 93) :: (g 94) :: []))), (h1, .inl (cA, 1000, .inl f))] sz)) 0 0 (va_A [(h0, .inr (11, ((g 0) :: .ref h1 :: .int 12 :: (g 3) :: (g 4) :: (g 5) :: (g 6) :: (g 7) :: (g 8) :: (g 9) :: (g 10) :: (g 11) :: (g 12) :: (g 13) :: (g 14) :: (g 15) :: (g 16) :: (g 17) :: (g 18) :: (g 19) :: (g 20) :: (g 21) :: (g 22) :: (g 23) :: (g 24) :: (g 25) :: (g 26) :: (g 27) :: (g 28) :: (g 29) :: (g 30) :: (g 31) :: (g 32) :: (g 33) :: (g 34) :: (g 35) :: (g 36) :: (g 37) :: (g 38) :: (g 39) :: (g 40) :: (g 41) :: (g 42) :: (g 43) :: (g 44) :: (g 45) :: (g 46) :: (g 47) :: (g 48) :: (g 49) :: (g 50) :: (g 51) :: (g 52) :: (g 53) :: (g 54) :: (g 55) :: (g 56) :: (g 57) :: (g 58) :: (g 59) :: (g 60) :: (g 61) :: (g 62) :: (g 63) :: (g 64) :: (g 65) :: (g 66) :: (g 67) :: (g 68) :: (g 69) :: (g 70) :: (g 71) :: (g 72) :: (g 73) :: (g 74) :: (g 75) :: (g 76) :: (g 77) :: (g 78) :: (g 79) :: (g 80) :: (g 81) :: (g 82) :: (g 83) :: (g 84) :: (g 85) :: (g 86) :: (g 87) :: (g 88) :: (g 89) :: (g 90) :: (g 91) :: (g 92) :: (g 93) :: (g 94) :: []))), (h1, .inl (cA, 1000, .inl f))] sz) := by
  refine Met.ofW (cc := cX11_puts) (maxL := 3) (ret := none) (by decide) rfl ?_
  intro p e s m args below meth c s₁ B hml hv
  obtain ⟨rfl, hsz, hP, hK, hD0⟩ := hv
  have hx := B.exec
  have hb := B.bytes
  have hr := B.returns
  have hts := atoms_spec (ws := .code yX11_puts cX11_puts 3 none :: pw) B.pre
  have hts : ∀ w ∈ pw, w.before _ s = true := fun w h => hts w (List.mem_cons_of_mem _ h)
  have hown : s.vm.findClass RX11 = some m.cls := findClass_of_methodNamed B.named
  have hlocks := B.notSynchronized
  subst hsz
  have hD := hD0.self (sz := s.heap.size)
  generalize hAe : va_A [(h0, .inr (11, ((g 0) :: .ref h1 :: .int 12 :: (g 3) :: (g 4) :: (g 5) :: (g 6) :: (g 7) :: (g 8) :: (g 9) :: (g 10) :: (g 11) :: (g 12) :: (g 13) :: (g 14) :: (g 15) :: (g 16) :: (g 17) :: (g 18) :: (g 19) :: (g 20) :: (g 21) :: (g 22) :: (g 23) :: (g 24) :: (g 25) :: (g 26) :: (g 27) :: (g 28) :: (g 29) :: (g 30) :: (g 31) :: (g 32) :: (g 33) :: (g 34) :: (g 35) :: (g 36) :: (g 37) :: (g 38) :: (g 39) :: (g 40) :: (g 41) :: (g 42) :: (g 43) :: (g 44) :: (g 45) :: (g 46) :: (g 47) :: (g 48) :: (g 49) :: (g 50) :: (g 51) :: (g 52) :: (g 53) :: (g 54) :: (g 55) :: (g 56) :: (g 57) :: (g 58) :: (g 59) :: (g 60) :: (g 61) :: (g 62) :: (g 63) :: (g 64) :: (g 65) :: (g 66) :: (g 67) :: (g 68) :: (g 69) :: (g 70) :: (g 71) :: (g 72) :: (g 73) :: (g 74) :: (g 75) :: (g 76) :: (g 77) :: (g 78) :: (g 79) :: (g 80) :: (g 81) :: (g 82) :: (g 83) :: (g 84) :: (g 85) :: (g 86) :: (g 87) :: (g 88) :: (g 89) :: (g 90) :: (g 91) :: (g 92) :: (g 93) :: (g 94) :: []))), (h1, .inl (cA, 1000, .inl f))] s.heap.size = A at hD ⊢
  have hA : ∀ q : Nat, s.heap.size ≤ q → A q := fun q h => by rw [← hAe]; exact Or.inr h
  have hS : va_S A s.heap s.heap [] := va_S.rf
  have hP : va_P (dC, dI) vwCl [(h0, .inr (11, ((g 0) :: .ref h1 :: .int 12 :: (g 3) :: (g 4) :: (g 5) :: (g 6) :: (g 7) :: (g 8) :: (g 9) :: (g 10) :: (g 11) :: (g 12) :: (g 13) :: (g 14) :: (g 15) :: (g 16) :: (g 17) :: (g 18) :: (g 19) :: (g 20) :: (g 21) :: (g 22) :: (g 23) :: (g 24) :: (g 25) :: (g 26) :: (g 27) :: (g 28) :: (g 29) :: (g 30) :: (g 31) :: (g 32) :: (g 33) :: (g 34) :: (g 35) :: (g 36) :: (g 37) :: (g 38) :: (g 39) :: (g 40) :: (g 41) :: (g 42) :: (g 43) :: (g 44) :: (g 45) :: (g 46) :: (g 47) :: (g 48) :: (g 49) :: (g 50) :: (g 51) :: (g 52) :: (g 53) :: (g 54) :: (g 55) :: (g 56) :: (g 57) :: (g 58) :: (g 59) :: (g 60) :: (g 61) :: (g 62) :: (g 63) :: (g 64) :: (g 65) :: (g 66) :: (g 67) :: (g 68) :: (g 69) :: (g 70) :: (g 71) :: (g 72) :: (g 73) :: (g 74) :: (g 75) :: (g 76) :: (g 77) :: (g 78) :: (g 79) :: (g 80) :: (g 81) :: (g 82) :: (g 83) :: (g 84) :: (g 85) :: (g 86) :: (g 87) :: (g 88) :: (g 89) :: (g 90) :: (g 91) :: (g 92) :: (g 93) :: (g 94) :: []))), (h1, .inl (cA, 1000, .inl f))] s.heap := hP
  have hl := lv_entry ([.ref h0, .int p0]) (n := 3) (Nat.le_of_ble_eq_true rfl)
  rw [lg_entry_eq]
  generalize (lg_sl ([.ref h0, .int p0]) ++ List.replicate (3 - (lg_sl ([.ref h0, .int p0])).length) Slot.unset).toArray = ls at hl ⊢
  have hl : lv_has ls 3 [(0, .ref h0), (1, .int p0)] := hl
  refine lv_bipush (v := 24) hx hb dX11_puts_0 (by decide) ?_
  refine lv_istore_n (lv' := [(2, .int 24), (0, .ref h0), (1, .int p0)]) hx hb dX11_puts_2 rfl hl (by decide) rfl (fun ls hl => ?_)
  refine lv_iload_n hx hb dX11_puts_3 rfl (lv_at hl 0 rfl) ?_
  refine lv_if_lt (tgt := 36) hx hb dX11_puts_4 (by decide) (fun h => absurd h (by decide)) (fun _ => ?_)
  refine lv_aload_n hx hb dX11_puts_7 rfl (lv_at hl 1 rfl) ?_
  refine va_get (D := (dC, dI)) (ci := 11) (v := .ref h1) (C := RX11) (T := TX11) (N := 95) hx hb hts inlX11 hown hK hP 0 rfl rfl 1 (by decide) (hts (.fieldLink RX11 7 "ShapeReaderModel" "tape" "[B") mw_8_27) (fun _ h9 => h9) rfl dX11_puts_8 ?_
  refine lv_aload_n hx hb dX11_puts_11 rfl (lv_at hl 1 rfl) ?_
  refine va_get (D := (dC, dI)) (ci := 11) (v := .int 12) (C := RX11) (T := TX11) (N := 95) hx hb hts inlX11 hown hK hP 0 rfl rfl 2 (by decide) (hts (.fieldLink RX11 182 "ShapeReaderModel" "taped" "I") mw_10_23) (fun _ h9 => h9) rfl dX11_puts_12 ?_
  refine lv_iload_n hx hb dX11_puts_15 rfl (lv_at hl 2 rfl) ?_
  refine lv_iload_n hx hb dX11_puts_16 rfl (lv_at hl 0 rfl) ?_
  refine lv_ishr hx hb dX11_puts_17 ?_
  refine lv_topi (fun x_2 ex_2 => ?_)
  refine lv_i2b (v := x_2.toInt8.toInt32) hx hb dX11_puts_18 rfl ?_
  generalize x_2.toInt8.toInt32 = x_3
  refine va_bast hx hb hK hP hD hS 1 0 rfl rfl (vp_in_iff.mpr (by decide)) dX11_puts_19 (fun H locs hP hD hS => ?_)
  obtain ⟨f_4, hP, hD⟩ : ∃ f_4 : Nat → Int32, va_P (dC, dI) vwCl [(h0, .inr (11, ((g 0) :: .ref h1 :: .int 12 :: (g 3) :: (g 4) :: (g 5) :: (g 6) :: (g 7) :: (g 8) :: (g 9) :: (g 10) :: (g 11) :: (g 12) :: (g 13) :: (g 14) :: (g 15) :: (g 16) :: (g 17) :: (g 18) :: (g 19) :: (g 20) :: (g 21) :: (g 22) :: (g 23) :: (g 24) :: (g 25) :: (g 26) :: (g 27) :: (g 28) :: (g 29) :: (g 30) :: (g 31) :: (g 32) :: (g 33) :: (g 34) :: (g 35) :: (g 36) :: (g 37) :: (g 38) :: (g 39) :: (g 40) :: (g 41) :: (g 42) :: (g 43) :: (g 44) :: (g 45) :: (g 46) :: (g 47) :: (g 48) :: (g 49) :: (g 50) :: (g 51) :: (g 52) :: (g 53) :: (g 54) :: (g 55) :: (g 56) :: (g 57) :: (g 58) :: (g 59) :: (g 60) :: (g 61) :: (g 62) :: (g 63) :: (g 64) :: (g 65) :: (g 66) :: (g 67) :: (g 68) :: (g 69) :: (g 70) :: (g 71) :: (g 72) :: (g 73) :: (g 74) :: (g 75) :: (g 76) :: (g 77) :: (g 78) :: (g 79) :: (g 80) :: (g 81) :: (g 82) :: (g 83) :: (g 84) :: (g 85) :: (g 86) :: (g 87) :: (g 88) :: (g 89) :: (g 90) :: (g 91) :: (g 92) :: (g 93) :: (g 94) :: []))), (h1, .inl (cA, 1000, .inl f_4))] H ∧ va_D A [(h0, .inr (11, ((g 0) :: .ref h1 :: .int 12 :: (g 3) :: (g 4) :: (g 5) :: (g 6) :: (g 7) :: (g 8) :: (g 9) :: (g 10) :: (g 11) :: (g 12) :: (g 13) :: (g 14) :: (g 15) :: (g 16) :: (g 17) :: (g 18) :: (g 19) :: (g 20) :: (g 21) :: (g 22) :: (g 23) :: (g 24) :: (g 25) :: (g 26) :: (g 27) :: (g 28) :: (g 29) :: (g 30) :: (g 31) :: (g 32) :: (g 33) :: (g 34) :: (g 35) :: (g 36) :: (g 37) :: (g 38) :: (g 39) :: (g 40) :: (g 41) :: (g 42) :: (g 43) :: (g 44) :: (g 45) :: (g 46) :: (g 47) :: (g 48) :: (g 49) :: (g 50) :: (g 51) :: (g 52) :: (g 53) :: (g 54) :: (g 55) :: (g 56) :: (g 57) :: (g 58) :: (g 59) :: (g 60) :: (g 61) :: (g 62) :: (g 63) :: (g 64) :: (g 65) :: (g 66) :: (g 67) :: (g 68) :: (g 69) :: (g 70) :: (g 71) :: (g 72) :: (g 73) :: (g 74) :: (g 75) :: (g 76) :: (g 77) :: (g 78) :: (g 79) :: (g 80) :: (g 81) :: (g 82) :: (g 83) :: (g 84) :: (g 85) :: (g 86) :: (g 87) :: (g 88) :: (g 89) :: (g 90) :: (g 91) :: (g 92) :: (g 93) :: (g 94) :: []))), (h1, .inl (cA, 1000, .inl f_4))] := ⟨_, hP, hD⟩
  refine lv_aload_n hx hb dX11_puts_20 rfl (lv_at hl 1 rfl) ?_
  refine lv_dup hx hb dX11_puts_21 rfl ?_
  refine va_get (D := (dC, dI)) (ci := 11) (v := .int 12) (C := RX11) (T := TX11) (N := 95) hx hb hts inlX11 hown hK hP 0 rfl rfl 2 (by decide) (hts (.fieldLink RX11 182 "ShapeReaderModel" "taped" "I") mw_10_23) (fun _ h9 => h9) rfl dX11_puts_22 ?_
  refine lv_iconst (v := 1) hx hb dX11_puts_25 (by decide) ?_
  refine lv_iadd hx hb dX11_puts_26 ?_
  refine lv_topi (fun k_5 ek_5 => ?_)
  obtain rfl : k_5 = 13 := ek_5.trans (by decide)
  refine va_put (D := (dC, dI)) (ci := 11) (v := .int 13) (ty := .int) (C := RX11) (T := TX11) (N := 95) hx hb hts inlX11 tyX11 tyX11_ok nmX11 hown hK hP hD hS 0 rfl rfl 2 (by decide) (hts (.fieldLink RX11 182 "ShapeReaderModel" "taped" "I") mw_10_23) (fun _ h9 => h9) rfl (by decide +kernel) rfl rfl (Nat.le_of_ble_eq_true rfl) dX11_puts_27 (fun H locs hP hD hS => ?_)
  have hP : va_P (dC, dI) vwCl [(h0, .inr (11, ((g 0) :: .ref h1 :: .int 13 :: (g 3) :: (g 4) :: (g 5) :: (g 6) :: (g 7) :: (g 8) :: (g 9) :: (g 10) :: (g 11) :: (g 12) :: (g 13) :: (g 14) :: (g 15) :: (g 16) :: (g 17) :: (g 18) :: (g 19) :: (g 20) :: (g 21) :: (g 22) :: (g 23) :: (g 24) :: (g 25) :: (g 26) :: (g 27) :: (g 28) :: (g 29) :: (g 30) :: (g 31) :: (g 32) :: (g 33) :: (g 34) :: (g 35) :: (g 36) :: (g 37) :: (g 38) :: (g 39) :: (g 40) :: (g 41) :: (g 42) :: (g 43) :: (g 44) :: (g 45) :: (g 46) :: (g 47) :: (g 48) :: (g 49) :: (g 50) :: (g 51) :: (g 52) :: (g 53) :: (g 54) :: (g 55) :: (g 56) :: (g 57) :: (g 58) :: (g 59) :: (g 60) :: (g 61) :: (g 62) :: (g 63) :: (g 64) :: (g 65) :: (g 66) :: (g 67) :: (g 68) :: (g 69) :: (g 70) :: (g 71) :: (g 72) :: (g 73) :: (g 74) :: (g 75) :: (g 76) :: (g 77) :: (g 78) :: (g 79) :: (g 80) :: (g 81) :: (g 82) :: (g 83) :: (g 84) :: (g 85) :: (g 86) :: (g 87) :: (g 88) :: (g 89) :: (g 90) :: (g 91) :: (g 92) :: (g 93) :: (g 94) :: []))), (h1, .inl (cA, 1000, .inl f_4))] H := hP
  have hD : va_D A [(h0, .inr (11, ((g 0) :: .ref h1 :: .int 13 :: (g 3) :: (g 4) :: (g 5) :: (g 6) :: (g 7) :: (g 8) :: (g 9) :: (g 10) :: (g 11) :: (g 12) :: (g 13) :: (g 14) :: (g 15) :: (g 16) :: (g 17) :: (g 18) :: (g 19) :: (g 20) :: (g 21) :: (g 22) :: (g 23) :: (g 24) :: (g 25) :: (g 26) :: (g 27) :: (g 28) :: (g 29) :: (g 30) :: (g 31) :: (g 32) :: (g 33) :: (g 34) :: (g 35) :: (g 36) :: (g 37) :: (g 38) :: (g 39) :: (g 40) :: (g 41) :: (g 42) :: (g 43) :: (g 44) :: (g 45) :: (g 46) :: (g 47) :: (g 48) :: (g 49) :: (g 50) :: (g 51) :: (g 52) :: (g 53) :: (g 54) :: (g 55) :: (g 56) :: (g 57) :: (g 58) :: (g 59) :: (g 60) :: (g 61) :: (g 62) :: (g 63) :: (g 64) :: (g 65) :: (g 66) :: (g 67) :: (g 68) :: (g 69) :: (g 70) :: (g 71) :: (g 72) :: (g 73) :: (g 74) :: (g 75) :: (g 76) :: (g 77) :: (g 78) :: (g 79) :: (g 80) :: (g 81) :: (g 82) :: (g 83) :: (g 84) :: (g 85) :: (g 86) :: (g 87) :: (g 88) :: (g 89) :: (g 90) :: (g 91) :: (g 92) :: (g 93) :: (g 94) :: []))), (h1, .inl (cA, 1000, .inl f_4))] := hD
  refine lv_iinc (v := 16) (lv' := [(2, .int 16), (0, .ref h0), (1, .int p0)]) hx hb dX11_puts_30 hl (k := 0) rfl (by decide) (by decide) rfl (fun ls hl => ?_)
  refine lv_goto (tgt := 3) hx hb dX11_puts_33 (by decide) ?_
  refine lv_iload_n hx hb dX11_puts_3 rfl (lv_at hl 0 rfl) ?_
  refine lv_if_lt (tgt := 36) hx hb dX11_puts_4 (by decide) (fun h => absurd h (by decide)) (fun _ => ?_)
  refine lv_aload_n hx hb dX11_puts_7 rfl (lv_at hl 1 rfl) ?_
  refine va_get (D := (dC, dI)) (ci := 11) (v := .ref h1) (C := RX11) (T := TX11) (N := 95) hx hb hts inlX11 hown hK hP 0 rfl rfl 1 (by decide) (hts (.fieldLink RX11 7 "ShapeReaderModel" "tape" "[B") mw_8_27) (fun _ h9 => h9) rfl dX11_puts_8 ?_
  refine lv_aload_n hx hb dX11_puts_11 rfl (lv_at hl 1 rfl) ?_
  refine va_get (D := (dC, dI)) (ci := 11) (v := .int 13) (C := RX11) (T := TX11) (N := 95) hx hb hts inlX11 hown hK hP 0 rfl rfl 2 (by decide) (hts (.fieldLink RX11 182 "ShapeReaderModel" "taped" "I") mw_10_23) (fun _ h9 => h9) rfl dX11_puts_12 ?_
  refine lv_iload_n hx hb dX11_puts_15 rfl (lv_at hl 2 rfl) ?_
  refine lv_iload_n hx hb dX11_puts_16 rfl (lv_at hl 0 rfl) ?_
  refine lv_ishr hx hb dX11_puts_17 ?_
  refine lv_topi (fun x_7 ex_7 => ?_)
  refine lv_i2b (v := x_7.toInt8.toInt32) hx hb dX11_puts_18 rfl ?_
  generalize x_7.toInt8.toInt32 = x_8
  refine va_bast hx hb hK hP hD hS 1 0 rfl rfl (vp_in_iff.mpr (by decide)) dX11_puts_19 (fun H locs hP hD hS => ?_)
  obtain ⟨f_9, hP, hD⟩ : ∃ f_9 : Nat → Int32, va_P (dC, dI) vwCl [(h0, .inr (11, ((g 0) :: .ref h1 :: .int 13 :: (g 3) :: (g 4) :: (g 5) :: (g 6) :: (g 7) :: (g 8) :: (g 9) :: (g 10) :: (g 11) :: (g 12) :: (g 13) :: (g 14) :: (g 15) :: (g 16) :: (g 17) :: (g 18) :: (g 19) :: (g 20) :: (g 21) :: (g 22) :: (g 23) :: (g 24) :: (g 25) :: (g 26) :: (g 27) :: (g 28) :: (g 29) :: (g 30) :: (g 31) :: (g 32) :: (g 33) :: (g 34) :: (g 35) :: (g 36) :: (g 37) :: (g 38) :: (g 39) :: (g 40) :: (g 41) :: (g 42) :: (g 43) :: (g 44) :: (g 45) :: (g 46) :: (g 47) :: (g 48) :: (g 49) :: (g 50) :: (g 51) :: (g 52) :: (g 53) :: (g 54) :: (g 55) :: (g 56) :: (g 57) :: (g 58) :: (g 59) :: (g 60) :: (g 61) :: (g 62) :: (g 63) :: (g 64) :: (g 65) :: (g 66) :: (g 67) :: (g 68) :: (g 69) :: (g 70) :: (g 71) :: (g 72) :: (g 73) :: (g 74) :: (g 75) :: (g 76) :: (g 77) :: (g 78) :: (g 79) :: (g 80) :: (g 81) :: (g 82) :: (g 83) :: (g 84) :: (g 85) :: (g 86) :: (g 87) :: (g 88) :: (g 89) :: (g 90) :: (g 91) :: (g 92) :: (g 93) :: (g 94) :: []))), (h1, .inl (cA, 1000, .inl f_9))] H ∧ va_D A [(h0, .inr (11, ((g 0) :: .ref h1 :: .int 13 :: (g 3) :: (g 4) :: (g 5) :: (g 6) :: (g 7) :: (g 8) :: (g 9) :: (g 10) :: (g 11) :: (g 12) :: (g 13) :: (g 14) :: (g 15) :: (g 16) :: (g 17) :: (g 18) :: (g 19) :: (g 20) :: (g 21) :: (g 22) :: (g 23) :: (g 24) :: (g 25) :: (g 26) :: (g 27) :: (g 28) :: (g 29) :: (g 30) :: (g 31) :: (g 32) :: (g 33) :: (g 34) :: (g 35) :: (g 36) :: (g 37) :: (g 38) :: (g 39) :: (g 40) :: (g 41) :: (g 42) :: (g 43) :: (g 44) :: (g 45) :: (g 46) :: (g 47) :: (g 48) :: (g 49) :: (g 50) :: (g 51) :: (g 52) :: (g 53) :: (g 54) :: (g 55) :: (g 56) :: (g 57) :: (g 58) :: (g 59) :: (g 60) :: (g 61) :: (g 62) :: (g 63) :: (g 64) :: (g 65) :: (g 66) :: (g 67) :: (g 68) :: (g 69) :: (g 70) :: (g 71) :: (g 72) :: (g 73) :: (g 74) :: (g 75) :: (g 76) :: (g 77) :: (g 78) :: (g 79) :: (g 80) :: (g 81) :: (g 82) :: (g 83) :: (g 84) :: (g 85) :: (g 86) :: (g 87) :: (g 88) :: (g 89) :: (g 90) :: (g 91) :: (g 92) :: (g 93) :: (g 94) :: []))), (h1, .inl (cA, 1000, .inl f_9))] := ⟨_, hP, hD⟩
  refine lv_aload_n hx hb dX11_puts_20 rfl (lv_at hl 1 rfl) ?_
  refine lv_dup hx hb dX11_puts_21 rfl ?_
  refine va_get (D := (dC, dI)) (ci := 11) (v := .int 13) (C := RX11) (T := TX11) (N := 95) hx hb hts inlX11 hown hK hP 0 rfl rfl 2 (by decide) (hts (.fieldLink RX11 182 "ShapeReaderModel" "taped" "I") mw_10_23) (fun _ h9 => h9) rfl dX11_puts_22 ?_
  refine lv_iconst (v := 1) hx hb dX11_puts_25 (by decide) ?_
  refine lv_iadd hx hb dX11_puts_26 ?_
  refine lv_topi (fun k_10 ek_10 => ?_)
  obtain rfl : k_10 = 14 := ek_10.trans (by decide)
  refine va_put (D := (dC, dI)) (ci := 11) (v := .int 14) (ty := .int) (C := RX11) (T := TX11) (N := 95) hx hb hts inlX11 tyX11 tyX11_ok nmX11 hown hK hP hD hS 0 rfl rfl 2 (by decide) (hts (.fieldLink RX11 182 "ShapeReaderModel" "taped" "I") mw_10_23) (fun _ h9 => h9) rfl (by decide +kernel) rfl rfl (Nat.le_of_ble_eq_true rfl) dX11_puts_27 (fun H locs hP hD hS => ?_)
  have hP : va_P (dC, dI) vwCl [(h0, .inr (11, ((g 0) :: .ref h1 :: .int 14 :: (g 3) :: (g 4) :: (g 5) :: (g 6) :: (g 7) :: (g 8) :: (g 9) :: (g 10) :: (g 11) :: (g 12) :: (g 13) :: (g 14) :: (g 15) :: (g 16) :: (g 17) :: (g 18) :: (g 19) :: (g 20) :: (g 21) :: (g 22) :: (g 23) :: (g 24) :: (g 25) :: (g 26) :: (g 27) :: (g 28) :: (g 29) :: (g 30) :: (g 31) :: (g 32) :: (g 33) :: (g 34) :: (g 35) :: (g 36) :: (g 37) :: (g 38) :: (g 39) :: (g 40) :: (g 41) :: (g 42) :: (g 43) :: (g 44) :: (g 45) :: (g 46) :: (g 47) :: (g 48) :: (g 49) :: (g 50) :: (g 51) :: (g 52) :: (g 53) :: (g 54) :: (g 55) :: (g 56) :: (g 57) :: (g 58) :: (g 59) :: (g 60) :: (g 61) :: (g 62) :: (g 63) :: (g 64) :: (g 65) :: (g 66) :: (g 67) :: (g 68) :: (g 69) :: (g 70) :: (g 71) :: (g 72) :: (g 73) :: (g 74) :: (g 75) :: (g 76) :: (g 77) :: (g 78) :: (g 79) :: (g 80) :: (g 81) :: (g 82) :: (g 83) :: (g 84) :: (g 85) :: (g 86) :: (g 87) :: (g 88) :: (g 89) :: (g 90) :: (g 91) :: (g 92) :: (g 93) :: (g 94) :: []))), (h1, .inl (cA, 1000, .inl f_9))] H := hP
  have hD : va_D A [(h0, .inr (11, ((g 0) :: .ref h1 :: .int 14 :: (g 3) :: (g 4) :: (g 5) :: (g 6) :: (g 7) :: (g 8) :: (g 9) :: (g 10) :: (g 11) :: (g 12) :: (g 13) :: (g 14) :: (g 15) :: (g 16) :: (g 17) :: (g 18) :: (g 19) :: (g 20) :: (g 21) :: (g 22) :: (g 23) :: (g 24) :: (g 25) :: (g 26) :: (g 27) :: (g 28) :: (g 29) :: (g 30) :: (g 31) :: (g 32) :: (g 33) :: (g 34) :: (g 35) :: (g 36) :: (g 37) :: (g 38) :: (g 39) :: (g 40) :: (g 41) :: (g 42) :: (g 43) :: (g 44) :: (g 45) :: (g 46) :: (g 47) :: (g 48) :: (g 49) :: (g 50) :: (g 51) :: (g 52) :: (g 53) :: (g 54) :: (g 55) :: (g 56) :: (g 57) :: (g 58) :: (g 59) :: (g 60) :: (g 61) :: (g 62) :: (g 63) :: (g 64) :: (g 65) :: (g 66) :: (g 67) :: (g 68) :: (g 69) :: (g 70) :: (g 71) :: (g 72) :: (g 73) :: (g 74) :: (g 75) :: (g 76) :: (g 77) :: (g 78) :: (g 79) :: (g 80) :: (g 81) :: (g 82) :: (g 83) :: (g 84) :: (g 85) :: (g 86) :: (g 87) :: (g 88) :: (g 89) :: (g 90) :: (g 91) :: (g 92) :: (g 93) :: (g 94) :: []))), (h1, .inl (cA, 1000, .inl f_9))] := hD
  refine lv_iinc (v := 8) (lv' := [(2, .int 8), (0, .ref h0), (1, .int p0)]) hx hb dX11_puts_30 hl (k := 0) rfl (by decide) (by decide) rfl (fun ls hl => ?_)
  refine lv_goto (tgt := 3) hx hb dX11_puts_33 (by decide) ?_
  refine lv_iload_n hx hb dX11_puts_3 rfl (lv_at hl 0 rfl) ?_
  refine lv_if_lt (tgt := 36) hx hb dX11_puts_4 (by decide) (fun h => absurd h (by decide)) (fun _ => ?_)
  refine lv_aload_n hx hb dX11_puts_7 rfl (lv_at hl 1 rfl) ?_
  refine va_get (D := (dC, dI)) (ci := 11) (v := .ref h1) (C := RX11) (T := TX11) (N := 95) hx hb hts inlX11 hown hK hP 0 rfl rfl 1 (by decide) (hts (.fieldLink RX11 7 "ShapeReaderModel" "tape" "[B") mw_8_27) (fun _ h9 => h9) rfl dX11_puts_8 ?_
  refine lv_aload_n hx hb dX11_puts_11 rfl (lv_at hl 1 rfl) ?_
  refine va_get (D := (dC, dI)) (ci := 11) (v := .int 14) (C := RX11) (T := TX11) (N := 95) hx hb hts inlX11 hown hK hP 0 rfl rfl 2 (by decide) (hts (.fieldLink RX11 182 "ShapeReaderModel" "taped" "I") mw_10_23) (fun _ h9 => h9) rfl dX11_puts_12 ?_
  refine lv_iload_n hx hb dX11_puts_15 rfl (lv_at hl 2 rfl) ?_
  refine lv_iload_n hx hb dX11_puts_16 rfl (lv_at hl 0 rfl) ?_
  refine lv_ishr hx hb dX11_puts_17 ?_
  refine lv_topi (fun x_12 ex_12 => ?_)
  refine lv_i2b (v := x_12.toInt8.toInt32) hx hb dX11_puts_18 rfl ?_
  generalize x_12.toInt8.toInt32 = x_13
  refine va_bast hx hb hK hP hD hS 1 0 rfl rfl (vp_in_iff.mpr (by decide)) dX11_puts_19 (fun H locs hP hD hS => ?_)
  obtain ⟨f_14, hP, hD⟩ : ∃ f_14 : Nat → Int32, va_P (dC, dI) vwCl [(h0, .inr (11, ((g 0) :: .ref h1 :: .int 14 :: (g 3) :: (g 4) :: (g 5) :: (g 6) :: (g 7) :: (g 8) :: (g 9) :: (g 10) :: (g 11) :: (g 12) :: (g 13) :: (g 14) :: (g 15) :: (g 16) :: (g 17) :: (g 18) :: (g 19) :: (g 20) :: (g 21) :: (g 22) :: (g 23) :: (g 24) :: (g 25) :: (g 26) :: (g 27) :: (g 28) :: (g 29) :: (g 30) :: (g 31) :: (g 32) :: (g 33) :: (g 34) :: (g 35) :: (g 36) :: (g 37) :: (g 38) :: (g 39) :: (g 40) :: (g 41) :: (g 42) :: (g 43) :: (g 44) :: (g 45) :: (g 46) :: (g 47) :: (g 48) :: (g 49) :: (g 50) :: (g 51) :: (g 52) :: (g 53) :: (g 54) :: (g 55) :: (g 56) :: (g 57) :: (g 58) :: (g 59) :: (g 60) :: (g 61) :: (g 62) :: (g 63) :: (g 64) :: (g 65) :: (g 66) :: (g 67) :: (g 68) :: (g 69) :: (g 70) :: (g 71) :: (g 72) :: (g 73) :: (g 74) :: (g 75) :: (g 76) :: (g 77) :: (g 78) :: (g 79) :: (g 80) :: (g 81) :: (g 82) :: (g 83) :: (g 84) :: (g 85) :: (g 86) :: (g 87) :: (g 88) :: (g 89) :: (g 90) :: (g 91) :: (g 92) :: (g 93) :: (g 94) :: []))), (h1, .inl (cA, 1000, .inl f_14))] H ∧ va_D A [(h0, .inr (11, ((g 0) :: .ref h1 :: .int 14 :: (g 3) :: (g 4) :: (g 5) :: (g 6) :: (g 7) :: (g 8) :: (g 9) :: (g 10) :: (g 11) :: (g 12) :: (g 13) :: (g 14) :: (g 15) :: (g 16) :: (g 17) :: (g 18) :: (g 19) :: (g 20) :: (g 21) :: (g 22) :: (g 23) :: (g 24) :: (g 25) :: (g 26) :: (g 27) :: (g 28) :: (g 29) :: (g 30) :: (g 31) :: (g 32) :: (g 33) :: (g 34) :: (g 35) :: (g 36) :: (g 37) :: (g 38) :: (g 39) :: (g 40) :: (g 41) :: (g 42) :: (g 43) :: (g 44) :: (g 45) :: (g 46) :: (g 47) :: (g 48) :: (g 49) :: (g 50) :: (g 51) :: (g 52) :: (g 53) :: (g 54) :: (g 55) :: (g 56) :: (g 57) :: (g 58) :: (g 59) :: (g 60) :: (g 61) :: (g 62) :: (g 63) :: (g 64) :: (g 65) :: (g 66) :: (g 67) :: (g 68) :: (g 69) :: (g 70) :: (g 71) :: (g 72) :: (g 73) :: (g 74) :: (g 75) :: (g 76) :: (g 77) :: (g 78) :: (g 79) :: (g 80) :: (g 81) :: (g 82) :: (g 83) :: (g 84) :: (g 85) :: (g 86) :: (g 87) :: (g 88) :: (g 89) :: (g 90) :: (g 91) :: (g 92) :: (g 93) :: (g 94) :: []))), (h1, .inl (cA, 1000, .inl f_14))] := ⟨_, hP, hD⟩
  refine lv_aload_n hx hb dX11_puts_20 rfl (lv_at hl 1 rfl) ?_
  refine lv_dup hx hb dX11_puts_21 rfl ?_
  refine va_get (D := (dC, dI)) (ci := 11) (v := .int 14) (C := RX11) (T := TX11) (N := 95) hx hb hts inlX11 hown hK hP 0 rfl rfl 2 (by decide) (hts (.fieldLink RX11 182 "ShapeReaderModel" "taped" "I") mw_10_23) (fun _ h9 => h9) rfl dX11_puts_22 ?_
  refine lv_iconst (v := 1) hx hb dX11_puts_25 (by decide) ?_
  refine lv_iadd hx hb dX11_puts_26 ?_
  refine lv_topi (fun k_15 ek_15 => ?_)
  obtain rfl : k_15 = 15 := ek_15.trans (by decide)
  refine va_put (D := (dC, dI)) (ci := 11) (v := .int 15) (ty := .int) (C := RX11) (T := TX11) (N := 95) hx hb hts inlX11 tyX11 tyX11_ok nmX11 hown hK hP hD hS 0 rfl rfl 2 (by decide) (hts (.fieldLink RX11 182 "ShapeReaderModel" "taped" "I") mw_10_23) (fun _ h9 => h9) rfl (by decide +kernel) rfl rfl (Nat.le_of_ble_eq_true rfl) dX11_puts_27 (fun H locs hP hD hS => ?_)
  have hP : va_P (dC, dI) vwCl [(h0, .inr (11, ((g 0) :: .ref h1 :: .int 15 :: (g 3) :: (g 4) :: (g 5) :: (g 6) :: (g 7) :: (g 8) :: (g 9) :: (g 10) :: (g 11) :: (g 12) :: (g 13) :: (g 14) :: (g 15) :: (g 16) :: (g 17) :: (g 18) :: (g 19) :: (g 20) :: (g 21) :: (g 22) :: (g 23) :: (g 24) :: (g 25) :: (g 26) :: (g 27) :: (g 28) :: (g 29) :: (g 30) :: (g 31) :: (g 32) :: (g 33) :: (g 34) :: (g 35) :: (g 36) :: (g 37) :: (g 38) :: (g 39) :: (g 40) :: (g 41) :: (g 42) :: (g 43) :: (g 44) :: (g 45) :: (g 46) :: (g 47) :: (g 48) :: (g 49) :: (g 50) :: (g 51) :: (g 52) :: (g 53) :: (g 54) :: (g 55) :: (g 56) :: (g 57) :: (g 58) :: (g 59) :: (g 60) :: (g 61) :: (g 62) :: (g 63) :: (g 64) :: (g 65) :: (g 66) :: (g 67) :: (g 68) :: (g 69) :: (g 70) :: (g 71) :: (g 72) :: (g 73) :: (g 74) :: (g 75) :: (g 76) :: (g 77) :: (g 78) :: (g 79) :: (g 80) :: (g 81) :: (g 82) :: (g 83) :: (g 84) :: (g 85) :: (g 86) :: (g 87) :: (g 88) :: (g 89) :: (g 90) :: (g 91) :: (g 92) :: (g 93) :: (g 94) :: []))), (h1, .inl (cA, 1000, .inl f_14))] H := hP
  have hD : va_D A [(h0, .inr (11, ((g 0) :: .ref h1 :: .int 15 :: (g 3) :: (g 4) :: (g 5) :: (g 6) :: (g 7) :: (g 8) :: (g 9) :: (g 10) :: (g 11) :: (g 12) :: (g 13) :: (g 14) :: (g 15) :: (g 16) :: (g 17) :: (g 18) :: (g 19) :: (g 20) :: (g 21) :: (g 22) :: (g 23) :: (g 24) :: (g 25) :: (g 26) :: (g 27) :: (g 28) :: (g 29) :: (g 30) :: (g 31) :: (g 32) :: (g 33) :: (g 34) :: (g 35) :: (g 36) :: (g 37) :: (g 38) :: (g 39) :: (g 40) :: (g 41) :: (g 42) :: (g 43) :: (g 44) :: (g 45) :: (g 46) :: (g 47) :: (g 48) :: (g 49) :: (g 50) :: (g 51) :: (g 52) :: (g 53) :: (g 54) :: (g 55) :: (g 56) :: (g 57) :: (g 58) :: (g 59) :: (g 60) :: (g 61) :: (g 62) :: (g 63) :: (g 64) :: (g 65) :: (g 66) :: (g 67) :: (g 68) :: (g 69) :: (g 70) :: (g 71) :: (g 72) :: (g 73) :: (g 74) :: (g 75) :: (g 76) :: (g 77) :: (g 78) :: (g 79) :: (g 80) :: (g 81) :: (g 82) :: (g 83) :: (g 84) :: (g 85) :: (g 86) :: (g 87) :: (g 88) :: (g 89) :: (g 90) :: (g 91) :: (g 92) :: (g 93) :: (g 94) :: []))), (h1, .inl (cA, 1000, .inl f_14))] := hD
  refine lv_iinc (v := 0) (lv' := [(2, .int 0), (0, .ref h0), (1, .int p0)]) hx hb dX11_puts_30 hl (k := 0) rfl (by decide) (by decide) rfl (fun ls hl => ?_)
  refine lv_goto (tgt := 3) hx hb dX11_puts_33 (by decide) ?_
  refine lv_iload_n hx hb dX11_puts_3 rfl (lv_at hl 0 rfl) ?_
  refine lv_if_lt (tgt := 36) hx hb dX11_puts_4 (by decide) (fun h => absurd h (by decide)) (fun _ => ?_)
  refine lv_aload_n hx hb dX11_puts_7 rfl (lv_at hl 1 rfl) ?_
  refine va_get (D := (dC, dI)) (ci := 11) (v := .ref h1) (C := RX11) (T := TX11) (N := 95) hx hb hts inlX11 hown hK hP 0 rfl rfl 1 (by decide) (hts (.fieldLink RX11 7 "ShapeReaderModel" "tape" "[B") mw_8_27) (fun _ h9 => h9) rfl dX11_puts_8 ?_
  refine lv_aload_n hx hb dX11_puts_11 rfl (lv_at hl 1 rfl) ?_
  refine va_get (D := (dC, dI)) (ci := 11) (v := .int 15) (C := RX11) (T := TX11) (N := 95) hx hb hts inlX11 hown hK hP 0 rfl rfl 2 (by decide) (hts (.fieldLink RX11 182 "ShapeReaderModel" "taped" "I") mw_10_23) (fun _ h9 => h9) rfl dX11_puts_12 ?_
  refine lv_iload_n hx hb dX11_puts_15 rfl (lv_at hl 2 rfl) ?_
  refine lv_iload_n hx hb dX11_puts_16 rfl (lv_at hl 0 rfl) ?_
  refine lv_ishr hx hb dX11_puts_17 ?_
  refine lv_topi (fun x_17 ex_17 => ?_)
  refine lv_i2b (v := x_17.toInt8.toInt32) hx hb dX11_puts_18 rfl ?_
  generalize x_17.toInt8.toInt32 = x_18
  refine va_bast hx hb hK hP hD hS 1 0 rfl rfl (vp_in_iff.mpr (by decide)) dX11_puts_19 (fun H locs hP hD hS => ?_)
  obtain ⟨f_19, hP, hD⟩ : ∃ f_19 : Nat → Int32, va_P (dC, dI) vwCl [(h0, .inr (11, ((g 0) :: .ref h1 :: .int 15 :: (g 3) :: (g 4) :: (g 5) :: (g 6) :: (g 7) :: (g 8) :: (g 9) :: (g 10) :: (g 11) :: (g 12) :: (g 13) :: (g 14) :: (g 15) :: (g 16) :: (g 17) :: (g 18) :: (g 19) :: (g 20) :: (g 21) :: (g 22) :: (g 23) :: (g 24) :: (g 25) :: (g 26) :: (g 27) :: (g 28) :: (g 29) :: (g 30) :: (g 31) :: (g 32) :: (g 33) :: (g 34) :: (g 35) :: (g 36) :: (g 37) :: (g 38) :: (g 39) :: (g 40) :: (g 41) :: (g 42) :: (g 43) :: (g 44) :: (g 45) :: (g 46) :: (g 47) :: (g 48) :: (g 49) :: (g 50) :: (g 51) :: (g 52) :: (g 53) :: (g 54) :: (g 55) :: (g 56) :: (g 57) :: (g 58) :: (g 59) :: (g 60) :: (g 61) :: (g 62) :: (g 63) :: (g 64) :: (g 65) :: (g 66) :: (g 67) :: (g 68) :: (g 69) :: (g 70) :: (g 71) :: (g 72) :: (g 73) :: (g 74) :: (g 75) :: (g 76) :: (g 77) :: (g 78) :: (g 79) :: (g 80) :: (g 81) :: (g 82) :: (g 83) :: (g 84) :: (g 85) :: (g 86) :: (g 87) :: (g 88) :: (g 89) :: (g 90) :: (g 91) :: (g 92) :: (g 93) :: (g 94) :: []))), (h1, .inl (cA, 1000, .inl f_19))] H ∧ va_D A [(h0, .inr (11, ((g 0) :: .ref h1 :: .int 15 :: (g 3) :: (g 4) :: (g 5) :: (g 6) :: (g 7) :: (g 8) :: (g 9) :: (g 10) :: (g 11) :: (g 12) :: (g 13) :: (g 14) :: (g 15) :: (g 16) :: (g 17) :: (g 18) :: (g 19) :: (g 20) :: (g 21) :: (g 22) :: (g 23) :: (g 24) :: (g 25) :: (g 26) :: (g 27) :: (g 28) :: (g 29) :: (g 30) :: (g 31) :: (g 32) :: (g 33) :: (g 34) :: (g 35) :: (g 36) :: (g 37) :: (g 38) :: (g 39) :: (g 40) :: (g 41) :: (g 42) :: (g 43) :: (g 44) :: (g 45) :: (g 46) :: (g 47) :: (g 48) :: (g 49) :: (g 50) :: (g 51) :: (g 52) :: (g 53) :: (g 54) :: (g 55) :: (g 56) :: (g 57) :: (g 58) :: (g 59) :: (g 60) :: (g 61) :: (g 62) :: (g 63) :: (g 64) :: (g 65) :: (g 66) :: (g 67) :: (g 68) :: (g 69) :: (g 70) :: (g 71) :: (g 72) :: (g 73) :: (g 74) :: (g 75) :: (g 76) :: (g 77) :: (g 78) :: (g 79) :: (g 80) :: (g 81) :: (g 82) :: (g 83) :: (g 84) :: (g 85) :: (g 86) :: (g 87) :: (g 88) :: (g 89) :: (g 90) :: (g 91) :: (g 92) :: (g 93) :: (g 94) :: []))), (h1, .inl (cA, 1000, .inl f_19))] := ⟨_, hP, hD⟩
  refine lv_aload_n hx hb dX11_puts_20 rfl (lv_at hl 1 rfl) ?_
  refine lv_dup hx hb dX11_puts_21 rfl ?_
  refine va_get (D := (dC, dI)) (ci := 11) (v := .int 15) (C := RX11) (T := TX11) (N := 95) hx hb hts inlX11 hown hK hP 0 rfl rfl 2 (by decide) (hts (.fieldLink RX11 182 "ShapeReaderModel" "taped" "I") mw_10_23) (fun _ h9 => h9) rfl dX11_puts_22 ?_
  refine lv_iconst (v := 1) hx hb dX11_puts_25 (by decide) ?_
  refine lv_iadd hx hb dX11_puts_26 ?_
  refine lv_topi (fun k_20 ek_20 => ?_)
  obtain rfl : k_20 = 16 := ek_20.trans (by decide)
  refine va_put (D := (dC, dI)) (ci := 11) (v := .int 16) (ty := .int) (C := RX11) (T := TX11) (N := 95) hx hb hts inlX11 tyX11 tyX11_ok nmX11 hown hK hP hD hS 0 rfl rfl 2 (by decide) (hts (.fieldLink RX11 182 "ShapeReaderModel" "taped" "I") mw_10_23) (fun _ h9 => h9) rfl (by decide +kernel) rfl rfl (Nat.le_of_ble_eq_true rfl) dX11_puts_27 (fun H locs hP hD hS => ?_)
  have hP : va_P (dC, dI) vwCl [(h0, .inr (11, ((g 0) :: .ref h1 :: .int 16 :: (g 3) :: (g 4) :: (g 5) :: (g 6) :: (g 7) :: (g 8) :: (g 9) :: (g 10) :: (g 11) :: (g 12) :: (g 13) :: (g 14) :: (g 15) :: (g 16) :: (g 17) :: (g 18) :: (g 19) :: (g 20) :: (g 21) :: (g 22) :: (g 23) :: (g 24) :: (g 25) :: (g 26) :: (g 27) :: (g 28) :: (g 29) :: (g 30) :: (g 31) :: (g 32) :: (g 33) :: (g 34) :: (g 35) :: (g 36) :: (g 37) :: (g 38) :: (g 39) :: (g 40) :: (g 41) :: (g 42) :: (g 43) :: (g 44) :: (g 45) :: (g 46) :: (g 47) :: (g 48) :: (g 49) :: (g 50) :: (g 51) :: (g 52) :: (g 53) :: (g 54) :: (g 55) :: (g 56) :: (g 57) :: (g 58) :: (g 59) :: (g 60) :: (g 61) :: (g 62) :: (g 63) :: (g 64) :: (g 65) :: (g 66) :: (g 67) :: (g 68) :: (g 69) :: (g 70) :: (g 71) :: (g 72) :: (g 73) :: (g 74) :: (g 75) :: (g 76) :: (g 77) :: (g 78) :: (g 79) :: (g 80) :: (g 81) :: (g 82) :: (g 83) :: (g 84) :: (g 85) :: (g 86) :: (g 87) :: (g 88) :: (g 89) :: (g 90) :: (g 91) :: (g 92) :: (g 93) :: (g 94) :: []))), (h1, .inl (cA, 1000, .inl f_19))] H := hP
  have hD : va_D A [(h0, .inr (11, ((g 0) :: .ref h1 :: .int 16 :: (g 3) :: (g 4) :: (g 5) :: (g 6) :: (g 7) :: (g 8) :: (g 9) :: (g 10) :: (g 11) :: (g 12) :: (g 13) :: (g 14) :: (g 15) :: (g 16) :: (g 17) :: (g 18) :: (g 19) :: (g 20) :: (g 21) :: (g 22) :: (g 23) :: (g 24) :: (g 25) :: (g 26) :: (g 27) :: (g 28) :: (g 29) :: (g 30) :: (g 31) :: (g 32) :: (g 33) :: (g 34) :: (g 35) :: (g 36) :: (g 37) :: (g 38) :: (g 39) :: (g 40) :: (g 41) :: (g 42) :: (g 43) :: (g 44) :: (g 45) :: (g 46) :: (g 47) :: (g 48) :: (g 49) :: (g 50) :: (g 51) :: (g 52) :: (g 53) :: (g 54) :: (g 55) :: (g 56) :: (g 57) :: (g 58) :: (g 59) :: (g 60) :: (g 61) :: (g 62) :: (g 63) :: (g 64) :: (g 65) :: (g 66) :: (g 67) :: (g 68) :: (g 69) :: (g 70) :: (g 71) :: (g 72) :: (g 73) :: (g 74) :: (g 75) :: (g 76) :: (g 77) :: (g 78) :: (g 79) :: (g 80) :: (g 81) :: (g 82) :: (g 83) :: (g 84) :: (g 85) :: (g 86) :: (g 87) :: (g 88) :: (g 89) :: (g 90) :: (g 91) :: (g 92) :: (g 93) :: (g 94) :: []))), (h1, .inl (cA, 1000, .inl f_19))] := hD
  refine lv_iinc (v := (-8)) (lv' := [(2, .int (-8)), (0, .ref h0), (1, .int p0)]) hx hb dX11_puts_30 hl (k := 0) rfl (by decide) (by decide) rfl (fun ls hl => ?_)
  refine lv_goto (tgt := 3) hx hb dX11_puts_33 (by decide) ?_
  refine lv_iload_n hx hb dX11_puts_3 rfl (lv_at hl 0 rfl) ?_
  refine lv_if_lt (tgt := 36) hx hb dX11_puts_4 (by decide) (fun _ => ?_) (fun h => absurd (by decide) h)
  have hP9 := hP.sub (ws' := [(h0, .inr (11, ((g 0) :: .ref h1 :: .int 16 :: (g 3) :: (g 4) :: (g 5) :: (g 6) :: (g 7) :: (g 8) :: (g 9) :: (g 10) :: (g 11) :: (g 12) :: (g 13) :: (g 14) :: (g 15) :: (g 16) :: (g 17) :: (g 18) :: (g 19) :: (g 20) :: (g 21) :: (g 22) :: (g 23) :: (g 24) :: (g 25) :: (g 26) :: (g 27) :: (g 28) :: (g 29) :: (g 30) :: (g 31) :: (g 32) :: (g 33) :: (g 34) :: (g 35) :: (g 36) :: (g 37) :: (g 38) :: (g 39) :: (g 40) :: (g 41) :: (g 42) :: (g 43) :: (g 44) :: (g 45) :: (g 46) :: (g 47) :: (g 48) :: (g 49) :: (g 50) :: (g 51) :: (g 52) :: (g 53) :: (g 54) :: (g 55) :: (g 56) :: (g 57) :: (g 58) :: (g 59) :: (g 60) :: (g 61) :: (g 62) :: (g 63) :: (g 64) :: (g 65) :: (g 66) :: (g 67) :: (g 68) :: (g 69) :: (g 70) :: (g 71) :: (g 72) :: (g 73) :: (g 74) :: (g 75) :: (g 76) :: (g 77) :: (g 78) :: (g 79) :: (g 80) :: (g 81) :: (g 82) :: (g 83) :: (g 84) :: (g 85) :: (g 86) :: (g 87) :: (g 88) :: (g 89) :: (g 90) :: (g 91) :: (g 92) :: (g 93) :: (g 94) :: []))), (h1, .inl (cA, 1000, .inl f_19))]) [0, 1] rfl
  have hD9 := hD.sub (ws' := [(h0, .inr (11, ((g 0) :: .ref h1 :: .int 16 :: (g 3) :: (g 4) :: (g 5) :: (g 6) :: (g 7) :: (g 8) :: (g 9) :: (g 10) :: (g 11) :: (g 12) :: (g 13) :: (g 14) :: (g 15) :: (g 16) :: (g 17) :: (g 18) :: (g 19) :: (g 20) :: (g 21) :: (g 22) :: (g 23) :: (g 24) :: (g 25) :: (g 26) :: (g 27) :: (g 28) :: (g 29) :: (g 30) :: (g 31) :: (g 32) :: (g 33) :: (g 34) :: (g 35) :: (g 36) :: (g 37) :: (g 38) :: (g 39) :: (g 40) :: (g 41) :: (g 42) :: (g 43) :: (g 44) :: (g 45) :: (g 46) :: (g 47) :: (g 48) :: (g 49) :: (g 50) :: (g 51) :: (g 52) :: (g 53) :: (g 54) :: (g 55) :: (g 56) :: (g 57) :: (g 58) :: (g 59) :: (g 60) :: (g 61) :: (g 62) :: (g 63) :: (g 64) :: (g 65) :: (g 66) :: (g 67) :: (g 68) :: (g 69) :: (g 70) :: (g 71) :: (g 72) :: (g 73) :: (g 74) :: (g 75) :: (g 76) :: (g 77) :: (g 78) :: (g 79) :: (g 80) :: (g 81) :: (g 82) :: (g 83) :: (g 84) :: (g 85) :: (g 86) :: (g 87) :: (g 88) :: (g 89) :: (g 90) :: (g 91) :: (g 92) :: (g 93) :: (g 94) :: []))), (h1, .inl (cA, 1000, .inl f_19))]) [0, 1] (by decide) rfl
  have hK9 := hK.sub (tys' := [(cA, .byte)]) [0] rfl
  refine W.widen (k := 0) (n := 0) (Nat.le_of_ble_eq_true rfl) (Nat.le_of_ble_eq_true rfl) ?_
  exact W.vret hx hb hr (fun t ht hW => ⟨⟨(), rfl, trivial, f_19, by rw [ht]; exact hP9, va_K.moved hW.alike hK9, hD9⟩, hS.F ht⟩) hS.2.2 dX11_puts_36

set_option maxRecDepth 100000 in
set_option maxHeartbeats 4000000 in
theorem c_puts16 (l : Launch) (dC : Nat → ClassId) (dI : Nat → Nat → Nat) (h0 : Nat) (h1 : Nat) (cA : ClassId) (f : Nat → Int32) (g : Nat → Value) (p0 : Int32) (sz : Nat) : Met l yX11_puts (.code yX11_puts cX11_puts 3 none :: pw) ({ frames := 0, cells := 0, slots := 0, locals := 0 }) (va_Pc [.ref h0, .int p0] (vPre dC dI [(h0, .inr (11, ((g 0) :: .ref h1 :: .int 16 :: (g 3) :: (g 4) :: (g 5) :: (g 6) :: (g 7) :: (g 8) :: (g 9) :: (g 10) :: (g 11) :: (g 12) :: (g 13) :: (g 14) :: (g 15) :: (g 16) :: (g 17) :: (g 18) :: (g 19) :: (g 20) :: (g 21) :: (g 22) :: (g 23) :: (g 24) :: (g 25) :: (g 26) :: (g 27) :: (g 28) :: (g 29) :: (g 30) :: (g 31) :: (g 32) :: (g 33) :: (g 34) :: (g 35) :: (g 36) :: (g 37) :: (g 38) :: (g 39) :: (g 40) :: (g 41) :: (g 42) :: (g 43) :: (g 44) :: (g 45) :: (g 46) :: (g 47) :: (g 48) :: (g 49) :: (g 50) :: (g 51) :: (g 52) :: (g 53) :: (g 54) :: (g 55) :: (g 56) :: (g 57) :: (g 58) :: (g 59) :: (g 60) :: (g 61) :: (g 62) :: (g 63) :: (g 64) :: (g 65) :: (g 66) :: (g 67) :: (g 68) :: (g 69) :: (g 70) :: (g 71) :: (g 72) :: (g 73) :: (g 74) :: (g 75) :: (g 76) :: (g 77) :: (g 78) :: (g 79) :: (g 80) :: (g 81) :: (g 82) :: (g 83) :: (g 84) :: (g 85) :: (g 86) :: (g 87) :: (g 88) :: (g 89) :: (g 90) :: (g 91) :: (g 92) :: (g 93) :: (g 94) :: []))), (h1, .inl (cA, 1000, .inl f))] [(cA, .byte)] sz)) (va_Qv (fun (_ : Unit) => True) (fun (_ : Unit) t => ∃ (f9 : Nat → Int32), vPst dC dI (va_A [(h0, .inr (11, ((g 0) :: .ref h1 :: .int 16 :: (g 3) :: (g 4) :: (g 5) :: (g 6) :: (g 7) :: (g 8) :: (g 9) :: (g 10) :: (g 11) :: (g 12) :: (g 13) :: (g 14) :: (g 15) :: (g 16) :: (g 17) :: (g 18) :: (g 19) :: (g 20) :: (g 21) :: (g 22) :: (g 23) :: (g 24) :: (g 25) :: (g 26) :: (g 27) :: (g 28) :: (g 29) :: (g 30) :: (g 31) :: (g 32) :: (g 33) :: (g 34) :: (g 35) :: (g 36) :: (g 37) :: (g 38) :: (g 39) :: (g 40) :: (g 41) :: (g 42) :: (g 43) :: (g 44) :: (g 45) :: (g 46) :: (g 47) :: (g 48) :: (g 49) :: (g 50) :: (g 51) :: (g 52) :: (g 53) :: (g 54) :: (g 55) :: (g 56) :: (g 57) :: (g 58) :: (g 59) :: (g 60) :: (g 61) :: (g 62) :: (g 63) :: (g 64) :: (g 65) :: (g 66) :: (g 67) :: (g 68) :: (g 69) :: (g 70) :: (g 71) :: (g 72) :: (g 73) :: (g 74) :: (g 75) :: (g 76) :: (g 77) :: (g 78) :: (g 79) :: (g 80) :: (g 81) :: (g 82) :: (g 83) :: (g 84) :: (g 85) :: (g 86) :: (g 87) :: (g 88) :: (g 89) :: (g 90) :: (g 91) :: (g 92) :: (g 93) :: (g 94) :: []))), (h1, .inl (cA, 1000, .inl f))] sz) [(h0, .inr (11, ((g 0) :: .ref h1 :: .int 20 :: (g 3) :: (g 4) :: (g 5) :: (g 6) :: (g 7) :: (g 8) :: (g 9) :: (g 10) :: (g 11) :: (g 12) :: (g 13) :: (g 14) :: (g 15) :: (g 16) :: (g 17) :: (g 18) :: (g 19) :: (g 20) :: (g 21) :: (g 22) :: (g 23) :: (g 24) :: (g 25) :: (g 26) :: (g 27) :: (g 28) :: (g 29) :: (g 30) :: (g 31) :: (g 32) :: (g 33) :: (g 34) :: (g 35) :: (g 36) :: (g 37) :: (g 38) :: (g 39) :: (g 40) :: (g 41) :: (g 42) :: (g 43) :: (g 44) :: (g 45) :: (g 46) :: (g 47) :: (g 48) :: (g 49) :: (g 50) :: (g 51) :: (g 52) :: (g 53) :: (g 54) :: (g 55) :: (g 56) :: (g 57) :: (g 58) :: (g 59) :: (g 60) :: (g 61) :: (g 62) :: (g 63) :: (g 64) :: (g 65) :: (g 66) :: (g 67) :: (g 68) :: (g 69) :: (g 70) :: (g 71) :: (g 72) :: (g 73) :: (g 74) :: (g 75) :: (g 76) :: (g 77) :: (g 78) :: (g 79) :: (g 80) :: (g 81) :: (g 82) :: (g 83) :: (g 84) :: (g 85) :: (g 86) :: (g 87) :: (g 88) :: (g 89) :: (g 90) :: (g 91) :: (g 92) :: (g 93) :: (g 94) :: []))), (h1, .inl (cA, 1000, .inl f9))] [(cA, .byte)] t) (va_A [(h0, .inr (11, ((g 0) :: .ref h1 :: .int 16 :: (g 3) :: (g 4) :: (g 5) :: (g 6) :: (g 7) :: (g 8) :: (g 9) :: (g 10) :: (g 11) :: (g 12) :: (g 13) :: (g 14) :: (g 15) :: (g 16) :: (g 17) :: (g 18) :: (g 19) :: (g 20) :: (g 21) :: (g 22) :: (g 23) :: (g 24) :: (g 25) :: (g 26) :: (g 27) :: (g 28) :: (g 29) :: (g 30) :: (g 31) :: (g 32) :: (g 33) :: (g 34) :: (g 35) :: (g 36) :: (g 37) :: (g 38) :: (g 39) :: (g 40) :: (g 41) :: (g 42) :: (g 43) :: (g 44) :: (g 45) :: (g 46) :: (g 47) :: (g 48) :: (g 49) :: (g 50) :: (g 51) :: (g 52) :: (g 53) :: (g 54) :: (g 55) :: (g 56) :: (g 57) :: (g 58) :: (g 59) :: (g 60) :: (g 61) :: (g 62) :: (g 63) :: (g 64) :: (g 65) :: (g 66) :: (g 67) :: (g 68) :: (g 69) :: (g 70) :: (g 71) :: (g 72) :: (g 73) :: (g 74) :: (g 75) :: (g 76) :: (g 77) :: (g 78) :: (g 79) :: (g 80) :: (g 81) :: (g 82) :: (g 83) :: (g 84) :: (g 85) :: (g 86) :: (g 87) :: (g 88) :: (g 89) :: (g 90) :: (g 91) :: (g 92) :: (g 93) :: (g 94) :: []))), (h1, .inl (cA, 1000, .inl f))] sz)) 0 0 (va_A [(h0, .inr (11, ((g 0) :: .ref h1 :: .int 16 :: (g 3) :: (g 4) :: (g 5) :: (g 6) :: (g 7) :: (g 8) :: (g 9) :: (g 10) :: (g 11) :: (g 12) :: (g 13) :: (g 14) :: (g 15) :: (g 16) :: (g 17) :: (g 18) :: (g 19) :: (g 20) :: (g 21) :: (g 22) :: (g 23) :: (g 24) :: (g 25) :: (g 26) :: (g 27) :: (g 28) :: (g 29) :: (g 30) :: (g 31) :: (g 32) :: (g 33) :: (g 34) :: (g 35) :: (g 36) :: (g 37) :: (g 38) :: (g 39) :: (g 40) :: (g 41) :: (g 42) :: (g 43) :: (g 44) :: (g 45) :: (g 46) :: (g 47) :: (g 48) :: (g 49) :: (g 50) :: (g 51) :: (g 52) :: (g 53) :: (g 54) :: (g 55) :: (g 56) :: (g 57) :: (g 58) :: (g 59) :: (g 60) :: (g 61) :: (g 62) :: (g 63) :: (g 64) :: (g 65) :: (g 66) :: (g 67) :: (g 68) :: (g 69) :: (g 70) :: (g 71) :: (g 72) :: (g 73) :: (g 74) :: (g 75) :: (g 76) :: (g 77) :: (g 78) :: (g 79) :: (g 80) :: (g 81) :: (g 82) :: (g 83) :: (g 84) :: (g 85) :: (g 86) :: (g 87) :: (g 88) :: (g 89) :: (g 90) :: (g 91) :: (g 92) :: (g 93) :: (g 94) :: []))), (h1, .inl (cA, 1000, .inl f))] sz) := by
  refine Met.ofW (cc := cX11_puts) (maxL := 3) (ret := none) (by decide) rfl ?_
  intro p e s m args below meth c s₁ B hml hv
  obtain ⟨rfl, hsz, hP, hK, hD0⟩ := hv
  have hx := B.exec
  have hb := B.bytes
  have hr := B.returns
  have hts := atoms_spec (ws := .code yX11_puts cX11_puts 3 none :: pw) B.pre
  have hts : ∀ w ∈ pw, w.before _ s = true := fun w h => hts w (List.mem_cons_of_mem _ h)
  have hown : s.vm.findClass RX11 = some m.cls := findClass_of_methodNamed B.named
  have hlocks := B.notSynchronized
  subst hsz
  have hD := hD0.self (sz := s.heap.size)
  generalize hAe : va_A [(h0, .inr (11, ((g 0) :: .ref h1 :: .int 16 :: (g 3) :: (g 4) :: (g 5) :: (g 6) :: (g 7) :: (g 8) :: (g 9) :: (g 10) :: (g 11) :: (g 12) :: (g 13) :: (g 14) :: (g 15) :: (g 16) :: (g 17) :: (g 18) :: (g 19) :: (g 20) :: (g 21) :: (g 22) :: (g 23) :: (g 24) :: (g 25) :: (g 26) :: (g 27) :: (g 28) :: (g 29) :: (g 30) :: (g 31) :: (g 32) :: (g 33) :: (g 34) :: (g 35) :: (g 36) :: (g 37) :: (g 38) :: (g 39) :: (g 40) :: (g 41) :: (g 42) :: (g 43) :: (g 44) :: (g 45) :: (g 46) :: (g 47) :: (g 48) :: (g 49) :: (g 50) :: (g 51) :: (g 52) :: (g 53) :: (g 54) :: (g 55) :: (g 56) :: (g 57) :: (g 58) :: (g 59) :: (g 60) :: (g 61) :: (g 62) :: (g 63) :: (g 64) :: (g 65) :: (g 66) :: (g 67) :: (g 68) :: (g 69) :: (g 70) :: (g 71) :: (g 72) :: (g 73) :: (g 74) :: (g 75) :: (g 76) :: (g 77) :: (g 78) :: (g 79) :: (g 80) :: (g 81) :: (g 82) :: (g 83) :: (g 84) :: (g 85) :: (g 86) :: (g 87) :: (g 88) :: (g 89) :: (g 90) :: (g 91) :: (g 92) :: (g 93) :: (g 94) :: []))), (h1, .inl (cA, 1000, .inl f))] s.heap.size = A at hD ⊢
  have hA : ∀ q : Nat, s.heap.size ≤ q → A q := fun q h => by rw [← hAe]; exact Or.inr h
  have hS : va_S A s.heap s.heap [] := va_S.rf
  have hP : va_P (dC, dI) vwCl [(h0, .inr (11, ((g 0) :: .ref h1 :: .int 16 :: (g 3) :: (g 4) :: (g 5) :: (g 6) :: (g 7) :: (g 8) :: (g 9) :: (g 10) :: (g 11) :: (g 12) :: (g 13) :: (g 14) :: (g 15) :: (g 16) :: (g 17) :: (g 18) :: (g 19) :: (g 20) :: (g 21) :: (g 22) :: (g 23) :: (g 24) :: (g 25) :: (g 26) :: (g 27) :: (g 28) :: (g 29) :: (g 30) :: (g 31) :: (g 32) :: (g 33) :: (g 34) :: (g 35) :: (g 36) :: (g 37) :: (g 38) :: (g 39) :: (g 40) :: (g 41) :: (g 42) :: (g 43) :: (g 44) :: (g 45) :: (g 46) :: (g 47) :: (g 48) :: (g 49) :: (g 50) :: (g 51) :: (g 52) :: (g 53) :: (g 54) :: (g 55) :: (g 56) :: (g 57) :: (g 58) :: (g 59) :: (g 60) :: (g 61) :: (g 62) :: (g 63) :: (g 64) :: (g 65) :: (g 66) :: (g 67) :: (g 68) :: (g 69) :: (g 70) :: (g 71) :: (g 72) :: (g 73) :: (g 74) :: (g 75) :: (g 76) :: (g 77) :: (g 78) :: (g 79) :: (g 80) :: (g 81) :: (g 82) :: (g 83) :: (g 84) :: (g 85) :: (g 86) :: (g 87) :: (g 88) :: (g 89) :: (g 90) :: (g 91) :: (g 92) :: (g 93) :: (g 94) :: []))), (h1, .inl (cA, 1000, .inl f))] s.heap := hP
  have hl := lv_entry ([.ref h0, .int p0]) (n := 3) (Nat.le_of_ble_eq_true rfl)
  rw [lg_entry_eq]
  generalize (lg_sl ([.ref h0, .int p0]) ++ List.replicate (3 - (lg_sl ([.ref h0, .int p0])).length) Slot.unset).toArray = ls at hl ⊢
  have hl : lv_has ls 3 [(0, .ref h0), (1, .int p0)] := hl
  refine lv_bipush (v := 24) hx hb dX11_puts_0 (by decide) ?_
  refine lv_istore_n (lv' := [(2, .int 24), (0, .ref h0), (1, .int p0)]) hx hb dX11_puts_2 rfl hl (by decide) rfl (fun ls hl => ?_)
  refine lv_iload_n hx hb dX11_puts_3 rfl (lv_at hl 0 rfl) ?_
  refine lv_if_lt (tgt := 36) hx hb dX11_puts_4 (by decide) (fun h => absurd h (by decide)) (fun _ => ?_)
  refine lv_aload_n hx hb dX11_puts_7 rfl (lv_at hl 1 rfl) ?_
  refine va_get (D := (dC, dI)) (ci := 11) (v := .ref h1) (C := RX11) (T := TX11) (N := 95) hx hb hts inlX11 hown hK hP 0 rfl rfl 1 (by decide) (hts (.fieldLink RX11 7 "ShapeReaderModel" "tape" "[B") mw_8_27) (fun _ h9 => h9) rfl dX11_puts_8 ?_
  refine lv_aload_n hx hb dX11_puts_11 rfl (lv_at hl 1 rfl) ?_
  refine va_get (D := (dC, dI)) (ci := 11) (v := .int 16) (C := RX11) (T := TX11) (N := 95) hx hb hts inlX11 hown hK hP 0 rfl rfl 2 (by decide) (hts (.fieldLink RX11 182 "ShapeReaderModel" "taped" "I") mw_10_23) (fun _ h9 => h9) rfl dX11_puts_12 ?_
  refine lv_iload_n hx hb dX11_puts_15 rfl (lv_at hl 2 rfl) ?_
  refine lv_iload_n hx hb dX11_puts_16 rfl (lv_at hl 0 rfl) ?_
  refine lv_ishr hx hb dX11_puts_17 ?_
  refine lv_topi (fun x_2 ex_2 => ?_)
  refine lv_i2b (v := x_2.toInt8.toInt32) hx hb dX11_puts_18 rfl ?_
  generalize x_2.toInt8.toInt32 = x_3
  refine va_bast hx hb hK hP hD hS 1 0 rfl rfl (vp_in_iff.mpr (by decide)) dX11_puts_19 (fun H locs hP hD hS => ?_)
  obtain ⟨f_4, hP, hD⟩ : ∃ f_4 : Nat → Int32, va_P (dC, dI) vwCl [(h0, .inr (11, ((g 0) :: .ref h1 :: .int 16 :: (g 3) :: (g 4) :: (g 5) :: (g 6) :: (g 7) :: (g 8) :: (g 9) :: (g 10) :: (g 11) :: (g 12) :: (g 13) :: (g 14) :: (g 15) :: (g 16) :: (g 17) :: (g 18) :: (g 19) :: (g 20) :: (g 21) :: (g 22) :: (g 23) :: (g 24) :: (g 25) :: (g 26) :: (g 27) :: (g 28) :: (g 29) :: (g 30) :: (g 31) :: (g 32) :: (g 33) :: (g 34) :: (g 35) :: (g 36) :: (g 37) :: (g 38) :: (g 39) :: (g 40) :: (g 41) :: (g 42) :: (g 43) :: (g 44) :: (g 45) :: (g 46) :: (g 47) :: (g 48) :: (g 49) :: (g 50) :: (g 51) :: (g 52) :: (g 53) :: (g 54) :: (g 55) :: (g 56) :: (g 57) :: (g 58) :: (g 59) :: (g 60) :: (g 61) :: (g 62) :: (g 63) :: (g 64) :: (g 65) :: (g 66) :: (g 67) :: (g 68) :: (g 69) :: (g 70) :: (g 71) :: (g 72) :: (g 73) :: (g 74) :: (g 75) :: (g 76) :: (g 77) :: (g 78) :: (g 79) :: (g 80) :: (g 81) :: (g 82) :: (g 83) :: (g 84) :: (g 85) :: (g 86) :: (g 87) :: (g 88) :: (g 89) :: (g 90) :: (g 91) :: (g 92) :: (g 93) :: (g 94) :: []))), (h1, .inl (cA, 1000, .inl f_4))] H ∧ va_D A [(h0, .inr (11, ((g 0) :: .ref h1 :: .int 16 :: (g 3) :: (g 4) :: (g 5) :: (g 6) :: (g 7) :: (g 8) :: (g 9) :: (g 10) :: (g 11) :: (g 12) :: (g 13) :: (g 14) :: (g 15) :: (g 16) :: (g 17) :: (g 18) :: (g 19) :: (g 20) :: (g 21) :: (g 22) :: (g 23) :: (g 24) :: (g 25) :: (g 26) :: (g 27) :: (g 28) :: (g 29) :: (g 30) :: (g 31) :: (g 32) :: (g 33) :: (g 34) :: (g 35) :: (g 36) :: (g 37) :: (g 38) :: (g 39) :: (g 40) :: (g 41) :: (g 42) :: (g 43) :: (g 44) :: (g 45) :: (g 46) :: (g 47) :: (g 48) :: (g 49) :: (g 50) :: (g 51) :: (g 52) :: (g 53) :: (g 54) :: (g 55) :: (g 56) :: (g 57) :: (g 58) :: (g 59) :: (g 60) :: (g 61) :: (g 62) :: (g 63) :: (g 64) :: (g 65) :: (g 66) :: (g 67) :: (g 68) :: (g 69) :: (g 70) :: (g 71) :: (g 72) :: (g 73) :: (g 74) :: (g 75) :: (g 76) :: (g 77) :: (g 78) :: (g 79) :: (g 80) :: (g 81) :: (g 82) :: (g 83) :: (g 84) :: (g 85) :: (g 86) :: (g 87) :: (g 88) :: (g 89) :: (g 90) :: (g 91) :: (g 92) :: (g 93) :: (g 94) :: []))), (h1, .inl (cA, 1000, .inl f_4))] := ⟨_, hP, hD⟩
  refine lv_aload_n hx hb dX11_puts_20 rfl (lv_at hl 1 rfl) ?_
  refine lv_dup hx hb dX11_puts_21 rfl ?_
  refine va_get (D := (dC, dI)) (ci := 11) (v := .int 16) (C := RX11) (T := TX11) (N := 95) hx hb hts inlX11 hown hK hP 0 rfl rfl 2 (by decide) (hts (.fieldLink RX11 182 "ShapeReaderModel" "taped" "I") mw_10_23) (fun _ h9 => h9) rfl dX11_puts_22 ?_
  refine lv_iconst (v := 1) hx hb dX11_puts_25 (by decide) ?_
  refine lv_iadd hx hb dX11_puts_26 ?_
  refine lv_topi (fun k_5 ek_5 => ?_)
  obtain rfl : k_5 = 17 := ek_5.trans (by decide)
  refine va_put (D := (dC, dI)) (ci := 11) (v := .int 17) (ty := .int) (C := RX11) (T := TX11) (N := 95) hx hb hts inlX11 tyX11 tyX11_ok nmX11 hown hK hP hD hS 0 rfl rfl 2 (by decide) (hts (.fieldLink RX11 182 "ShapeReaderModel" "taped" "I") mw_10_23) (fun _ h9 => h9) rfl (by decide +kernel) rfl rfl (Nat.le_of_ble_eq_true rfl) dX11_puts_27 (fun H locs hP hD hS => ?_)
  have hP : va_P (dC, dI) vwCl [(h0, .inr (11, ((g 0) :: .ref h1 :: .int 17 :: (g 3) :: (g 4) :: (g 5) :: (g 6) :: (g 7) :: (g 8) :: (g 9) :: (g 10) :: (g 11) :: (g 12) :: (g 13) :: (g 14) :: (g 15) :: (g 16) :: (g 17) :: (g 18) :: (g 19) :: (g 20) :: (g 21) :: (g 22) :: (g 23) :: (g 24) :: (g 25) :: (g 26) :: (g 27) :: (g 28) :: (g 29) :: (g 30) :: (g 31) :: (g 32) :: (g 33) :: (g 34) :: (g 35) :: (g 36) :: (g 37) :: (g 38) :: (g 39) :: (g 40) :: (g 41) :: (g 42) :: (g 43) :: (g 44) :: (g 45) :: (g 46) :: (g 47) :: (g 48) :: (g 49) :: (g 50) :: (g 51) :: (g 52) :: (g 53) :: (g 54) :: (g 55) :: (g 56) :: (g 57) :: (g 58) :: (g 59) :: (g 60) :: (g 61) :: (g 62) :: (g 63) :: (g 64) :: (g 65) :: (g 66) :: (g 67) :: (g 68) :: (g 69) :: (g 70) :: (g 71) :: (g 72) :: (g 73) :: (g 74) :: (g 75) :: (g 76) :: (g 77) :: (g 78) :: (g 79) :: (g 80) :: (g 81) :: (g 82) :: (g 83) :: (g 84) :: (g 85) :: (g 86) :: (g 87) :: (g 88) :: (g 89) :: (g 90) :: (g 91) :: (g 92) :: (g 93) :: (g 94) :: []))), (h1, .inl (cA, 1000, .inl f_4))] H := hP
  have hD : va_D A [(h0, .inr (11, ((g 0) :: .ref h1 :: .int 17 :: (g 3) :: (g 4) :: (g 5) :: (g 6) :: (g 7) :: (g 8) :: (g 9) :: (g 10) :: (g 11) :: (g 12) :: (g 13) :: (g 14) :: (g 15) :: (g 16) :: (g 17) :: (g 18) :: (g 19) :: (g 20) :: (g 21) :: (g 22) :: (g 23) :: (g 24) :: (g 25) :: (g 26) :: (g 27) :: (g 28) :: (g 29) :: (g 30) :: (g 31) :: (g 32) :: (g 33) :: (g 34) :: (g 35) :: (g 36) :: (g 37) :: (g 38) :: (g 39) :: (g 40) :: (g 41) :: (g 42) :: (g 43) :: (g 44) :: (g 45) :: (g 46) :: (g 47) :: (g 48) :: (g 49) :: (g 50) :: (g 51) :: (g 52) :: (g 53) :: (g 54) :: (g 55) :: (g 56) :: (g 57) :: (g 58) :: (g 59) :: (g 60) :: (g 61) :: (g 62) :: (g 63) :: (g 64) :: (g 65) :: (g 66) :: (g 67) :: (g 68) :: (g 69) :: (g 70) :: (g 71) :: (g 72) :: (g 73) :: (g 74) :: (g 75) :: (g 76) :: (g 77) :: (g 78) :: (g 79) :: (g 80) :: (g 81) :: (g 82) :: (g 83) :: (g 84) :: (g 85) :: (g 86) :: (g 87) :: (g 88) :: (g 89) :: (g 90) :: (g 91) :: (g 92) :: (g 93) :: (g 94) :: []))), (h1, .inl (cA, 1000, .inl f_4))] := hD
  refine lv_iinc (v := 16) (lv' := [(2, .int 16), (0, .ref h0), (1, .int p0)]) hx hb dX11_puts_30 hl (k := 0) rfl (by decide) (by decide) rfl (fun ls hl => ?_)
  refine lv_goto (tgt := 3) hx hb dX11_puts_33 (by decide) ?_
  refine lv_iload_n hx hb dX11_puts_3 rfl (lv_at hl 0 rfl) ?_
  refine lv_if_lt (tgt := 36) hx hb dX11_puts_4 (by decide) (fun h => absurd h (by decide)) (fun _ => ?_)
  refine lv_aload_n hx hb dX11_puts_7 rfl (lv_at hl 1 rfl) ?_
  refine va_get (D := (dC, dI)) (ci := 11) (v := .ref h1) (C := RX11) (T := TX11) (N := 95) hx hb hts inlX11 hown hK hP 0 rfl rfl 1 (by decide) (hts (.fieldLink RX11 7 "ShapeReaderModel" "tape" "[B") mw_8_27) (fun _ h9 => h9) rfl dX11_puts_8 ?_
  refine lv_aload_n hx hb dX11_puts_11 rfl (lv_at hl 1 rfl) ?_
  refine va_get (D := (dC, dI)) (ci := 11) (v := .int 17) (C := RX11) (T := TX11) (N := 95) hx hb hts inlX11 hown hK hP 0 rfl rfl 2 (by decide) (hts (.fieldLink RX11 182 "ShapeReaderModel" "taped" "I") mw_10_23) (fun _ h9 => h9) rfl dX11_puts_12 ?_
  refine lv_iload_n hx hb dX11_puts_15 rfl (lv_at hl 2 rfl) ?_
  refine lv_iload_n hx hb dX11_puts_16 rfl (lv_at hl 0 rfl) ?_
  refine lv_ishr hx hb dX11_puts_17 ?_
  refine lv_topi (fun x_7 ex_7 => ?_)
  refine lv_i2b (v := x_7.toInt8.toInt32) hx hb dX11_puts_18 rfl ?_
  generalize x_7.toInt8.toInt32 = x_8
  refine va_bast hx hb hK hP hD hS 1 0 rfl rfl (vp_in_iff.mpr (by decide)) dX11_puts_19 (fun H locs hP hD hS => ?_)
  obtain ⟨f_9, hP, hD⟩ : ∃ f_9 : Nat → Int32, va_P (dC, dI) vwCl [(h0, .inr (11, ((g 0) :: .ref h1 :: .int 17 :: (g 3) :: (g 4) :: (g 5) :: (g 6) :: (g 7) :: (g 8) :: (g 9) :: (g 10) :: (g 11) :: (g 12) :: (g 13) :: (g 14) :: (g 15) :: (g 16) :: (g 17) :: (g 18) :: (g 19) :: (g 20) :: (g 21) :: (g 22) :: (g 23) :: (g 24) :: (g 25) :: (g 26) :: (g 27) :: (g 28) :: (g 29) :: (g 30) :: (g 31) :: (g 32) :: (g 33) :: (g 34) :: (g 35) :: (g 36) :: (g 37) :: (g 38) :: (g 39) :: (g 40) :: (g 41) :: (g 42) :: (g 43) :: (g 44) :: (g 45) :: (g 46) :: (g 47) :: (g 48) :: (g 49) :: (g 50) :: (g 51) :: (g 52) :: (g 53) :: (g 54) :: (g 55) :: (g 56) :: (g 57) :: (g 58) :: (g 59) :: (g 60) :: (g 61) :: (g 62) :: (g 63) :: (g 64) :: (g 65) :: (g 66) :: (g 67) :: (g 68) :: (g 69) :: (g 70) :: (g 71) :: (g 72) :: (g 73) :: (g 74) :: (g 75) :: (g 76) :: (g 77) :: (g 78) :: (g 79) :: (g 80) :: (g 81) :: (g 82) :: (g 83) :: (g 84) :: (g 85) :: (g 86) :: (g 87) :: (g 88) :: (g 89) :: (g 90) :: (g 91) :: (g 92) :: (g 93) :: (g 94) :: []))), (h1, .inl (cA, 1000, .inl f_9))] H ∧ va_D A [(h0, .inr (11, ((g 0) :: .ref h1 :: .int 17 :: (g 3) :: (g 4) :: (g 5) :: (g 6) :: (g 7) :: (g 8) :: (g 9) :: (g 10) :: (g 11) :: (g 12) :: (g 13) :: (g 14) :: (g 15) :: (g 16) :: (g 17) :: (g 18) :: (g 19) :: (g 20) :: (g 21) :: (g 22) :: (g 23) :: (g 24) :: (g 25) :: (g 26) :: (g 27) :: (g 28) :: (g 29) :: (g 30) :: (g 31) :: (g 32) :: (g 33) :: (g 34) :: (g 35) :: (g 36) :: (g 37) :: (g 38) :: (g 39) :: (g 40) :: (g 41) :: (g 42) :: (g 43) :: (g 44) :: (g 45) :: (g 46) :: (g 47) :: (g 48) :: (g 49) :: (g 50) :: (g 51) :: (g 52) :: (g 53) :: (g 54) :: (g 55) :: (g 56) :: (g 57) :: (g 58) :: (g 59) :: (g 60) :: (g 61) :: (g 62) :: (g 63) :: (g 64) :: (g 65) :: (g 66) :: (g 67) :: (g 68) :: (g 69) :: (g 70) :: (g 71) :: (g 72) :: (g 73) :: (g 74) :: (g 75) :: (g 76) :: (g 77) :: (g 78) :: (g 79) :: (g 80) :: (g 81) :: (g 82) :: (g 83) :: (g 84) :: (g 85) :: (g 86) :: (g 87) :: (g 88) :: (g 89) :: (g 90) :: (g 91) :: (g 92) :: (g 93) :: (g 94) :: []))), (h1, .inl (cA, 1000, .inl f_9))] := ⟨_, hP, hD⟩
  refine lv_aload_n hx hb dX11_puts_20 rfl (lv_at hl 1 rfl) ?_
  refine lv_dup hx hb dX11_puts_21 rfl ?_
  refine va_get (D := (dC, dI)) (ci := 11) (v := .int 17) (C := RX11) (T := TX11) (N := 95) hx hb hts inlX11 hown hK hP 0 rfl rfl 2 (by decide) (hts (.fieldLink RX11 182 "ShapeReaderModel" "taped" "I") mw_10_23) (fun _ h9 => h9) rfl dX11_puts_22 ?_
  refine lv_iconst (v := 1) hx hb dX11_puts_25 (by decide) ?_
  refine lv_iadd hx hb dX11_puts_26 ?_
  refine lv_topi (fun k_10 ek_10 => ?_)
  obtain rfl : k_10 = 18 := ek_10.trans (by decide)
  refine va_put (D := (dC, dI)) (ci := 11) (v := .int 18) (ty := .int) (C := RX11) (T := TX11) (N := 95) hx hb hts inlX11 tyX11 tyX11_ok nmX11 hown hK hP hD hS 0 rfl rfl 2 (by decide) (hts (.fieldLink RX11 182 "ShapeReaderModel" "taped" "I") mw_10_23) (fun _ h9 => h9) rfl (by decide +kernel) rfl rfl (Nat.le_of_ble_eq_true rfl) dX11_puts_27 (fun H locs hP hD hS => ?_)
  have hP : va_P (dC, dI) vwCl [(h0, .inr (11, ((g 0) :: .ref h1 :: .int 18 :: (g 3) :: (g 4) :: (g 5) :: (g 6) :: (g 7) :: (g 8) :: (g 9) :: (g 10) :: (g 11) :: (g 12) :: (g 13) :: (g 14) :: (g 15) :: (g 16) :: (g 17) :: (g 18) :: (g 19) :: (g 20) :: (g 21) :: (g 22) :: (g 23) :: (g 24) :: (g 25) :: (g 26) :: (g 27) :: (g 28) :: (g 29) :: (g 30) :: (g 31) :: (g 32) :: (g 33) :: (g 34) :: (g 35) :: (g 36) :: (g 37) :: (g 38) :: (g 39) :: (g 40) :: (g 41) :: (g 42) :: (g 43) :: (g 44) :: (g 45) :: (g 46) :: (g 47) :: (g 48) :: (g 49) :: (g 50) :: (g 51) :: (g 52) :: (g 53) :: (g 54) :: (g 55) :: (g 56) :: (g 57) :: (g 58) :: (g 59) :: (g 60) :: (g 61) :: (g 62) :: (g 63) :: (g 64) :: (g 65) :: (g 66) :: (g 67) :: (g 68) :: (g 69) :: (g 70) :: (g 71) :: (g 72) :: (g 73) :: (g 74) :: (g 75) :: (g 76) :: (g 77) :: (g 78) :: (g 79) :: (g 80) :: (g 81) :: (g 82) :: (g 83) :: (g 84) :: (g 85) :: (g 86) :: (g 87) :: (g 88) :: (g 89) :: (g 90) :: (g 91) :: (g 92) :: (g 93) :: (g 94) :: []))), (h1, .inl (cA, 1000, .inl f_9))] H := hP
  have hD : va_D A [(h0, .inr (11, ((g 0) :: .ref h1 :: .int 18 :: (g 3) :: (g 4) :: (g 5) :: (g 6) :: (g 7) :: (g 8) :: (g 9) :: (g 10) :: (g 11) :: (g 12) :: (g 13) :: (g 14) :: (g 15) :: (g 16) :: (g 17) :: (g 18) :: (g 19) :: (g 20) :: (g 21) :: (g 22) :: (g 23) :: (g 24) :: (g 25) :: (g 26) :: (g 27) :: (g 28) :: (g 29) :: (g 30) :: (g 31) :: (g 32) :: (g 33) :: (g 34) :: (g 35) :: (g 36) :: (g 37) :: (g 38) :: (g 39) :: (g 40) :: (g 41) :: (g 42) :: (g 43) :: (g 44) :: (g 45) :: (g 46) :: (g 47) :: (g 48) :: (g 49) :: (g 50) :: (g 51) :: (g 52) :: (g 53) :: (g 54) :: (g 55) :: (g 56) :: (g 57) :: (g 58) :: (g 59) :: (g 60) :: (g 61) :: (g 62) :: (g 63) :: (g 64) :: (g 65) :: (g 66) :: (g 67) :: (g 68) :: (g 69) :: (g 70) :: (g 71) :: (g 72) :: (g 73) :: (g 74) :: (g 75) :: (g 76) :: (g 77) :: (g 78) :: (g 79) :: (g 80) :: (g 81) :: (g 82) :: (g 83) :: (g 84) :: (g 85) :: (g 86) :: (g 87) :: (g 88) :: (g 89) :: (g 90) :: (g 91) :: (g 92) :: (g 93) :: (g 94) :: []))), (h1, .inl (cA, 1000, .inl f_9))] := hD
  refine lv_iinc (v := 8) (lv' := [(2, .int 8), (0, .ref h0), (1, .int p0)]) hx hb dX11_puts_30 hl (k := 0) rfl (by decide) (by decide) rfl (fun ls hl => ?_)
  refine lv_goto (tgt := 3) hx hb dX11_puts_33 (by decide) ?_
  refine lv_iload_n hx hb dX11_puts_3 rfl (lv_at hl 0 rfl) ?_
  refine lv_if_lt (tgt := 36) hx hb dX11_puts_4 (by decide) (fun h => absurd h (by decide)) (fun _ => ?_)
  refine lv_aload_n hx hb dX11_puts_7 rfl (lv_at hl 1 rfl) ?_
  refine va_get (D := (dC, dI)) (ci := 11) (v := .ref h1) (C := RX11) (T := TX11) (N := 95) hx hb hts inlX11 hown hK hP 0 rfl rfl 1 (by decide) (hts (.fieldLink RX11 7 "ShapeReaderModel" "tape" "[B") mw_8_27) (fun _ h9 => h9) rfl dX11_puts_8 ?_
  refine lv_aload_n hx hb dX11_puts_11 rfl (lv_at hl 1 rfl) ?_
  refine va_get (D := (dC, dI)) (ci := 11) (v := .int 18) (C := RX11) (T := TX11) (N := 95) hx hb hts inlX11 hown hK hP 0 rfl rfl 2 (by decide) (hts (.fieldLink RX11 182 "ShapeReaderModel" "taped" "I") mw_10_23) (fun _ h9 => h9) rfl dX11_puts_12 ?_
  refine lv_iload_n hx hb dX11_puts_15 rfl (lv_at hl 2 rfl) ?_
  refine lv_iload_n hx hb dX11_puts_16 rfl (lv_at hl 0 rfl) ?_
  refine lv_ishr hx hb dX11_puts_17 ?_
  refine lv_topi (fun x_12 ex_12 => ?_)
  refine lv_i2b (v := x_12.toInt8.toInt32) hx hb dX11_puts_18 rfl ?_
  generalize x_12.toInt8.toInt32 = x_13
  refine va_bast hx hb hK hP hD hS 1 0 rfl rfl (vp_in_iff.mpr (by decide)) dX11_puts_19 (fun H locs hP hD hS => ?_)
  obtain ⟨f_14, hP, hD⟩ : ∃ f_14 : Nat → Int32, va_P (dC, dI) vwCl [(h0, .inr (11, ((g 0) :: .ref h1 :: .int 18 :: (g 3) :: (g 4) :: (g 5) :: (g 6) :: (g 7) :: (g 8) :: (g 9) :: (g 10) :: (g 11) :: (g 12) :: (g 13) :: (g 14) :: (g 15) :: (g 16) :: (g 17) :: (g 18) :: (g 19) :: (g 20) :: (g 21) :: (g 22) :: (g 23) :: (g 24) :: (g 25) :: (g 26) :: (g 27) :: (g 28) :: (g 29) :: (g 30) :: (g 31) :: (g 32) :: (g 33) :: (g 34) :: (g 35) :: (g 36) :: (g 37) :: (g 38) :: (g 39) :: (g 40) :: (g 41) :: (g 42) :: (g 43) :: (g 44) :: (g 45) :: (g 46) :: (g 47) :: (g 48) :: (g 49) :: (g 50) :: (g 51) :: (g 52) :: (g 53) :: (g 54) :: (g 55) :: (g 56) :: (g 57) :: (g 58) :: (g 59) :: (g 60) :: (g 61) :: (g 62) :: (g 63) :: (g 64) :: (g 65) :: (g 66) :: (g 67) :: (g 68) :: (g 69) :: (g 70) :: (g 71) :: (g 72) :: (g 73) :: (g 74) :: (g 75) :: (g 76) :: (g 77) :: (g 78) :: (g 79) :: (g 80) :: (g 81) :: (g 82) :: (g 83) :: (g 84) :: (g 85) :: (g 86) :: (g 87) :: (g 88) :: (g 89) :: (g 90) :: (g 91) :: (g 92) :: (g 93) :: (g 94) :: []))), (h1, .inl (cA, 1000, .inl f_14))] H ∧ va_D A [(h0, .inr (11, ((g 0) :: .ref h1 :: .int 18 :: (g 3) :: (g 4) :: (g 5) :: (g 6) :: (g 7) :: (g 8) :: (g 9) :: (g 10) :: (g 11) :: (g 12) :: (g 13) :: (g 14) :: (g 15) :: (g 16) :: (g 17) :: (g 18) :: (g 19) :: (g 20) :: (g 21) :: (g 22) :: (g 23) :: (g 24) :: (g 25) :: (g 26) :: (g 27) :: (g 28) :: (g 29) :: (g 30) :: (g 31) :: (g 32) :: (g 33) :: (g 34) :: (g 35) :: (g 36) :: (g 37) :: (g 38) :: (g 39) :: (g 40) :: (g 41) :: (g 42) :: (g 43) :: (g 44) :: (g 45) :: (g 46) :: (g 47) :: (g 48) :: (g 49) :: (g 50) :: (g 51) :: (g 52) :: (g 53) :: (g 54) :: (g 55) :: (g 56) :: (g 57) :: (g 58) :: (g 59) :: (g 60) :: (g 61) :: (g 62) :: (g 63) :: (g 64) :: (g 65) :: (g 66) :: (g 67) :: (g 68) :: (g 69) :: (g 70) :: (g 71) :: (g 72) :: (g 73) :: (g 74) :: (g 75) :: (g 76) :: (g 77) :: (g 78) :: (g 79) :: (g 80) :: (g 81) :: (g 82) :: (g 83) :: (g 84) :: (g 85) :: (g 86) :: (g 87) :: (g 88) :: (g 89) :: (g 90) :: (g 91) :: (g 92) :: (g 93) :: (g 94) :: []))), (h1, .inl (cA, 1000, .inl f_14))] := ⟨_, hP, hD⟩
  refine lv_aload_n hx hb dX11_puts_20 rfl (lv_at hl 1 rfl) ?_
  refine lv_dup hx hb dX11_puts_21 rfl ?_
  refine va_get (D := (dC, dI)) (ci := 11) (v := .int 18) (C := RX11) (T := TX11) (N := 95) hx hb hts inlX11 hown hK hP 0 rfl rfl 2 (by decide) (hts (.fieldLink RX11 182 "ShapeReaderModel" "taped" "I") mw_10_23) (fun _ h9 => h9) rfl dX11_puts_22 ?_
  refine lv_iconst (v := 1) hx hb dX11_puts_25 (by decide) ?_
  refine lv_iadd hx hb dX11_puts_26 ?_
  refine lv_topi (fun k_15 ek_15 => ?_)
  obtain rfl : k_15 = 19 := ek_15.trans (by decide)
  refine va_put (D := (dC, dI)) (ci := 11) (v := .int 19) (ty := .int) (C := RX11) (T := TX11) (N := 95) hx hb hts inlX11 tyX11 tyX11_ok nmX11 hown hK hP hD hS 0 rfl rfl 2 (by decide) (hts (.fieldLink RX11 182 "ShapeReaderModel" "taped" "I") mw_10_23) (fun _ h9 => h9) rfl (by decide +kernel) rfl rfl (Nat.le_of_ble_eq_true rfl) dX11_puts_27 (fun H locs hP hD hS => ?_)
  have hP : va_P (dC, dI) vwCl [(h0, .inr (11, ((g 0) :: .ref h1 :: .int 19 :: (g 3) :: (g 4) :: (g 5) :: (g 6) :: (g 7) :: (g 8) :: (g 9) :: (g 10) :: (g 11) :: (g 12) :: (g 13) :: (g 14) :: (g 15) :: (g 16) :: (g 17) :: (g 18) :: (g 19) :: (g 20) :: (g 21) :: (g 22) :: (g 23) :: (g 24) :: (g 25) :: (g 26) :: (g 27) :: (g 28) :: (g 29) :: (g 30) :: (g 31) :: (g 32) :: (g 33) :: (g 34) :: (g 35) :: (g 36) :: (g 37) :: (g 38) :: (g 39) :: (g 40) :: (g 41) :: (g 42) :: (g 43) :: (g 44) :: (g 45) :: (g 46) :: (g 47) :: (g 48) :: (g 49) :: (g 50) :: (g 51) :: (g 52) :: (g 53) :: (g 54) :: (g 55) :: (g 56) :: (g 57) :: (g 58) :: (g 59) :: (g 60) :: (g 61) :: (g 62) :: (g 63) :: (g 64) :: (g 65) :: (g 66) :: (g 67) :: (g 68) :: (g 69) :: (g 70) :: (g 71) :: (g 72) :: (g 73) :: (g 74) :: (g 75) :: (g 76) :: (g 77) :: (g 78) :: (g 79) :: (g 80) :: (g 81) :: (g 82) :: (g 83) :: (g 84) :: (g 85) :: (g 86) :: (g 87) :: (g 88) :: (g 89) :: (g 90) :: (g 91) :: (g 92) :: (g 93) :: (g 94) :: []))), (h1, .inl (cA, 1000, .inl f_14))] H := hP
  have hD : va_D A [(h0, .inr (11, ((g 0) :: .ref h1 :: .int 19 :: (g 3) :: (g 4) :: (g 5) :: (g 6) :: (g 7) :: (g 8) :: (g 9) :: (g 10) :: (g 11) :: (g 12) :: (g 13) :: (g 14) :: (g 15) :: (g 16) :: (g 17) :: (g 18) :: (g 19) :: (g 20) :: (g 21) :: (g 22) :: (g 23) :: (g 24) :: (g 25) :: (g 26) :: (g 27) :: (g 28) :: (g 29) :: (g 30) :: (g 31) :: (g 32) :: (g 33) :: (g 34) :: (g 35) :: (g 36) :: (g 37) :: (g 38) :: (g 39) :: (g 40) :: (g 41) :: (g 42) :: (g 43) :: (g 44) :: (g 45) :: (g 46) :: (g 47) :: (g 48) :: (g 49) :: (g 50) :: (g 51) :: (g 52) :: (g 53) :: (g 54) :: (g 55) :: (g 56) :: (g 57) :: (g 58) :: (g 59) :: (g 60) :: (g 61) :: (g 62) :: (g 63) :: (g 64) :: (g 65) :: (g 66) :: (g 67) :: (g 68) :: (g 69) :: (g 70) :: (g 71) :: (g 72) :: (g 73) :: (g 74) :: (g 75) :: (g 76) :: (g 77) :: (g 78) :: (g 79) :: (g 80) :: (g 81) :: (g 82) :: (g 83) :: (g 84) :: (g 85) :: (g 86) :: (g 87) :: (g 88) :: (g 89) :: (g 90) :: (g 91) :: (g 92) :: (g 93) :: (g 94) :: []))), (h1, .inl (cA, 1000, .inl f_14))] := hD
  refine lv_iinc (v := 0) (lv' := [(2, .int 0), (0, .ref h0), (1, .int p0)]) hx hb dX11_puts_30 hl (k := 0) rfl (by decide) (by decide) rfl (fun ls hl => ?_)
  refine lv_goto (tgt := 3) hx hb dX11_puts_33 (by decide) ?_
  refine lv_iload_n hx hb dX11_puts_3 rfl (lv_at hl 0 rfl) ?_
  refine lv_if_lt (tgt := 36) hx hb dX11_puts_4 (by decide) (fun h => absurd h (by decide)) (fun _ => ?_)
  refine lv_aload_n hx hb dX11_puts_7 rfl (lv_at hl 1 rfl) ?_
  refine va_get (D := (dC, dI)) (ci := 11) (v := .ref h1) (C := RX11) (T := TX11) (N := 95) hx hb hts inlX11 hown hK hP 0 rfl rfl 1 (by decide) (hts (.fieldLink RX11 7 "ShapeReaderModel" "tape" "[B") mw_8_27) (fun _ h9 => h9) rfl dX11_puts_8 ?_
  refine lv_aload_n hx hb dX11_puts_11 rfl (lv_at hl 1 rfl) ?_
  refine va_get (D := (dC, dI)) (ci := 11) (v := .int 19) (C := RX11) (T := TX11) (N := 95) hx hb hts inlX11 hown hK hP 0 rfl rfl 2 (by decide) (hts (.fieldLink RX11 182 "ShapeReaderModel" "taped" "I") mw_10_23) (fun _ h9 => h9) rfl dX11_puts_12 ?_
  refine lv_iload_n hx hb dX11_puts_15 rfl (lv_at hl 2 rfl) ?_
  refine lv_iload_n hx hb dX11_puts_16 rfl (lv_at hl 0 rfl) ?_
  refine lv_ishr hx hb dX11_puts_17 ?_
  refine lv_topi (fun x_17 ex_17 => ?_)
  refine lv_i2b (v := x_17.toInt8.toInt32) hx hb dX11_puts_18 rfl ?_
  generalize x_17.toInt8.toInt32 = x_18
  refine va_bast hx hb hK hP hD hS 1 0 rfl rfl (vp_in_iff.mpr (by decide)) dX11_puts_19 (fun H locs hP hD hS => ?_)
  obtain ⟨f_19, hP, hD⟩ : ∃ f_19 : Nat → Int32, va_P (dC, dI) vwCl [(h0, .inr (11, ((g 0) :: .ref h1 :: .int 19 :: (g 3) :: (g 4) :: (g 5) :: (g 6) :: (g 7) :: (g 8) :: (g 9) :: (g 10) :: (g 11) :: (g 12) :: (g 13) :: (g 14) :: (g 15) :: (g 16) :: (g 17) :: (g 18) :: (g 19) :: (g 20) :: (g 21) :: (g 22) :: (g 23) :: (g 24) :: (g 25) :: (g 26) :: (g 27) :: (g 28) :: (g 29) :: (g 30) :: (g 31) :: (g 32) :: (g 33) :: (g 34) :: (g 35) :: (g 36) :: (g 37) :: (g 38) :: (g 39) :: (g 40) :: (g 41) :: (g 42) :: (g 43) :: (g 44) :: (g 45) :: (g 46) :: (g 47) :: (g 48) :: (g 49) :: (g 50) :: (g 51) :: (g 52) :: (g 53) :: (g 54) :: (g 55) :: (g 56) :: (g 57) :: (g 58) :: (g 59) :: (g 60) :: (g 61) :: (g 62) :: (g 63) :: (g 64) :: (g 65) :: (g 66) :: (g 67) :: (g 68) :: (g 69) :: (g 70) :: (g 71) :: (g 72) :: (g 73) :: (g 74) :: (g 75) :: (g 76) :: (g 77) :: (g 78) :: (g 79) :: (g 80) :: (g 81) :: (g 82) :: (g 83) :: (g 84) :: (g 85) :: (g 86) :: (g 87) :: (g 88) :: (g 89) :: (g 90) :: (g 91) :: (g 92) :: (g 93) :: (g 94) :: []))), (h1, .inl (cA, 1000, .inl f_19))] H ∧ va_D A [(h0, .inr (11, ((g 0) :: .ref h1 :: .int 19 :: (g 3) :: (g 4) :: (g 5) :: (g 6) :: (g 7) :: (g 8) :: (g 9) :: (g 10) :: (g 11) :: (g 12) :: (g 13) :: (g 14) :: (g 15) :: (g 16) :: (g 17) :: (g 18) :: (g 19) :: (g 20) :: (g 21) :: (g 22) :: (g 23) :: (g 24) :: (g 25) :: (g 26) :: (g 27) :: (g 28) :: (g 29) :: (g 30) :: (g 31) :: (g 32) :: (g 33) :: (g 34) :: (g 35) :: (g 36) :: (g 37) :: (g 38) :: (g 39) :: (g 40) :: (g 41) :: (g 42) :: (g 43) :: (g 44) :: (g 45) :: (g 46) :: (g 47) :: (g 48) :: (g 49) :: (g 50) :: (g 51) :: (g 52) :: (g 53) :: (g 54) :: (g 55) :: (g 56) :: (g 57) :: (g 58) :: (g 59) :: (g 60) :: (g 61) :: (g 62) :: (g 63) :: (g 64) :: (g 65) :: (g 66) :: (g 67) :: (g 68) :: (g 69) :: (g 70) :: (g 71) :: (g 72) :: (g 73) :: (g 74) :: (g 75) :: (g 76) :: (g 77) :: (g 78) :: (g 79) :: (g 80) :: (g 81) :: (g 82) :: (g 83) :: (g 84) :: (g 85) :: (g 86) :: (g 87) :: (g 88) :: (g 89) :: (g 90) :: (g 91) :: (g 92) :: (g 93) :: (g 94) :: []))), (h1, .inl (cA, 1000, .inl f_19))] := ⟨_, hP, hD⟩
  refine lv_aload_n hx hb dX11_puts_20 rfl (lv_at hl 1 rfl) ?_
  refine lv_dup hx hb dX11_puts_21 rfl ?_
  refine va_get (D := (dC, dI)) (ci := 11) (v := .int 19) (C := RX11) (T := TX11) (N := 95) hx hb hts inlX11 hown hK hP 0 rfl rfl 2 (by decide) (hts (.fieldLink RX11 182 "ShapeReaderModel" "taped" "I") mw_10_23) (fun _ h9 => h9) rfl dX11_puts_22 ?_
  refine lv_iconst (v := 1) hx hb dX11_puts_25 (by decide) ?_
  refine lv_iadd hx hb dX11_puts_26 ?_
  refine lv_topi (fun k_20 ek_20 => ?_)
  obtain rfl : k_20 = 20 := ek_20.trans (by decide)
  refine va_put (D := (dC, dI)) (ci := 11) (v := .int 20) (ty := .int) (C := RX11) (T := TX11) (N := 95) hx hb hts inlX11 tyX11 tyX11_ok nmX11 hown hK hP hD hS 0 rfl rfl 2 (by decide) (hts (.fieldLink RX11 182 "ShapeReaderModel" "taped" "I") mw_10_23) (fun _ h9 => h9) rfl (by decide +kernel) rfl rfl (Nat.le_of_ble_eq_true rfl) dX11_puts_27 (fun H locs hP hD hS => ?_)
  have hP : va_P (dC, dI) vwCl [(h0, .inr (11, ((g 0) :: .ref h1 :: .int 20 :: (g 3) :: (g 4) :: (g 5) :: (g 6) :: (g 7) :: (g 8) :: (g 9) :: (g 10) :: (g 11) :: (g 12) :: (g 13) :: (g 14) :: (g 15) :: (g 16) :: (g 17) :: (g 18) :: (g 19) :: (g 20) :: (g 21) :: (g 22) :: (g 23) :: (g 24) :: (g 25) :: (g 26) :: (g 27) :: (g 28) :: (g 29) :: (g 30) :: (g 31) :: (g 32) :: (g 33) :: (g 34) :: (g 35) :: (g 36) :: (g 37) :: (g 38) :: (g 39) :: (g 40) :: (g 41) :: (g 42) :: (g 43) :: (g 44) :: (g 45) :: (g 46) :: (g 47) :: (g 48) :: (g 49) :: (g 50) :: (g 51) :: (g 52) :: (g 53) :: (g 54) :: (g 55) :: (g 56) :: (g 57) :: (g 58) :: (g 59) :: (g 60) :: (g 61) :: (g 62) :: (g 63) :: (g 64) :: (g 65) :: (g 66) :: (g 67) :: (g 68) :: (g 69) :: (g 70) :: (g 71) :: (g 72) :: (g 73) :: (g 74) :: (g 75) :: (g 76) :: (g 77) :: (g 78) :: (g 79) :: (g 80) :: (g 81) :: (g 82) :: (g 83) :: (g 84) :: (g 85) :: (g 86) :: (g 87) :: (g 88) :: (g 89) :: (g 90) :: (g 91) :: (g 92) :: (g 93) :: (g 94) :: []))), (h1, .inl (cA, 1000, .inl f_19))] H := hP
  have hD : va_D A [(h0, .inr (11, ((g 0) :: .ref h1 :: .int 20 :: (g 3) :: (g 4) :: (g 5) :: (g 6) :: (g 7) :: (g 8) :: (g 9) :: (g 10) :: (g 11) :: (g 12) :: (g 13) :: (g 14) :: (g 15) :: (g 16) :: (g 17) :: (g 18) :: (g 19) :: (g 20) :: (g 21) :: (g 22) :: (g 23) :: (g 24) :: (g 25) :: (g 26) :: (g 27) :: (g 28) :: (g 29) :: (g 30) :: (g 31) :: (g 32) :: (g 33) :: (g 34) :: (g 35) :: (g 36) :: (g 37) :: (g 38) :: (g 39) :: (g 40) :: (g 41) :: (g 42) :: (g 43) :: (g 44) :: (g 45) :: (g 46) :: (g 47) :: (g 48) :: (g 49) :: (g 50) :: (g 51) :: (g 52) :: (g 53) :: (g 54) :: (g 55) :: (g 56) :: (g 57) :: (g 58) :: (g 59) :: (g 60) :: (g 61) :: (g 62) :: (g 63) :: (g 64) :: (g 65) :: (g 66) :: (g 67) :: (g 68) :: (g 69) :: (g 70) :: (g 71) :: (g 72) :: (g 73) :: (g 74) :: (g 75) :: (g 76) :: (g 77) :: (g 78) :: (g 79) :: (g 80) :: (g 81) :: (g 82) :: (g 83) :: (g 84) :: (g 85) :: (g 86) :: (g 87) :: (g 88) :: (g 89) :: (g 90) :: (g 91) :: (g 92) :: (g 93) :: (g 94) :: []))), (h1, .inl (cA, 1000, .inl f_19))] := hD
  refine lv_iinc (v := (-8)) (lv' := [(2, .int (-8)), (0, .ref h0), (1, .int p0)]) hx hb dX11_puts_30 hl (k := 0) rfl (by decide) (by decide) rfl (fun ls hl => ?_)
  refine lv_goto (tgt := 3) hx hb dX11_puts_33 (by decide) ?_
  refine lv_iload_n hx hb dX11_puts_3 rfl (lv_at hl 0 rfl) ?_
  refine lv_if_lt (tgt := 36) hx hb dX11_puts_4 (by decide) (fun _ => ?_) (fun h => absurd (by decide) h)
  have hP9 := hP.sub (ws' := [(h0, .inr (11, ((g 0) :: .ref h1 :: .int 20 :: (g 3) :: (g 4) :: (g 5) :: (g 6) :: (g 7) :: (g 8) :: (g 9) :: (g 10) :: (g 11) :: (g 12) :: (g 13) :: (g 14) :: (g 15) :: (g 16) :: (g 17) :: (g 18) :: (g 19) :: (g 20) :: (g 21) :: (g 22) :: (g 23) :: (g 24) :: (g 25) :: (g 26) :: (g 27) :: (g 28) :: (g 29) :: (g 30) :: (g 31) :: (g 32) :: (g 33) :: (g 34) :: (g 35) :: (g 36) :: (g 37) :: (g 38) :: (g 39) :: (g 40) :: (g 41) :: (g 42) :: (g 43) :: (g 44) :: (g 45) :: (g 46) :: (g 47) :: (g 48) :: (g 49) :: (g 50) :: (g 51) :: (g 52) :: (g 53) :: (g 54) :: (g 55) :: (g 56) :: (g 57) :: (g 58) :: (g 59) :: (g 60) :: (g 61) :: (g 62) :: (g 63) :: (g 64) :: (g 65) :: (g 66) :: (g 67) :: (g 68) :: (g 69) :: (g 70) :: (g 71) :: (g 72) :: (g 73) :: (g 74) :: (g 75) :: (g 76) :: (g 77) :: (g 78) :: (g 79) :: (g 80) :: (g 81) :: (g 82) :: (g 83) :: (g 84) :: (g 85) :: (g 86) :: (g 87) :: (g 88) :: (g 89) :: (g 90) :: (g 91) :: (g 92) :: (g 93) :: (g 94) :: []))), (h1, .inl (cA, 1000, .inl f_19))]) [0, 1] rfl
  have hD9 := hD.sub (ws' := [(h0, .inr (11, ((g 0) :: .ref h1 :: .int 20 :: (g 3) :: (g 4) :: (g 5) :: (g 6) :: (g 7) :: (g 8) :: (g 9) :: (g 10) :: (g 11) :: (g 12) :: (g 13) :: (g 14) :: (g 15) :: (g 16) :: (g 17) :: (g 18) :: (g 19) :: (g 20) :: (g 21) :: (g 22) :: (g 23) :: (g 24) :: (g 25) :: (g 26) :: (g 27) :: (g 28) :: (g 29) :: (g 30) :: (g 31) :: (g 32) :: (g 33) :: (g 34) :: (g 35) :: (g 36) :: (g 37) :: (g 38) :: (g 39) :: (g 40) :: (g 41) :: (g 42) :: (g 43) :: (g 44) :: (g 45) :: (g 46) :: (g 47) :: (g 48) :: (g 49) :: (g 50) :: (g 51) :: (g 52) :: (g 53) :: (g 54) :: (g 55) :: (g 56) :: (g 57) :: (g 58) :: (g 59) :: (g 60) :: (g 61) :: (g 62) :: (g 63) :: (g 64) :: (g 65) :: (g 66) :: (g 67) :: (g 68) :: (g 69) :: (g 70) :: (g 71) :: (g 72) :: (g 73) :: (g 74) :: (g 75) :: (g 76) :: (g 77) :: (g 78) :: (g 79) :: (g 80) :: (g 81) :: (g 82) :: (g 83) :: (g 84) :: (g 85) :: (g 86) :: (g 87) :: (g 88) :: (g 89) :: (g 90) :: (g 91) :: (g 92) :: (g 93) :: (g 94) :: []))), (h1, .inl (cA, 1000, .inl f_19))]) [0, 1] (by decide) rfl
  have hK9 := hK.sub (tys' := [(cA, .byte)]) [0] rfl
  refine W.widen (k := 0) (n := 0) (Nat.le_of_ble_eq_true rfl) (Nat.le_of_ble_eq_true rfl) ?_
  exact W.vret hx hb hr (fun t ht hW => ⟨⟨(), rfl, trivial, f_19, by rw [ht]; exact hP9, va_K.moved hW.alike hK9, hD9⟩, hS.F ht⟩) hS.2.2 dX11_puts_36

set_option maxRecDepth 100000 in
set_option maxHeartbeats 4000000 in
theorem c_mfeed (l : Launch) (dC : Nat → ClassId) (dI : Nat → Nat → Nat) (h0 : Nat) (h1 : Nat) (cA : ClassId) (f : Nat → Int32) (g : Nat → Value) (p0 : Int32) (p1 : Int32) (p2 : Int32) (p3 : Int32) (p4 : Int32) (sz : Nat) : Met l yX11_feed (.code yX11_feed cX11_feed 6 (some .int) :: pw) ({ frames := 1, cells := 0, slots := 0, locals := 22 }) (va_Pc [.ref h0, .int p0, .int p1, .int p2, .int p3, .int p4] (vPre dC dI [(h0, .inr (11, ((g 0) :: .ref h1 :: .int 0 :: (g 3) :: (g 4) :: (g 5) :: (g 6) :: (g 7) :: (g 8) :: (g 9) :: (g 10) :: (g 11) :: (g 12) :: (g 13) :: (g 14) :: (g 15) :: (g 16) :: (g 17) :: (g 18) :: (g 19) :: (g 20) :: (g 21) :: (g 22) :: (g 23) :: (g 24) :: (g 25) :: (g 26) :: (g 27) :: (g 28) :: (g 29) :: (g 30) :: (g 31) :: (g 32) :: (g 33) :: (g 34) :: (g 35) :: (g 36) :: (g 37) :: (g 38) :: (g 39) :: (g 40) :: (g 41) :: (g 42) :: (g 43) :: (g 44) :: (g 45) :: (g 46) :: (g 47) :: (g 48) :: (g 49) :: (g 50) :: (g 51) :: (g 52) :: (g 53) :: (g 54) :: (g 55) :: (g 56) :: (g 57) :: (g 58) :: (g 59) :: (g 60) :: (g 61) :: (g 62) :: (g 63) :: (g 64) :: (g 65) :: (g 66) :: (g 67) :: (g 68) :: (g 69) :: (g 70) :: (g 71) :: (g 72) :: (g 73) :: (g 74) :: (g 75) :: (g 76) :: (g 77) :: (g 78) :: (g 79) :: (g 80) :: (g 81) :: (g 82) :: (g 83) :: (g 84) :: (g 85) :: (g 86) :: (g 87) :: (g 88) :: (g 89) :: (g 90) :: (g 91) :: (g 92) :: (g 93) :: (g 94) :: []))), (h1, .inl (cA, 1000, .inl f))] [(cA, .byte)] sz)) (va_Qi (fun (r : Int32) (_ : Unit) => r = 20) (fun (_ : Unit) t => vPst dC dI (va_A [(h0, .inr (11, ((g 0) :: .ref h1 :: .int 0 :: (g 3) :: (g 4) :: (g 5) :: (g 6) :: (g 7) :: (g 8) :: (g 9) :: (g 10) :: (g 11) :: (g 12) :: (g 13) :: (g 14) :: (g 15) :: (g 16) :: (g 17) :: (g 18) :: (g 19) :: (g 20) :: (g 21) :: (g 22) :: (g 23) :: (g 24) :: (g 25) :: (g 26) :: (g 27) :: (g 28) :: (g 29) :: (g 30) :: (g 31) :: (g 32) :: (g 33) :: (g 34) :: (g 35) :: (g 36) :: (g 37) :: (g 38) :: (g 39) :: (g 40) :: (g 41) :: (g 42) :: (g 43) :: (g 44) :: (g 45) :: (g 46) :: (g 47) :: (g 48) :: (g 49) :: (g 50) :: (g 51) :: (g 52) :: (g 53) :: (g 54) :: (g 55) :: (g 56) :: (g 57) :: (g 58) :: (g 59) :: (g 60) :: (g 61) :: (g 62) :: (g 63) :: (g 64) :: (g 65) :: (g 66) :: (g 67) :: (g 68) :: (g 69) :: (g 70) :: (g 71) :: (g 72) :: (g 73) :: (g 74) :: (g 75) :: (g 76) :: (g 77) :: (g 78) :: (g 79) :: (g 80) :: (g 81) :: (g 82) :: (g 83) :: (g 84) :: (g 85) :: (g 86) :: (g 87) :: (g 88) :: (g 89) :: (g 90) :: (g 91) :: (g 92) :: (g 93) :: (g 94) :: []))), (h1, .inl (cA, 1000, .inl f))] sz) [] [] t) (va_A [(h0, .inr (11, ((g 0) :: .ref h1 :: .int 0 :: (g 3) :: (g 4) :: (g 5) :: (g 6) :: (g 7) :: (g 8) :: (g 9) :: (g 10) :: (g 11) :: (g 12) :: (g 13) :: (g 14) :: (g 15) :: (g 16) :: (g 17) :: (g 18) :: (g 19) :: (g 20) :: (g 21) :: (g 22) :: (g 23) :: (g 24) :: (g 25) :: (g 26) :: (g 27) :: (g 28) :: (g 29) :: (g 30) :: (g 31) :: (g 32) :: (g 33) :: (g 34) :: (g 35) :: (g 36) :: (g 37) :: (g 38) :: (g 39) :: (g 40) :: (g 41) :: (g 42) :: (g 43) :: (g 44) :: (g 45) :: (g 46) :: (g 47) :: (g 48) :: (g 49) :: (g 50) :: (g 51) :: (g 52) :: (g 53) :: (g 54) :: (g 55) :: (g 56) :: (g 57) :: (g 58) :: (g 59) :: (g 60) :: (g 61) :: (g 62) :: (g 63) :: (g 64) :: (g 65) :: (g 66) :: (g 67) :: (g 68) :: (g 69) :: (g 70) :: (g 71) :: (g 72) :: (g 73) :: (g 74) :: (g 75) :: (g 76) :: (g 77) :: (g 78) :: (g 79) :: (g 80) :: (g 81) :: (g 82) :: (g 83) :: (g 84) :: (g 85) :: (g 86) :: (g 87) :: (g 88) :: (g 89) :: (g 90) :: (g 91) :: (g 92) :: (g 93) :: (g 94) :: []))), (h1, .inl (cA, 1000, .inl f))] sz)) 0 0 (va_A [(h0, .inr (11, ((g 0) :: .ref h1 :: .int 0 :: (g 3) :: (g 4) :: (g 5) :: (g 6) :: (g 7) :: (g 8) :: (g 9) :: (g 10) :: (g 11) :: (g 12) :: (g 13) :: (g 14) :: (g 15) :: (g 16) :: (g 17) :: (g 18) :: (g 19) :: (g 20) :: (g 21) :: (g 22) :: (g 23) :: (g 24) :: (g 25) :: (g 26) :: (g 27) :: (g 28) :: (g 29) :: (g 30) :: (g 31) :: (g 32) :: (g 33) :: (g 34) :: (g 35) :: (g 36) :: (g 37) :: (g 38) :: (g 39) :: (g 40) :: (g 41) :: (g 42) :: (g 43) :: (g 44) :: (g 45) :: (g 46) :: (g 47) :: (g 48) :: (g 49) :: (g 50) :: (g 51) :: (g 52) :: (g 53) :: (g 54) :: (g 55) :: (g 56) :: (g 57) :: (g 58) :: (g 59) :: (g 60) :: (g 61) :: (g 62) :: (g 63) :: (g 64) :: (g 65) :: (g 66) :: (g 67) :: (g 68) :: (g 69) :: (g 70) :: (g 71) :: (g 72) :: (g 73) :: (g 74) :: (g 75) :: (g 76) :: (g 77) :: (g 78) :: (g 79) :: (g 80) :: (g 81) :: (g 82) :: (g 83) :: (g 84) :: (g 85) :: (g 86) :: (g 87) :: (g 88) :: (g 89) :: (g 90) :: (g 91) :: (g 92) :: (g 93) :: (g 94) :: []))), (h1, .inl (cA, 1000, .inl f))] sz) := by
  refine Met.ofW (cc := cX11_feed) (maxL := 6) (ret := (some .int)) (by decide) rfl ?_
  intro p e s m args below meth c s₁ B hml hv
  obtain ⟨rfl, hsz, hP, hK, hD0⟩ := hv
  have hx := B.exec
  have hb := B.bytes
  have hr := B.returns
  have hts := atoms_spec (ws := .code yX11_feed cX11_feed 6 (some .int) :: pw) B.pre
  have hts : ∀ w ∈ pw, w.before _ s = true := fun w h => hts w (List.mem_cons_of_mem _ h)
  have hown : s.vm.findClass RX11 = some m.cls := findClass_of_methodNamed B.named
  have hlocks := B.notSynchronized
  subst hsz
  have hD := hD0.self (sz := s.heap.size)
  generalize hAe : va_A [(h0, .inr (11, ((g 0) :: .ref h1 :: .int 0 :: (g 3) :: (g 4) :: (g 5) :: (g 6) :: (g 7) :: (g 8) :: (g 9) :: (g 10) :: (g 11) :: (g 12) :: (g 13) :: (g 14) :: (g 15) :: (g 16) :: (g 17) :: (g 18) :: (g 19) :: (g 20) :: (g 21) :: (g 22) :: (g 23) :: (g 24) :: (g 25) :: (g 26) :: (g 27) :: (g 28) :: (g 29) :: (g 30) :: (g 31) :: (g 32) :: (g 33) :: (g 34) :: (g 35) :: (g 36) :: (g 37) :: (g 38) :: (g 39) :: (g 40) :: (g 41) :: (g 42) :: (g 43) :: (g 44) :: (g 45) :: (g 46) :: (g 47) :: (g 48) :: (g 49) :: (g 50) :: (g 51) :: (g 52) :: (g 53) :: (g 54) :: (g 55) :: (g 56) :: (g 57) :: (g 58) :: (g 59) :: (g 60) :: (g 61) :: (g 62) :: (g 63) :: (g 64) :: (g 65) :: (g 66) :: (g 67) :: (g 68) :: (g 69) :: (g 70) :: (g 71) :: (g 72) :: (g 73) :: (g 74) :: (g 75) :: (g 76) :: (g 77) :: (g 78) :: (g 79) :: (g 80) :: (g 81) :: (g 82) :: (g 83) :: (g 84) :: (g 85) :: (g 86) :: (g 87) :: (g 88) :: (g 89) :: (g 90) :: (g 91) :: (g 92) :: (g 93) :: (g 94) :: []))), (h1, .inl (cA, 1000, .inl f))] s.heap.size = A at hD ⊢
  have hA : ∀ q : Nat, s.heap.size ≤ q → A q := fun q h => by rw [← hAe]; exact Or.inr h
  have hS : va_S A s.heap s.heap [] := va_S.rf
  have hP : va_P (dC, dI) vwCl [(h0, .inr (11, ((g 0) :: .ref h1 :: .int 0 :: (g 3) :: (g 4) :: (g 5) :: (g 6) :: (g 7) :: (g 8) :: (g 9) :: (g 10) :: (g 11) :: (g 12) :: (g 13) :: (g 14) :: (g 15) :: (g 16) :: (g 17) :: (g 18) :: (g 19) :: (g 20) :: (g 21) :: (g 22) :: (g 23) :: (g 24) :: (g 25) :: (g 26) :: (g 27) :: (g 28) :: (g 29) :: (g 30) :: (g 31) :: (g 32) :: (g 33) :: (g 34) :: (g 35) :: (g 36) :: (g 37) :: (g 38) :: (g 39) :: (g 40) :: (g 41) :: (g 42) :: (g 43) :: (g 44) :: (g 45) :: (g 46) :: (g 47) :: (g 48) :: (g 49) :: (g 50) :: (g 51) :: (g 52) :: (g 53) :: (g 54) :: (g 55) :: (g 56) :: (g 57) :: (g 58) :: (g 59) :: (g 60) :: (g 61) :: (g 62) :: (g 63) :: (g 64) :: (g 65) :: (g 66) :: (g 67) :: (g 68) :: (g 69) :: (g 70) :: (g 71) :: (g 72) :: (g 73) :: (g 74) :: (g 75) :: (g 76) :: (g 77) :: (g 78) :: (g 79) :: (g 80) :: (g 81) :: (g 82) :: (g 83) :: (g 84) :: (g 85) :: (g 86) :: (g 87) :: (g 88) :: (g 89) :: (g 90) :: (g 91) :: (g 92) :: (g 93) :: (g 94) :: []))), (h1, .inl (cA, 1000, .inl f))] s.heap := hP
  have hl := lv_entry ([.ref h0, .int p0, .int p1, .int p2, .int p3, .int p4]) (n := 6) (Nat.le_of_ble_eq_true rfl)
  rw [lg_entry_eq]
  generalize (lg_sl ([.ref h0, .int p0, .int p1, .int p2, .int p3, .int p4]) ++ List.replicate (6 - (lg_sl ([.ref h0, .int p0, .int p1, .int p2, .int p3, .int p4])).length) Slot.unset).toArray = ls at hl ⊢
  have hl : lv_has ls 6 [(0, .ref h0), (1, .int p0), (2, .int p1), (3, .int p2), (4, .int p3), (5, .int p4)] := hl
  refine lv_aload_n hx hb dX11_feed_0 rfl (lv_at hl 0 rfl) ?_
  refine lv_iconst (v := 0) hx hb dX11_feed_1 (by decide) ?_
  refine va_put (D := (dC, dI)) (ci := 11) (v := .int 0) (ty := .int) (C := RX11) (T := TX11) (N := 95) hx hb hts inlX11 tyX11 tyX11_ok nmX11 hown hK hP hD hS 0 rfl rfl 0 (by decide) (hts (.fieldLink RX11 178 "ShapeReaderModel" "thrown" "I") mw_10_22) (fun _ h9 => h9) rfl (by decide +kernel) rfl rfl (Nat.le_of_ble_eq_true rfl) dX11_feed_2 (fun H locs hP hD hS => ?_)
  have hP : va_P (dC, dI) vwCl [(h0, .inr (11, (.int 0 :: .ref h1 :: .int 0 :: (g 3) :: (g 4) :: (g 5) :: (g 6) :: (g 7) :: (g 8) :: (g 9) :: (g 10) :: (g 11) :: (g 12) :: (g 13) :: (g 14) :: (g 15) :: (g 16) :: (g 17) :: (g 18) :: (g 19) :: (g 20) :: (g 21) :: (g 22) :: (g 23) :: (g 24) :: (g 25) :: (g 26) :: (g 27) :: (g 28) :: (g 29) :: (g 30) :: (g 31) :: (g 32) :: (g 33) :: (g 34) :: (g 35) :: (g 36) :: (g 37) :: (g 38) :: (g 39) :: (g 40) :: (g 41) :: (g 42) :: (g 43) :: (g 44) :: (g 45) :: (g 46) :: (g 47) :: (g 48) :: (g 49) :: (g 50) :: (g 51) :: (g 52) :: (g 53) :: (g 54) :: (g 55) :: (g 56) :: (g 57) :: (g 58) :: (g 59) :: (g 60) :: (g 61) :: (g 62) :: (g 63) :: (g 64) :: (g 65) :: (g 66) :: (g 67) :: (g 68) :: (g 69) :: (g 70) :: (g 71) :: (g 72) :: (g 73) :: (g 74) :: (g 75) :: (g 76) :: (g 77) :: (g 78) :: (g 79) :: (g 80) :: (g 81) :: (g 82) :: (g 83) :: (g 84) :: (g 85) :: (g 86) :: (g 87) :: (g 88) :: (g 89) :: (g 90) :: (g 91) :: (g 92) :: (g 93) :: (g 94) :: []))), (h1, .inl (cA, 1000, .inl f))] H := hP
  have hD : va_D A [(h0, .inr (11, (.int 0 :: .ref h1 :: .int 0 :: (g 3) :: (g 4) :: (g 5) :: (g 6) :: (g 7) :: (g 8) :: (g 9) :: (g 10) :: (g 11) :: (g 12) :: (g 13) :: (g 14) :: (g 15) :: (g 16) :: (g 17) :: (g 18) :: (g 19) :: (g 20) :: (g 21) :: (g 22) :: (g 23) :: (g 24) :: (g 25) :: (g 26) :: (g 27) :: (g 28) :: (g 29) :: (g 30) :: (g 31) :: (g 32) :: (g 33) :: (g 34) :: (g 35) :: (g 36) :: (g 37) :: (g 38) :: (g 39) :: (g 40) :: (g 41) :: (g 42) :: (g 43) :: (g 44) :: (g 45) :: (g 46) :: (g 47) :: (g 48) :: (g 49) :: (g 50) :: (g 51) :: (g 52) :: (g 53) :: (g 54) :: (g 55) :: (g 56) :: (g 57) :: (g 58) :: (g 59) :: (g 60) :: (g 61) :: (g 62) :: (g 63) :: (g 64) :: (g 65) :: (g 66) :: (g 67) :: (g 68) :: (g 69) :: (g 70) :: (g 71) :: (g 72) :: (g 73) :: (g 74) :: (g 75) :: (g 76) :: (g 77) :: (g 78) :: (g 79) :: (g 80) :: (g 81) :: (g 82) :: (g 83) :: (g 84) :: (g 85) :: (g 86) :: (g 87) :: (g 88) :: (g 89) :: (g 90) :: (g 91) :: (g 92) :: (g 93) :: (g 94) :: []))), (h1, .inl (cA, 1000, .inl f))] := hD
  refine lv_aload_n hx hb dX11_feed_5 rfl (lv_at hl 0 rfl) ?_
  refine va_get (D := (dC, dI)) (ci := 11) (v := .int 0) (C := RX11) (T := TX11) (N := 95) hx hb hts inlX11 hown hK hP 0 rfl rfl 2 (by decide) (hts (.fieldLink RX11 182 "ShapeReaderModel" "taped" "I") mw_10_23) (fun _ h9 => h9) rfl dX11_feed_6 ?_
  refine lv_bipush (v := 20) hx hb dX11_feed_9 (by decide) ?_
  refine lv_iadd hx hb dX11_feed_11 ?_
  refine lv_topi (fun k_1 ek_1 => ?_)
  obtain rfl : k_1 = 20 := ek_1.trans (by decide)
  refine lv_sipush (v := 1000) hx hb dX11_feed_12 (by decide) ?_
  refine lv_icmp_le (tgt := 20) hx hb dX11_feed_15 (by decide) (fun _ => ?_) (fun h => absurd (by decide) h)
  refine lv_aload_n hx hb dX11_feed_20 rfl (lv_at hl 0 rfl) ?_
  refine lv_iload_n hx hb dX11_feed_21 rfl (lv_at hl 1 rfl) ?_
  have hPc := hP.sub (ws' := [(h0, .inr (11, (.int 0 :: .ref h1 :: .int 0 :: (g 3) :: (g 4) :: (g 5) :: (g 6) :: (g 7) :: (g 8) :: (g 9) :: (g 10) :: (g 11) :: (g 12) :: (g 13) :: (g 14) :: (g 15) :: (g 16) :: (g 17) :: (g 18) :: (g 19) :: (g 20) :: (g 21) :: (g 22) :: (g 23) :: (g 24) :: (g 25) :: (g 26) :: (g 27) :: (g 28) :: (g 29) :: (g 30) :: (g 31) :: (g 32) :: (g 33) :: (g 34) :: (g 35) :: (g 36) :: (g 37) :: (g 38) :: (g 39) :: (g 40) :: (g 41) :: (g 42) :: (g 43) :: (g 44) :: (g 45) :: (g 46) :: (g 47) :: (g 48) :: (g 49) :: (g 50) :: (g 51) :: (g 52) :: (g 53) :: (g 54) :: (g 55) :: (g 56) :: (g 57) :: (g 58) :: (g 59) :: (g 60) :: (g 61) :: (g 62) :: (g 63) :: (g 64) :: (g 65) :: (g 66) :: (g 67) :: (g 68) :: (g 69) :: (g 70) :: (g 71) :: (g 72) :: (g 73) :: (g 74) :: (g 75) :: (g 76) :: (g 77) :: (g 78) :: (g 79) :: (g 80) :: (g 81) :: (g 82) :: (g 83) :: (g 84) :: (g 85) :: (g 86) :: (g 87) :: (g 88) :: (g 89) :: (g 90) :: (g 91) :: (g 92) :: (g 93) :: (g 94) :: []))), (h1, .inl (cA, 1000, .inl f))]) [0, 1] rfl
  have hDc := hD.sub (ws' := [(h0, .inr (11, (.int 0 :: .ref h1 :: .int 0 :: (g 3) :: (g 4) :: (g 5) :: (g 6) :: (g 7) :: (g 8) :: (g 9) :: (g 10) :: (g 11) :: (g 12) :: (g 13) :: (g 14) :: (g 15) :: (g 16) :: (g 17) :: (g 18) :: (g 19) :: (g 20) :: (g 21) :: (g 22) :: (g 23) :: (g 24) :: (g 25) :: (g 26) :: (g 27) :: (g 28) :: (g 29) :: (g 30) :: (g 31) :: (g 32) :: (g 33) :: (g 34) :: (g 35) :: (g 36) :: (g 37) :: (g 38) :: (g 39) :: (g 40) :: (g 41) :: (g 42) :: (g 43) :: (g 44) :: (g 45) :: (g 46) :: (g 47) :: (g 48) :: (g 49) :: (g 50) :: (g 51) :: (g 52) :: (g 53) :: (g 54) :: (g 55) :: (g 56) :: (g 57) :: (g 58) :: (g 59) :: (g 60) :: (g 61) :: (g 62) :: (g 63) :: (g 64) :: (g 65) :: (g 66) :: (g 67) :: (g 68) :: (g 69) :: (g 70) :: (g 71) :: (g 72) :: (g 73) :: (g 74) :: (g 75) :: (g 76) :: (g 77) :: (g 78) :: (g 79) :: (g 80) :: (g 81) :: (g 82) :: (g 83) :: (g 84) :: (g 85) :: (g 86) :: (g 87) :: (g 88) :: (g 89) :: (g 90) :: (g 91) :: (g 92) :: (g 93) :: (g 94) :: []))), (h1, .inl (cA, 1000, .inl f))]) [0, 1] (by decide) rfl
  have hKc := hK.sub (tys' := [(cA, .byte)]) [0] rfl
  have hFc := va_free (wc := [(h0, .inr (11, (.int 0 :: .ref h1 :: .int 0 :: (g 3) :: (g 4) :: (g 5) :: (g 6) :: (g 7) :: (g 8) :: (g 9) :: (g 10) :: (g 11) :: (g 12) :: (g 13) :: (g 14) :: (g 15) :: (g 16) :: (g 17) :: (g 18) :: (g 19) :: (g 20) :: (g 21) :: (g 22) :: (g 23) :: (g 24) :: (g 25) :: (g 26) :: (g 27) :: (g 28) :: (g 29) :: (g 30) :: (g 31) :: (g 32) :: (g 33) :: (g 34) :: (g 35) :: (g 36) :: (g 37) :: (g 38) :: (g 39) :: (g 40) :: (g 41) :: (g 42) :: (g 43) :: (g 44) :: (g 45) :: (g 46) :: (g 47) :: (g 48) :: (g 49) :: (g 50) :: (g 51) :: (g 52) :: (g 53) :: (g 54) :: (g 55) :: (g 56) :: (g 57) :: (g 58) :: (g 59) :: (g 60) :: (g 61) :: (g 62) :: (g 63) :: (g 64) :: (g 65) :: (g 66) :: (g 67) :: (g 68) :: (g 69) :: (g 70) :: (g 71) :: (g 72) :: (g 73) :: (g 74) :: (g 75) :: (g 76) :: (g 77) :: (g 78) :: (g 79) :: (g 80) :: (g 81) :: (g 82) :: (g 83) :: (g 84) :: (g 85) :: (g 86) :: (g 87) :: (g 88) :: (g 89) :: (g 90) :: (g 91) :: (g 92) :: (g 93) :: (g 94) :: []))), (h1, .inl (cA, 1000, .inl f))]) hD hS hA [0, 1] rfl
  refine va_callv (va_runV (As := [.int p0]) (rest := []) ⟨hx, hb, hml, hown, hts⟩ (c_puts0 l dC dI h0 h1 cA f (fun k => (cond (Nat.beq k 0) (.int 0) (g k))) p0 H.size) (cwV 1 hts (gV mw_10_24 mw_10_25 mw_10_26 mw_0_15 mw_21_5) rfl rfl rfl (by decide +kernel) ⟨(Nat.le_of_ble_eq_true rfl), (Nat.le_of_ble_eq_true rfl)⟩) (vV (ci := 11) (q0 := 0) hKc hPc hDc rfl rfl) rfl rfl hl.1 rfl (lv_room (Nat.le_of_ble_eq_true rfl)) dX11_feed_22 ⟨(Nat.le_of_ble_eq_true rfl), (Nat.le_of_ble_eq_true rfl)⟩) hS (fun q _ h => hFc q h) hFc (fun u t H1 locs ht hvm hw hB hz1 hk1 hS => ?_)
  obtain ⟨f9_4, hP1, hK1, hD1⟩ := hB
  rw [ht] at hP1
  have hK1 := va_K.moved hvm.symm hK1
  obtain ⟨hP, hD⟩ := va_join (wr := []) (w1 := [(h0, .inr (11, (.int 0 :: .ref h1 :: .int 4 :: (g 3) :: (g 4) :: (g 5) :: (g 6) :: (g 7) :: (g 8) :: (g 9) :: (g 10) :: (g 11) :: (g 12) :: (g 13) :: (g 14) :: (g 15) :: (g 16) :: (g 17) :: (g 18) :: (g 19) :: (g 20) :: (g 21) :: (g 22) :: (g 23) :: (g 24) :: (g 25) :: (g 26) :: (g 27) :: (g 28) :: (g 29) :: (g 30) :: (g 31) :: (g 32) :: (g 33) :: (g 34) :: (g 35) :: (g 36) :: (g 37) :: (g 38) :: (g 39) :: (g 40) :: (g 41) :: (g 42) :: (g 43) :: (g 44) :: (g 45) :: (g 46) :: (g 47) :: (g 48) :: (g 49) :: (g 50) :: (g 51) :: (g 52) :: (g 53) :: (g 54) :: (g 55) :: (g 56) :: (g 57) :: (g 58) :: (g 59) :: (g 60) :: (g 61) :: (g 62) :: (g 63) :: (g 64) :: (g 65) :: (g 66) :: (g 67) :: (g 68) :: (g 69) :: (g 70) :: (g 71) :: (g 72) :: (g 73) :: (g 74) :: (g 75) :: (g 76) :: (g 77) :: (g 78) :: (g 79) :: (g 80) :: (g 81) :: (g 82) :: (g 83) :: (g 84) :: (g 85) :: (g 86) :: (g 87) :: (g 88) :: (g 89) :: (g 90) :: (g 91) :: (g 92) :: (g 93) :: (g 94) :: []))), (h1, .inl (cA, 1000, .inl f9_4))]) hP hD [0, 1] [] rfl rfl (by decide) (by decide) hk1 hFc hP1 hD1
  clear hPc hDc hKc hP1 hK1 hD1 hFc hk1 hz1
  generalize H1 = H at hP hS ⊢
  have hP : va_P (dC, dI) vwCl [(h0, .inr (11, (.int 0 :: .ref h1 :: .int 4 :: (g 3) :: (g 4) :: (g 5) :: (g 6) :: (g 7) :: (g 8) :: (g 9) :: (g 10) :: (g 11) :: (g 12) :: (g 13) :: (g 14) :: (g 15) :: (g 16) :: (g 17) :: (g 18) :: (g 19) :: (g 20) :: (g 21) :: (g 22) :: (g 23) :: (g 24) :: (g 25) :: (g 26) :: (g 27) :: (g 28) :: (g 29) :: (g 30) :: (g 31) :: (g 32) :: (g 33) :: (g 34) :: (g 35) :: (g 36) :: (g 37) :: (g 38) :: (g 39) :: (g 40) :: (g 41) :: (g 42) :: (g 43) :: (g 44) :: (g 45) :: (g 46) :: (g 47) :: (g 48) :: (g 49) :: (g 50) :: (g 51) :: (g 52) :: (g 53) :: (g 54) :: (g 55) :: (g 56) :: (g 57) :: (g 58) :: (g 59) :: (g 60) :: (g 61) :: (g 62) :: (g 63) :: (g 64) :: (g 65) :: (g 66) :: (g 67) :: (g 68) :: (g 69) :: (g 70) :: (g 71) :: (g 72) :: (g 73) :: (g 74) :: (g 75) :: (g 76) :: (g 77) :: (g 78) :: (g 79) :: (g 80) :: (g 81) :: (g 82) :: (g 83) :: (g 84) :: (g 85) :: (g 86) :: (g 87) :: (g 88) :: (g 89) :: (g 90) :: (g 91) :: (g 92) :: (g 93) :: (g 94) :: []))), (h1, .inl (cA, 1000, .inl f9_4))] H := hP
  have hD : va_D A [(h0, .inr (11, (.int 0 :: .ref h1 :: .int 4 :: (g 3) :: (g 4) :: (g 5) :: (g 6) :: (g 7) :: (g 8) :: (g 9) :: (g 10) :: (g 11) :: (g 12) :: (g 13) :: (g 14) :: (g 15) :: (g 16) :: (g 17) :: (g 18) :: (g 19) :: (g 20) :: (g 21) :: (g 22) :: (g 23) :: (g 24) :: (g 25) :: (g 26) :: (g 27) :: (g 28) :: (g 29) :: (g 30) :: (g 31) :: (g 32) :: (g 33) :: (g 34) :: (g 35) :: (g 36) :: (g 37) :: (g 38) :: (g 39) :: (g 40) :: (g 41) :: (g 42) :: (g 43) :: (g 44) :: (g 45) :: (g 46) :: (g 47) :: (g 48) :: (g 49) :: (g 50) :: (g 51) :: (g 52) :: (g 53) :: (g 54) :: (g 55) :: (g 56) :: (g 57) :: (g 58) :: (g 59) :: (g 60) :: (g 61) :: (g 62) :: (g 63) :: (g 64) :: (g 65) :: (g 66) :: (g 67) :: (g 68) :: (g 69) :: (g 70) :: (g 71) :: (g 72) :: (g 73) :: (g 74) :: (g 75) :: (g 76) :: (g 77) :: (g 78) :: (g 79) :: (g 80) :: (g 81) :: (g 82) :: (g 83) :: (g 84) :: (g 85) :: (g 86) :: (g 87) :: (g 88) :: (g 89) :: (g 90) :: (g 91) :: (g 92) :: (g 93) :: (g 94) :: []))), (h1, .inl (cA, 1000, .inl f9_4))] := hD
  refine lv_aload_n hx hb dX11_feed_25 rfl (lv_at hl 0 rfl) ?_
  refine lv_iload_n hx hb dX11_feed_26 rfl (lv_at hl 2 rfl) ?_
  have hPc := hP.sub (ws' := [(h0, .inr (11, (.int 0 :: .ref h1 :: .int 4 :: (g 3) :: (g 4) :: (g 5) :: (g 6) :: (g 7) :: (g 8) :: (g 9) :: (g 10) :: (g 11) :: (g 12) :: (g 13) :: (g 14) :: (g 15) :: (g 16) :: (g 17) :: (g 18) :: (g 19) :: (g 20) :: (g 21) :: (g 22) :: (g 23) :: (g 24) :: (g 25) :: (g 26) :: (g 27) :: (g 28) :: (g 29) :: (g 30) :: (g 31) :: (g 32) :: (g 33) :: (g 34) :: (g 35) :: (g 36) :: (g 37) :: (g 38) :: (g 39) :: (g 40) :: (g 41) :: (g 42) :: (g 43) :: (g 44) :: (g 45) :: (g 46) :: (g 47) :: (g 48) :: (g 49) :: (g 50) :: (g 51) :: (g 52) :: (g 53) :: (g 54) :: (g 55) :: (g 56) :: (g 57) :: (g 58) :: (g 59) :: (g 60) :: (g 61) :: (g 62) :: (g 63) :: (g 64) :: (g 65) :: (g 66) :: (g 67) :: (g 68) :: (g 69) :: (g 70) :: (g 71) :: (g 72) :: (g 73) :: (g 74) :: (g 75) :: (g 76) :: (g 77) :: (g 78) :: (g 79) :: (g 80) :: (g 81) :: (g 82) :: (g 83) :: (g 84) :: (g 85) :: (g 86) :: (g 87) :: (g 88) :: (g 89) :: (g 90) :: (g 91) :: (g 92) :: (g 93) :: (g 94) :: []))), (h1, .inl (cA, 1000, .inl f9_4))]) [0, 1] rfl
  have hDc := hD.sub (ws' := [(h0, .inr (11, (.int 0 :: .ref h1 :: .int 4 :: (g 3) :: (g 4) :: (g 5) :: (g 6) :: (g 7) :: (g 8) :: (g 9) :: (g 10) :: (g 11) :: (g 12) :: (g 13) :: (g 14) :: (g 15) :: (g 16) :: (g 17) :: (g 18) :: (g 19) :: (g 20) :: (g 21) :: (g 22) :: (g 23) :: (g 24) :: (g 25) :: (g 26) :: (g 27) :: (g 28) :: (g 29) :: (g 30) :: (g 31) :: (g 32) :: (g 33) :: (g 34) :: (g 35) :: (g 36) :: (g 37) :: (g 38) :: (g 39) :: (g 40) :: (g 41) :: (g 42) :: (g 43) :: (g 44) :: (g 45) :: (g 46) :: (g 47) :: (g 48) :: (g 49) :: (g 50) :: (g 51) :: (g 52) :: (g 53) :: (g 54) :: (g 55) :: (g 56) :: (g 57) :: (g 58) :: (g 59) :: (g 60) :: (g 61) :: (g 62) :: (g 63) :: (g 64) :: (g 65) :: (g 66) :: (g 67) :: (g 68) :: (g 69) :: (g 70) :: (g 71) :: (g 72) :: (g 73) :: (g 74) :: (g 75) :: (g 76) :: (g 77) :: (g 78) :: (g 79) :: (g 80) :: (g 81) :: (g 82) :: (g 83) :: (g 84) :: (g 85) :: (g 86) :: (g 87) :: (g 88) :: (g 89) :: (g 90) :: (g 91) :: (g 92) :: (g 93) :: (g 94) :: []))), (h1, .inl (cA, 1000, .inl f9_4))]) [0, 1] (by decide) rfl
  have hKc := hK.sub (tys' := [(cA, .byte)]) [0] rfl
  have hFc := va_free (wc := [(h0, .inr (11, (.int 0 :: .ref h1 :: .int 4 :: (g 3) :: (g 4) :: (g 5) :: (g 6) :: (g 7) :: (g 8) :: (g 9) :: (g 10) :: (g 11) :: (g 12) :: (g 13) :: (g 14) :: (g 15) :: (g 16) :: (g 17) :: (g 18) :: (g 19) :: (g 20) :: (g 21) :: (g 22) :: (g 23) :: (g 24) :: (g 25) :: (g 26) :: (g 27) :: (g 28) :: (g 29) :: (g 30) :: (g 31) :: (g 32) :: (g 33) :: (g 34) :: (g 35) :: (g 36) :: (g 37) :: (g 38) :: (g 39) :: (g 40) :: (g 41) :: (g 42) :: (g 43) :: (g 44) :: (g 45) :: (g 46) :: (g 47) :: (g 48) :: (g 49) :: (g 50) :: (g 51) :: (g 52) :: (g 53) :: (g 54) :: (g 55) :: (g 56) :: (g 57) :: (g 58) :: (g 59) :: (g 60) :: (g 61) :: (g 62) :: (g 63) :: (g 64) :: (g 65) :: (g 66) :: (g 67) :: (g 68) :: (g 69) :: (g 70) :: (g 71) :: (g 72) :: (g 73) :: (g 74) :: (g 75) :: (g 76) :: (g 77) :: (g 78) :: (g 79) :: (g 80) :: (g 81) :: (g 82) :: (g 83) :: (g 84) :: (g 85) :: (g 86) :: (g 87) :: (g 88) :: (g 89) :: (g 90) :: (g 91) :: (g 92) :: (g 93) :: (g 94) :: []))), (h1, .inl (cA, 1000, .inl f9_4))]) hD hS hA [0, 1] rfl
  refine va_callv (va_runV (As := [.int p1]) (rest := []) ⟨hx, hb, hml, hown, hts⟩ (c_puts4 l dC dI h0 h1 cA f9_4 (fun k => (cond (Nat.beq k 0) (.int 0) (g k))) p1 H.size) (cwV 1 hts (gV mw_10_24 mw_10_25 mw_10_26 mw_0_15 mw_21_5) rfl rfl rfl (by decide +kernel) ⟨(Nat.le_of_ble_eq_true rfl), (Nat.le_of_ble_eq_true rfl)⟩) (vV (ci := 11) (q0 := 0) hKc hPc hDc rfl rfl) rfl rfl hl.1 rfl (lv_room (Nat.le_of_ble_eq_true rfl)) dX11_feed_27 ⟨(Nat.le_of_ble_eq_true rfl), (Nat.le_of_ble_eq_true rfl)⟩) hS (fun q _ h => hFc q h) hFc (fun u t H1 locs ht hvm hw hB hz1 hk1 hS => ?_)
  obtain ⟨f9_6, hP1, hK1, hD1⟩ := hB
  rw [ht] at hP1
  have hK1 := va_K.moved hvm.symm hK1
  obtain ⟨hP, hD⟩ := va_join (wr := []) (w1 := [(h0, .inr (11, (.int 0 :: .ref h1 :: .int 8 :: (g 3) :: (g 4) :: (g 5) :: (g 6) :: (g 7) :: (g 8) :: (g 9) :: (g 10) :: (g 11) :: (g 12) :: (g 13) :: (g 14) :: (g 15) :: (g 16) :: (g 17) :: (g 18) :: (g 19) :: (g 20) :: (g 21) :: (g 22) :: (g 23) :: (g 24) :: (g 25) :: (g 26) :: (g 27) :: (g 28) :: (g 29) :: (g 30) :: (g 31) :: (g 32) :: (g 33) :: (g 34) :: (g 35) :: (g 36) :: (g 37) :: (g 38) :: (g 39) :: (g 40) :: (g 41) :: (g 42) :: (g 43) :: (g 44) :: (g 45) :: (g 46) :: (g 47) :: (g 48) :: (g 49) :: (g 50) :: (g 51) :: (g 52) :: (g 53) :: (g 54) :: (g 55) :: (g 56) :: (g 57) :: (g 58) :: (g 59) :: (g 60) :: (g 61) :: (g 62) :: (g 63) :: (g 64) :: (g 65) :: (g 66) :: (g 67) :: (g 68) :: (g 69) :: (g 70) :: (g 71) :: (g 72) :: (g 73) :: (g 74) :: (g 75) :: (g 76) :: (g 77) :: (g 78) :: (g 79) :: (g 80) :: (g 81) :: (g 82) :: (g 83) :: (g 84) :: (g 85) :: (g 86) :: (g 87) :: (g 88) :: (g 89) :: (g 90) :: (g 91) :: (g 92) :: (g 93) :: (g 94) :: []))), (h1, .inl (cA, 1000, .inl f9_6))]) hP hD [0, 1] [] rfl rfl (by decide) (by decide) hk1 hFc hP1 hD1
  clear hPc hDc hKc hP1 hK1 hD1 hFc hk1 hz1
  generalize H1 = H at hP hS ⊢
  have hP : va_P (dC, dI) vwCl [(h0, .inr (11, (.int 0 :: .ref h1 :: .int 8 :: (g 3) :: (g 4) :: (g 5) :: (g 6) :: (g 7) :: (g 8) :: (g 9) :: (g 10) :: (g 11) :: (g 12) :: (g 13) :: (g 14) :: (g 15) :: (g 16) :: (g 17) :: (g 18) :: (g 19) :: (g 20) :: (g 21) :: (g 22) :: (g 23) :: (g 24) :: (g 25) :: (g 26) :: (g 27) :: (g 28) :: (g 29) :: (g 30) :: (g 31) :: (g 32) :: (g 33) :: (g 34) :: (g 35) :: (g 36) :: (g 37) :: (g 38) :: (g 39) :: (g 40) :: (g 41) :: (g 42) :: (g 43) :: (g 44) :: (g 45) :: (g 46) :: (g 47) :: (g 48) :: (g 49) :: (g 50) :: (g 51) :: (g 52) :: (g 53) :: (g 54) :: (g 55) :: (g 56) :: (g 57) :: (g 58) :: (g 59) :: (g 60) :: (g 61) :: (g 62) :: (g 63) :: (g 64) :: (g 65) :: (g 66) :: (g 67) :: (g 68) :: (g 69) :: (g 70) :: (g 71) :: (g 72) :: (g 73) :: (g 74) :: (g 75) :: (g 76) :: (g 77) :: (g 78) :: (g 79) :: (g 80) :: (g 81) :: (g 82) :: (g 83) :: (g 84) :: (g 85) :: (g 86) :: (g 87) :: (g 88) :: (g 89) :: (g 90) :: (g 91) :: (g 92) :: (g 93) :: (g 94) :: []))), (h1, .inl (cA, 1000, .inl f9_6))] H := hP
  have hD : va_D A [(h0, .inr (11, (.int 0 :: .ref h1 :: .int 8 :: (g 3) :: (g 4) :: (g 5) :: (g 6) :: (g 7) :: (g 8) :: (g 9) :: (g 10) :: (g 11) :: (g 12) :: (g 13) :: (g 14) :: (g 15) :: (g 16) :: (g 17) :: (g 18) :: (g 19) :: (g 20) :: (g 21) :: (g 22) :: (g 23) :: (g 24) :: (g 25) :: (g 26) :: (g 27) :: (g 28) :: (g 29) :: (g 30) :: (g 31) :: (g 32) :: (g 33) :: (g 34) :: (g 35) :: (g 36) :: (g 37) :: (g 38) :: (g 39) :: (g 40) :: (g 41) :: (g 42) :: (g 43) :: (g 44) :: (g 45) :: (g 46) :: (g 47) :: (g 48) :: (g 49) :: (g 50) :: (g 51) :: (g 52) :: (g 53) :: (g 54) :: (g 55) :: (g 56) :: (g 57) :: (g 58) :: (g 59) :: (g 60) :: (g 61) :: (g 62) :: (g 63) :: (g 64) :: (g 65) :: (g 66) :: (g 67) :: (g 68) :: (g 69) :: (g 70) :: (g 71) :: (g 72) :: (g 73) :: (g 74) :: (g 75) :: (g 76) :: (g 77) :: (g 78) :: (g 79) :: (g 80) :: (g 81) :: (g 82) :: (g 83) :: (g 84) :: (g 85) :: (g 86) :: (g 87) :: (g 88) :: (g 89) :: (g 90) :: (g 91) :: (g 92) :: (g 93) :: (g 94) :: []))), (h1, .inl (cA, 1000, .inl f9_6))] := hD
  refine lv_aload_n hx hb dX11_feed_30 rfl (lv_at hl 0 rfl) ?_
  refine lv_iload_n hx hb dX11_feed_31 rfl (lv_at hl 3 rfl) ?_
  have hPc := hP.sub (ws' := [(h0, .inr (11, (.int 0 :: .ref h1 :: .int 8 :: (g 3) :: (g 4) :: (g 5) :: (g 6) :: (g 7) :: (g 8) :: (g 9) :: (g 10) :: (g 11) :: (g 12) :: (g 13) :: (g 14) :: (g 15) :: (g 16) :: (g 17) :: (g 18) :: (g 19) :: (g 20) :: (g 21) :: (g 22) :: (g 23) :: (g 24) :: (g 25) :: (g 26) :: (g 27) :: (g 28) :: (g 29) :: (g 30) :: (g 31) :: (g 32) :: (g 33) :: (g 34) :: (g 35) :: (g 36) :: (g 37) :: (g 38) :: (g 39) :: (g 40) :: (g 41) :: (g 42) :: (g 43) :: (g 44) :: (g 45) :: (g 46) :: (g 47) :: (g 48) :: (g 49) :: (g 50) :: (g 51) :: (g 52) :: (g 53) :: (g 54) :: (g 55) :: (g 56) :: (g 57) :: (g 58) :: (g 59) :: (g 60) :: (g 61) :: (g 62) :: (g 63) :: (g 64) :: (g 65) :: (g 66) :: (g 67) :: (g 68) :: (g 69) :: (g 70) :: (g 71) :: (g 72) :: (g 73) :: (g 74) :: (g 75) :: (g 76) :: (g 77) :: (g 78) :: (g 79) :: (g 80) :: (g 81) :: (g 82) :: (g 83) :: (g 84) :: (g 85) :: (g 86) :: (g 87) :: (g 88) :: (g 89) :: (g 90) :: (g 91) :: (g 92) :: (g 93) :: (g 94) :: []))), (h1, .inl (cA, 1000, .inl f9_6))]) [0, 1] rfl
  have hDc := hD.sub (ws' := [(h0, .inr (11, (.int 0 :: .ref h1 :: .int 8 :: (g 3) :: (g 4) :: (g 5) :: (g 6) :: (g 7) :: (g 8) :: (g 9) :: (g 10) :: (g 11) :: (g 12) :: (g 13) :: (g 14) :: (g 15) :: (g 16) :: (g 17) :: (g 18) :: (g 19) :: (g 20) :: (g 21) :: (g 22) :: (g 23) :: (g 24) :: (g 25) :: (g 26) :: (g 27) :: (g 28) :: (g 29) :: (g 30) :: (g 31) :: (g 32) :: (g 33) :: (g 34) :: (g 35) :: (g 36) :: (g 37) :: (g 38) :: (g 39) :: (g 40) :: (g 41) :: (g 42) :: (g 43) :: (g 44) :: (g 45) :: (g 46) :: (g 47) :: (g 48) :: (g 49) :: (g 50) :: (g 51) :: (g 52) :: (g 53) :: (g 54) :: (g 55) :: (g 56) :: (g 57) :: (g 58) :: (g 59) :: (g 60) :: (g 61) :: (g 62) :: (g 63) :: (g 64) :: (g 65) :: (g 66) :: (g 67) :: (g 68) :: (g 69) :: (g 70) :: (g 71) :: (g 72) :: (g 73) :: (g 74) :: (g 75) :: (g 76) :: (g 77) :: (g 78) :: (g 79) :: (g 80) :: (g 81) :: (g 82) :: (g 83) :: (g 84) :: (g 85) :: (g 86) :: (g 87) :: (g 88) :: (g 89) :: (g 90) :: (g 91) :: (g 92) :: (g 93) :: (g 94) :: []))), (h1, .inl (cA, 1000, .inl f9_6))]) [0, 1] (by decide) rfl
  have hKc := hK.sub (tys' := [(cA, .byte)]) [0] rfl
  have hFc := va_free (wc := [(h0, .inr (11, (.int 0 :: .ref h1 :: .int 8 :: (g 3) :: (g 4) :: (g 5) :: (g 6) :: (g 7) :: (g 8) :: (g 9) :: (g 10) :: (g 11) :: (g 12) :: (g 13) :: (g 14) :: (g 15) :: (g 16) :: (g 17) :: (g 18) :: (g 19) :: (g 20) :: (g 21) :: (g 22) :: (g 23) :: (g 24) :: (g 25) :: (g 26) :: (g 27) :: (g 28) :: (g 29) :: (g 30) :: (g 31) :: (g 32) :: (g 33) :: (g 34) :: (g 35) :: (g 36) :: (g 37) :: (g 38) :: (g 39) :: (g 40) :: (g 41) :: (g 42) :: (g 43) :: (g 44) :: (g 45) :: (g 46) :: (g 47) :: (g 48) :: (g 49) :: (g 50) :: (g 51) :: (g 52) :: (g 53) :: (g 54) :: (g 55) :: (g 56) :: (g 57) :: (g 58) :: (g 59) :: (g 60) :: (g 61) :: (g 62) :: (g 63) :: (g 64) :: (g 65) :: (g 66) :: (g 67) :: (g 68) :: (g 69) :: (g 70) :: (g 71) :: (g 72) :: (g 73) :: (g 74) :: (g 75) :: (g 76) :: (g 77) :: (g 78) :: (g 79) :: (g 80) :: (g 81) :: (g 82) :: (g 83) :: (g 84) :: (g 85) :: (g 86) :: (g 87) :: (g 88) :: (g 89) :: (g 90) :: (g 91) :: (g 92) :: (g 93) :: (g 94) :: []))), (h1, .inl (cA, 1000, .inl f9_6))]) hD hS hA [0, 1] rfl
  refine va_callv (va_runV (As := [.int p2]) (rest := []) ⟨hx, hb, hml, hown, hts⟩ (c_puts8 l dC dI h0 h1 cA f9_6 (fun k => (cond (Nat.beq k 0) (.int 0) (g k))) p2 H.size) (cwV 1 hts (gV mw_10_24 mw_10_25 mw_10_26 mw_0_15 mw_21_5) rfl rfl rfl (by decide +kernel) ⟨(Nat.le_of_ble_eq_true rfl), (Nat.le_of_ble_eq_true rfl)⟩) (vV (ci := 11) (q0 := 0) hKc hPc hDc rfl rfl) rfl rfl hl.1 rfl (lv_room (Nat.le_of_ble_eq_true rfl)) dX11_feed_32 ⟨(Nat.le_of_ble_eq_true rfl), (Nat.le_of_ble_eq_true rfl)⟩) hS (fun q _ h => hFc q h) hFc (fun u t H1 locs ht hvm hw hB hz1 hk1 hS => ?_)
  obtain ⟨f9_8, hP1, hK1, hD1⟩ := hB
  rw [ht] at hP1
  have hK1 := va_K.moved hvm.symm hK1
  obtain ⟨hP, hD⟩ := va_join (wr := []) (w1 := [(h0, .inr (11, (.int 0 :: .ref h1 :: .int 12 :: (g 3) :: (g 4) :: (g 5) :: (g 6) :: (g 7) :: (g 8) :: (g 9) :: (g 10) :: (g 11) :: (g 12) :: (g 13) :: (g 14) :: (g 15) :: (g 16) :: (g 17) :: (g 18) :: (g 19) :: (g 20) :: (g 21) :: (g 22) :: (g 23) :: (g 24) :: (g 25) :: (g 26) :: (g 27) :: (g 28) :: (g 29) :: (g 30) :: (g 31) :: (g 32) :: (g 33) :: (g 34) :: (g 35) :: (g 36) :: (g 37) :: (g 38) :: (g 39) :: (g 40) :: (g 41) :: (g 42) :: (g 43) :: (g 44) :: (g 45) :: (g 46) :: (g 47) :: (g 48) :: (g 49) :: (g 50) :: (g 51) :: (g 52) :: (g 53) :: (g 54) :: (g 55) :: (g 56) :: (g 57) :: (g 58) :: (g 59) :: (g 60) :: (g 61) :: (g 62) :: (g 63) :: (g 64) :: (g 65) :: (g 66) :: (g 67) :: (g 68) :: (g 69) :: (g 70) :: (g 71) :: (g 72) :: (g 73) :: (g 74) :: (g 75) :: (g 76) :: (g 77) :: (g 78) :: (g 79) :: (g 80) :: (g 81) :: (g 82) :: (g 83) :: (g 84) :: (g 85) :: (g 86) :: (g 87) :: (g 88) :: (g 89) :: (g 90) :: (g 91) :: (g 92) :: (g 93) :: (g 94) :: []))), (h1, .inl (cA, 1000, .inl f9_8))]) hP hD [0, 1] [] rfl rfl (by decide) (by decide) hk1 hFc hP1 hD1
  clear hPc hDc hKc hP1 hK1 hD1 hFc hk1 hz1
  generalize H1 = H at hP hS ⊢
  have hP : va_P (dC, dI) vwCl [(h0, .inr (11, (.int 0 :: .ref h1 :: .int 12 :: (g 3) :: (g 4) :: (g 5) :: (g 6) :: (g 7) :: (g 8) :: (g 9) :: (g 10) :: (g 11) :: (g 12) :: (g 13) :: (g 14) :: (g 15) :: (g 16) :: (g 17) :: (g 18) :: (g 19) :: (g 20) :: (g 21) :: (g 22) :: (g 23) :: (g 24) :: (g 25) :: (g 26) :: (g 27) :: (g 28) :: (g 29) :: (g 30) :: (g 31) :: (g 32) :: (g 33) :: (g 34) :: (g 35) :: (g 36) :: (g 37) :: (g 38) :: (g 39) :: (g 40) :: (g 41) :: (g 42) :: (g 43) :: (g 44) :: (g 45) :: (g 46) :: (g 47) :: (g 48) :: (g 49) :: (g 50) :: (g 51) :: (g 52) :: (g 53) :: (g 54) :: (g 55) :: (g 56) :: (g 57) :: (g 58) :: (g 59) :: (g 60) :: (g 61) :: (g 62) :: (g 63) :: (g 64) :: (g 65) :: (g 66) :: (g 67) :: (g 68) :: (g 69) :: (g 70) :: (g 71) :: (g 72) :: (g 73) :: (g 74) :: (g 75) :: (g 76) :: (g 77) :: (g 78) :: (g 79) :: (g 80) :: (g 81) :: (g 82) :: (g 83) :: (g 84) :: (g 85) :: (g 86) :: (g 87) :: (g 88) :: (g 89) :: (g 90) :: (g 91) :: (g 92) :: (g 93) :: (g 94) :: []))), (h1, .inl (cA, 1000, .inl f9_8))] H := hP
  have hD : va_D A [(h0, .inr (11, (.int 0 :: .ref h1 :: .int 12 :: (g 3) :: (g 4) :: (g 5) :: (g 6) :: (g 7) :: (g 8) :: (g 9) :: (g 10) :: (g 11) :: (g 12) :: (g 13) :: (g 14) :: (g 15) :: (g 16) :: (g 17) :: (g 18) :: (g 19) :: (g 20) :: (g 21) :: (g 22) :: (g 23) :: (g 24) :: (g 25) :: (g 26) :: (g 27) :: (g 28) :: (g 29) :: (g 30) :: (g 31) :: (g 32) :: (g 33) :: (g 34) :: (g 35) :: (g 36) :: (g 37) :: (g 38) :: (g 39) :: (g 40) :: (g 41) :: (g 42) :: (g 43) :: (g 44) :: (g 45) :: (g 46) :: (g 47) :: (g 48) :: (g 49) :: (g 50) :: (g 51) :: (g 52) :: (g 53) :: (g 54) :: (g 55) :: (g 56) :: (g 57) :: (g 58) :: (g 59) :: (g 60) :: (g 61) :: (g 62) :: (g 63) :: (g 64) :: (g 65) :: (g 66) :: (g 67) :: (g 68) :: (g 69) :: (g 70) :: (g 71) :: (g 72) :: (g 73) :: (g 74) :: (g 75) :: (g 76) :: (g 77) :: (g 78) :: (g 79) :: (g 80) :: (g 81) :: (g 82) :: (g 83) :: (g 84) :: (g 85) :: (g 86) :: (g 87) :: (g 88) :: (g 89) :: (g 90) :: (g 91) :: (g 92) :: (g 93) :: (g 94) :: []))), (h1, .inl (cA, 1000, .inl f9_8))] := hD
  refine lv_aload_n hx hb dX11_feed_35 rfl (lv_at hl 0 rfl) ?_
  refine lv_iload hx hb dX11_feed_36 (lv_at hl 4 rfl) ?_
  have hPc := hP.sub (ws' := [(h0, .inr (11, (.int 0 :: .ref h1 :: .int 12 :: (g 3) :: (g 4) :: (g 5) :: (g 6) :: (g 7) :: (g 8) :: (g 9) :: (g 10) :: (g 11) :: (g 12) :: (g 13) :: (g 14) :: (g 15) :: (g 16) :: (g 17) :: (g 18) :: (g 19) :: (g 20) :: (g 21) :: (g 22) :: (g 23) :: (g 24) :: (g 25) :: (g 26) :: (g 27) :: (g 28) :: (g 29) :: (g 30) :: (g 31) :: (g 32) :: (g 33) :: (g 34) :: (g 35) :: (g 36) :: (g 37) :: (g 38) :: (g 39) :: (g 40) :: (g 41) :: (g 42) :: (g 43) :: (g 44) :: (g 45) :: (g 46) :: (g 47) :: (g 48) :: (g 49) :: (g 50) :: (g 51) :: (g 52) :: (g 53) :: (g 54) :: (g 55) :: (g 56) :: (g 57) :: (g 58) :: (g 59) :: (g 60) :: (g 61) :: (g 62) :: (g 63) :: (g 64) :: (g 65) :: (g 66) :: (g 67) :: (g 68) :: (g 69) :: (g 70) :: (g 71) :: (g 72) :: (g 73) :: (g 74) :: (g 75) :: (g 76) :: (g 77) :: (g 78) :: (g 79) :: (g 80) :: (g 81) :: (g 82) :: (g 83) :: (g 84) :: (g 85) :: (g 86) :: (g 87) :: (g 88) :: (g 89) :: (g 90) :: (g 91) :: (g 92) :: (g 93) :: (g 94) :: []))), (h1, .inl (cA, 1000, .inl f9_8))]) [0, 1] rfl
  have hDc := hD.sub (ws' := [(h0, .inr (11, (.int 0 :: .ref h1 :: .int 12 :: (g 3) :: (g 4) :: (g 5) :: (g 6) :: (g 7) :: (g 8) :: (g 9) :: (g 10) :: (g 11) :: (g 12) :: (g 13) :: (g 14) :: (g 15) :: (g 16) :: (g 17) :: (g 18) :: (g 19) :: (g 20) :: (g 21) :: (g 22) :: (g 23) :: (g 24) :: (g 25) :: (g 26) :: (g 27) :: (g 28) :: (g 29) :: (g 30) :: (g 31) :: (g 32) :: (g 33) :: (g 34) :: (g 35) :: (g 36) :: (g 37) :: (g 38) :: (g 39) :: (g 40) :: (g 41) :: (g 42) :: (g 43) :: (g 44) :: (g 45) :: (g 46) :: (g 47) :: (g 48) :: (g 49) :: (g 50) :: (g 51) :: (g 52) :: (g 53) :: (g 54) :: (g 55) :: (g 56) :: (g 57) :: (g 58) :: (g 59) :: (g 60) :: (g 61) :: (g 62) :: (g 63) :: (g 64) :: (g 65) :: (g 66) :: (g 67) :: (g 68) :: (g 69) :: (g 70) :: (g 71) :: (g 72) :: (g 73) :: (g 74) :: (g 75) :: (g 76) :: (g 77) :: (g 78) :: (g 79) :: (g 80) :: (g 81) :: (g 82) :: (g 83) :: (g 84) :: (g 85) :: (g 86) :: (g 87) :: (g 88) :: (g 89) :: (g 90) :: (g 91) :: (g 92) :: (g 93) :: (g 94) :: []))), (h1, .inl (cA, 1000, .inl f9_8))]) [0, 1] (by decide) rfl
  have hKc := hK.sub (tys' := [(cA, .byte)]) [0] rfl
  have hFc := va_free (wc := [(h0, .inr (11, (.int 0 :: .ref h1 :: .int 12 :: (g 3) :: (g 4) :: (g 5) :: (g 6) :: (g 7) :: (g 8) :: (g 9) :: (g 10) :: (g 11) :: (g 12) :: (g 13) :: (g 14) :: (g 15) :: (g 16) :: (g 17) :: (g 18) :: (g 19) :: (g 20) :: (g 21) :: (g 22) :: (g 23) :: (g 24) :: (g 25) :: (g 26) :: (g 27) :: (g 28) :: (g 29) :: (g 30) :: (g 31) :: (g 32) :: (g 33) :: (g 34) :: (g 35) :: (g 36) :: (g 37) :: (g 38) :: (g 39) :: (g 40) :: (g 41) :: (g 42) :: (g 43) :: (g 44) :: (g 45) :: (g 46) :: (g 47) :: (g 48) :: (g 49) :: (g 50) :: (g 51) :: (g 52) :: (g 53) :: (g 54) :: (g 55) :: (g 56) :: (g 57) :: (g 58) :: (g 59) :: (g 60) :: (g 61) :: (g 62) :: (g 63) :: (g 64) :: (g 65) :: (g 66) :: (g 67) :: (g 68) :: (g 69) :: (g 70) :: (g 71) :: (g 72) :: (g 73) :: (g 74) :: (g 75) :: (g 76) :: (g 77) :: (g 78) :: (g 79) :: (g 80) :: (g 81) :: (g 82) :: (g 83) :: (g 84) :: (g 85) :: (g 86) :: (g 87) :: (g 88) :: (g 89) :: (g 90) :: (g 91) :: (g 92) :: (g 93) :: (g 94) :: []))), (h1, .inl (cA, 1000, .inl f9_8))]) hD hS hA [0, 1] rfl
  refine va_callv (va_runV (As := [.int p3]) (rest := []) ⟨hx, hb, hml, hown, hts⟩ (c_puts12 l dC dI h0 h1 cA f9_8 (fun k => (cond (Nat.beq k 0) (.int 0) (g k))) p3 H.size) (cwV 1 hts (gV mw_10_24 mw_10_25 mw_10_26 mw_0_15 mw_21_5) rfl rfl rfl (by decide +kernel) ⟨(Nat.le_of_ble_eq_true rfl), (Nat.le_of_ble_eq_true rfl)⟩) (vV (ci := 11) (q0 := 0) hKc hPc hDc rfl rfl) rfl rfl hl.1 rfl (lv_room (Nat.le_of_ble_eq_true rfl)) dX11_feed_38 ⟨(Nat.le_of_ble_eq_true rfl), (Nat.le_of_ble_eq_true rfl)⟩) hS (fun q _ h => hFc q h) hFc (fun u t H1 locs ht hvm hw hB hz1 hk1 hS => ?_)
  obtain ⟨f9_10, hP1, hK1, hD1⟩ := hB
  rw [ht] at hP1
  have hK1 := va_K.moved hvm.symm hK1
  obtain ⟨hP, hD⟩ := va_join (wr := []) (w1 := [(h0, .inr (11, (.int 0 :: .ref h1 :: .int 16 :: (g 3) :: (g 4) :: (g 5) :: (g 6) :: (g 7) :: (g 8) :: (g 9) :: (g 10) :: (g 11) :: (g 12) :: (g 13) :: (g 14) :: (g 15) :: (g 16) :: (g 17) :: (g 18) :: (g 19) :: (g 20) :: (g 21) :: (g 22) :: (g 23) :: (g 24) :: (g 25) :: (g 26) :: (g 27) :: (g 28) :: (g 29) :: (g 30) :: (g 31) :: (g 32) :: (g 33) :: (g 34) :: (g 35) :: (g 36) :: (g 37) :: (g 38) :: (g 39) :: (g 40) :: (g 41) :: (g 42) :: (g 43) :: (g 44) :: (g 45) :: (g 46) :: (g 47) :: (g 48) :: (g 49) :: (g 50) :: (g 51) :: (g 52) :: (g 53) :: (g 54) :: (g 55) :: (g 56) :: (g 57) :: (g 58) :: (g 59) :: (g 60) :: (g 61) :: (g 62) :: (g 63) :: (g 64) :: (g 65) :: (g 66) :: (g 67) :: (g 68) :: (g 69) :: (g 70) :: (g 71) :: (g 72) :: (g 73) :: (g 74) :: (g 75) :: (g 76) :: (g 77) :: (g 78) :: (g 79) :: (g 80) :: (g 81) :: (g 82) :: (g 83) :: (g 84) :: (g 85) :: (g 86) :: (g 87) :: (g 88) :: (g 89) :: (g 90) :: (g 91) :: (g 92) :: (g 93) :: (g 94) :: []))), (h1, .inl (cA, 1000, .inl f9_10))]) hP hD [0, 1] [] rfl rfl (by decide) (by decide) hk1 hFc hP1 hD1
  clear hPc hDc hKc hP1 hK1 hD1 hFc hk1 hz1
  generalize H1 = H at hP hS ⊢
  have hP : va_P (dC, dI) vwCl [(h0, .inr (11, (.int 0 :: .ref h1 :: .int 16 :: (g 3) :: (g 4) :: (g 5) :: (g 6) :: (g 7) :: (g 8) :: (g 9) :: (g 10) :: (g 11) :: (g 12) :: (g 13) :: (g 14) :: (g 15) :: (g 16) :: (g 17) :: (g 18) :: (g 19) :: (g 20) :: (g 21) :: (g 22) :: (g 23) :: (g 24) :: (g 25) :: (g 26) :: (g 27) :: (g 28) :: (g 29) :: (g 30) :: (g 31) :: (g 32) :: (g 33) :: (g 34) :: (g 35) :: (g 36) :: (g 37) :: (g 38) :: (g 39) :: (g 40) :: (g 41) :: (g 42) :: (g 43) :: (g 44) :: (g 45) :: (g 46) :: (g 47) :: (g 48) :: (g 49) :: (g 50) :: (g 51) :: (g 52) :: (g 53) :: (g 54) :: (g 55) :: (g 56) :: (g 57) :: (g 58) :: (g 59) :: (g 60) :: (g 61) :: (g 62) :: (g 63) :: (g 64) :: (g 65) :: (g 66) :: (g 67) :: (g 68) :: (g 69) :: (g 70) :: (g 71) :: (g 72) :: (g 73) :: (g 74) :: (g 75) :: (g 76) :: (g 77) :: (g 78) :: (g 79) :: (g 80) :: (g 81) :: (g 82) :: (g 83) :: (g 84) :: (g 85) :: (g 86) :: (g 87) :: (g 88) :: (g 89) :: (g 90) :: (g 91) :: (g 92) :: (g 93) :: (g 94) :: []))), (h1, .inl (cA, 1000, .inl f9_10))] H := hP
  have hD : va_D A [(h0, .inr (11, (.int 0 :: .ref h1 :: .int 16 :: (g 3) :: (g 4) :: (g 5) :: (g 6) :: (g 7) :: (g 8) :: (g 9) :: (g 10) :: (g 11) :: (g 12) :: (g 13) :: (g 14) :: (g 15) :: (g 16) :: (g 17) :: (g 18) :: (g 19) :: (g 20) :: (g 21) :: (g 22) :: (g 23) :: (g 24) :: (g 25) :: (g 26) :: (g 27) :: (g 28) :: (g 29) :: (g 30) :: (g 31) :: (g 32) :: (g 33) :: (g 34) :: (g 35) :: (g 36) :: (g 37) :: (g 38) :: (g 39) :: (g 40) :: (g 41) :: (g 42) :: (g 43) :: (g 44) :: (g 45) :: (g 46) :: (g 47) :: (g 48) :: (g 49) :: (g 50) :: (g 51) :: (g 52) :: (g 53) :: (g 54) :: (g 55) :: (g 56) :: (g 57) :: (g 58) :: (g 59) :: (g 60) :: (g 61) :: (g 62) :: (g 63) :: (g 64) :: (g 65) :: (g 66) :: (g 67) :: (g 68) :: (g 69) :: (g 70) :: (g 71) :: (g 72) :: (g 73) :: (g 74) :: (g 75) :: (g 76) :: (g 77) :: (g 78) :: (g 79) :: (g 80) :: (g 81) :: (g 82) :: (g 83) :: (g 84) :: (g 85) :: (g 86) :: (g 87) :: (g 88) :: (g 89) :: (g 90) :: (g 91) :: (g 92) :: (g 93) :: (g 94) :: []))), (h1, .inl (cA, 1000, .inl f9_10))] := hD
  refine lv_aload_n hx hb dX11_feed_41 rfl (lv_at hl 0 rfl) ?_
  refine lv_iload hx hb dX11_feed_42 (lv_at hl 5 rfl) ?_
  have hPc := hP.sub (ws' := [(h0, .inr (11, (.int 0 :: .ref h1 :: .int 16 :: (g 3) :: (g 4) :: (g 5) :: (g 6) :: (g 7) :: (g 8) :: (g 9) :: (g 10) :: (g 11) :: (g 12) :: (g 13) :: (g 14) :: (g 15) :: (g 16) :: (g 17) :: (g 18) :: (g 19) :: (g 20) :: (g 21) :: (g 22) :: (g 23) :: (g 24) :: (g 25) :: (g 26) :: (g 27) :: (g 28) :: (g 29) :: (g 30) :: (g 31) :: (g 32) :: (g 33) :: (g 34) :: (g 35) :: (g 36) :: (g 37) :: (g 38) :: (g 39) :: (g 40) :: (g 41) :: (g 42) :: (g 43) :: (g 44) :: (g 45) :: (g 46) :: (g 47) :: (g 48) :: (g 49) :: (g 50) :: (g 51) :: (g 52) :: (g 53) :: (g 54) :: (g 55) :: (g 56) :: (g 57) :: (g 58) :: (g 59) :: (g 60) :: (g 61) :: (g 62) :: (g 63) :: (g 64) :: (g 65) :: (g 66) :: (g 67) :: (g 68) :: (g 69) :: (g 70) :: (g 71) :: (g 72) :: (g 73) :: (g 74) :: (g 75) :: (g 76) :: (g 77) :: (g 78) :: (g 79) :: (g 80) :: (g 81) :: (g 82) :: (g 83) :: (g 84) :: (g 85) :: (g 86) :: (g 87) :: (g 88) :: (g 89) :: (g 90) :: (g 91) :: (g 92) :: (g 93) :: (g 94) :: []))), (h1, .inl (cA, 1000, .inl f9_10))]) [0, 1] rfl
  have hDc := hD.sub (ws' := [(h0, .inr (11, (.int 0 :: .ref h1 :: .int 16 :: (g 3) :: (g 4) :: (g 5) :: (g 6) :: (g 7) :: (g 8) :: (g 9) :: (g 10) :: (g 11) :: (g 12) :: (g 13) :: (g 14) :: (g 15) :: (g 16) :: (g 17) :: (g 18) :: (g 19) :: (g 20) :: (g 21) :: (g 22) :: (g 23) :: (g 24) :: (g 25) :: (g 26) :: (g 27) :: (g 28) :: (g 29) :: (g 30) :: (g 31) :: (g 32) :: (g 33) :: (g 34) :: (g 35) :: (g 36) :: (g 37) :: (g 38) :: (g 39) :: (g 40) :: (g 41) :: (g 42) :: (g 43) :: (g 44) :: (g 45) :: (g 46) :: (g 47) :: (g 48) :: (g 49) :: (g 50) :: (g 51) :: (g 52) :: (g 53) :: (g 54) :: (g 55) :: (g 56) :: (g 57) :: (g 58) :: (g 59) :: (g 60) :: (g 61) :: (g 62) :: (g 63) :: (g 64) :: (g 65) :: (g 66) :: (g 67) :: (g 68) :: (g 69) :: (g 70) :: (g 71) :: (g 72) :: (g 73) :: (g 74) :: (g 75) :: (g 76) :: (g 77) :: (g 78) :: (g 79) :: (g 80) :: (g 81) :: (g 82) :: (g 83) :: (g 84) :: (g 85) :: (g 86) :: (g 87) :: (g 88) :: (g 89) :: (g 90) :: (g 91) :: (g 92) :: (g 93) :: (g 94) :: []))), (h1, .inl (cA, 1000, .inl f9_10))]) [0, 1] (by decide) rfl
  have hKc := hK.sub (tys' := [(cA, .byte)]) [0] rfl
  have hFc := va_free (wc := [(h0, .inr (11, (.int 0 :: .ref h1 :: .int 16 :: (g 3) :: (g 4) :: (g 5) :: (g 6) :: (g 7) :: (g 8) :: (g 9) :: (g 10) :: (g 11) :: (g 12) :: (g 13) :: (g 14) :: (g 15) :: (g 16) :: (g 17) :: (g 18) :: (g 19) :: (g 20) :: (g 21) :: (g 22) :: (g 23) :: (g 24) :: (g 25) :: (g 26) :: (g 27) :: (g 28) :: (g 29) :: (g 30) :: (g 31) :: (g 32) :: (g 33) :: (g 34) :: (g 35) :: (g 36) :: (g 37) :: (g 38) :: (g 39) :: (g 40) :: (g 41) :: (g 42) :: (g 43) :: (g 44) :: (g 45) :: (g 46) :: (g 47) :: (g 48) :: (g 49) :: (g 50) :: (g 51) :: (g 52) :: (g 53) :: (g 54) :: (g 55) :: (g 56) :: (g 57) :: (g 58) :: (g 59) :: (g 60) :: (g 61) :: (g 62) :: (g 63) :: (g 64) :: (g 65) :: (g 66) :: (g 67) :: (g 68) :: (g 69) :: (g 70) :: (g 71) :: (g 72) :: (g 73) :: (g 74) :: (g 75) :: (g 76) :: (g 77) :: (g 78) :: (g 79) :: (g 80) :: (g 81) :: (g 82) :: (g 83) :: (g 84) :: (g 85) :: (g 86) :: (g 87) :: (g 88) :: (g 89) :: (g 90) :: (g 91) :: (g 92) :: (g 93) :: (g 94) :: []))), (h1, .inl (cA, 1000, .inl f9_10))]) hD hS hA [0, 1] rfl
  refine va_callv (va_runV (As := [.int p4]) (rest := []) ⟨hx, hb, hml, hown, hts⟩ (c_puts16 l dC dI h0 h1 cA f9_10 (fun k => (cond (Nat.beq k 0) (.int 0) (g k))) p4 H.size) (cwV 1 hts (gV mw_10_24 mw_10_25 mw_10_26 mw_0_15 mw_21_5) rfl rfl rfl (by decide +kernel) ⟨(Nat.le_of_ble_eq_true rfl), (Nat.le_of_ble_eq_true rfl)⟩) (vV (ci := 11) (q0 := 0) hKc hPc hDc rfl rfl) rfl rfl hl.1 rfl (lv_room (Nat.le_of_ble_eq_true rfl)) dX11_feed_44 ⟨(Nat.le_of_ble_eq_true rfl), (Nat.le_of_ble_eq_true rfl)⟩) hS (fun q _ h => hFc q h) hFc (fun u t H1 locs ht hvm hw hB hz1 hk1 hS => ?_)
  obtain ⟨f9_12, hP1, hK1, hD1⟩ := hB
  rw [ht] at hP1
  have hK1 := va_K.moved hvm.symm hK1
  obtain ⟨hP, hD⟩ := va_join (wr := []) (w1 := [(h0, .inr (11, (.int 0 :: .ref h1 :: .int 20 :: (g 3) :: (g 4) :: (g 5) :: (g 6) :: (g 7) :: (g 8) :: (g 9) :: (g 10) :: (g 11) :: (g 12) :: (g 13) :: (g 14) :: (g 15) :: (g 16) :: (g 17) :: (g 18) :: (g 19) :: (g 20) :: (g 21) :: (g 22) :: (g 23) :: (g 24) :: (g 25) :: (g 26) :: (g 27) :: (g 28) :: (g 29) :: (g 30) :: (g 31) :: (g 32) :: (g 33) :: (g 34) :: (g 35) :: (g 36) :: (g 37) :: (g 38) :: (g 39) :: (g 40) :: (g 41) :: (g 42) :: (g 43) :: (g 44) :: (g 45) :: (g 46) :: (g 47) :: (g 48) :: (g 49) :: (g 50) :: (g 51) :: (g 52) :: (g 53) :: (g 54) :: (g 55) :: (g 56) :: (g 57) :: (g 58) :: (g 59) :: (g 60) :: (g 61) :: (g 62) :: (g 63) :: (g 64) :: (g 65) :: (g 66) :: (g 67) :: (g 68) :: (g 69) :: (g 70) :: (g 71) :: (g 72) :: (g 73) :: (g 74) :: (g 75) :: (g 76) :: (g 77) :: (g 78) :: (g 79) :: (g 80) :: (g 81) :: (g 82) :: (g 83) :: (g 84) :: (g 85) :: (g 86) :: (g 87) :: (g 88) :: (g 89) :: (g 90) :: (g 91) :: (g 92) :: (g 93) :: (g 94) :: []))), (h1, .inl (cA, 1000, .inl f9_12))]) hP hD [0, 1] [] rfl rfl (by decide) (by decide) hk1 hFc hP1 hD1
  clear hPc hDc hKc hP1 hK1 hD1 hFc hk1 hz1
  generalize H1 = H at hP hS ⊢
  have hP : va_P (dC, dI) vwCl [(h0, .inr (11, (.int 0 :: .ref h1 :: .int 20 :: (g 3) :: (g 4) :: (g 5) :: (g 6) :: (g 7) :: (g 8) :: (g 9) :: (g 10) :: (g 11) :: (g 12) :: (g 13) :: (g 14) :: (g 15) :: (g 16) :: (g 17) :: (g 18) :: (g 19) :: (g 20) :: (g 21) :: (g 22) :: (g 23) :: (g 24) :: (g 25) :: (g 26) :: (g 27) :: (g 28) :: (g 29) :: (g 30) :: (g 31) :: (g 32) :: (g 33) :: (g 34) :: (g 35) :: (g 36) :: (g 37) :: (g 38) :: (g 39) :: (g 40) :: (g 41) :: (g 42) :: (g 43) :: (g 44) :: (g 45) :: (g 46) :: (g 47) :: (g 48) :: (g 49) :: (g 50) :: (g 51) :: (g 52) :: (g 53) :: (g 54) :: (g 55) :: (g 56) :: (g 57) :: (g 58) :: (g 59) :: (g 60) :: (g 61) :: (g 62) :: (g 63) :: (g 64) :: (g 65) :: (g 66) :: (g 67) :: (g 68) :: (g 69) :: (g 70) :: (g 71) :: (g 72) :: (g 73) :: (g 74) :: (g 75) :: (g 76) :: (g 77) :: (g 78) :: (g 79) :: (g 80) :: (g 81) :: (g 82) :: (g 83) :: (g 84) :: (g 85) :: (g 86) :: (g 87) :: (g 88) :: (g 89) :: (g 90) :: (g 91) :: (g 92) :: (g 93) :: (g 94) :: []))), (h1, .inl (cA, 1000, .inl f9_12))] H := hP
  have hD : va_D A [(h0, .inr (11, (.int 0 :: .ref h1 :: .int 20 :: (g 3) :: (g 4) :: (g 5) :: (g 6) :: (g 7) :: (g 8) :: (g 9) :: (g 10) :: (g 11) :: (g 12) :: (g 13) :: (g 14) :: (g 15) :: (g 16) :: (g 17) :: (g 18) :: (g 19) :: (g 20) :: (g 21) :: (g 22) :: (g 23) :: (g 24) :: (g 25) :: (g 26) :: (g 27) :: (g 28) :: (g 29) :: (g 30) :: (g 31) :: (g 32) :: (g 33) :: (g 34) :: (g 35) :: (g 36) :: (g 37) :: (g 38) :: (g 39) :: (g 40) :: (g 41) :: (g 42) :: (g 43) :: (g 44) :: (g 45) :: (g 46) :: (g 47) :: (g 48) :: (g 49) :: (g 50) :: (g 51) :: (g 52) :: (g 53) :: (g 54) :: (g 55) :: (g 56) :: (g 57) :: (g 58) :: (g 59) :: (g 60) :: (g 61) :: (g 62) :: (g 63) :: (g 64) :: (g 65) :: (g 66) :: (g 67) :: (g 68) :: (g 69) :: (g 70) :: (g 71) :: (g 72) :: (g 73) :: (g 74) :: (g 75) :: (g 76) :: (g 77) :: (g 78) :: (g 79) :: (g 80) :: (g 81) :: (g 82) :: (g 83) :: (g 84) :: (g 85) :: (g 86) :: (g 87) :: (g 88) :: (g 89) :: (g 90) :: (g 91) :: (g 92) :: (g 93) :: (g 94) :: []))), (h1, .inl (cA, 1000, .inl f9_12))] := hD
  refine lv_aload_n hx hb dX11_feed_47 rfl (lv_at hl 0 rfl) ?_
  refine va_get (D := (dC, dI)) (ci := 11) (v := .int 20) (C := RX11) (T := TX11) (N := 95) hx hb hts inlX11 hown hK hP 0 rfl rfl 2 (by decide) (hts (.fieldLink RX11 182 "ShapeReaderModel" "taped" "I") mw_10_23) (fun _ h9 => h9) rfl dX11_feed_48 ?_
  have hP9 := hP.sub (ws' := []) [] rfl
  have hD9 := hD.sub (ws' := []) [] (by decide) rfl
  have hK9 := hK.sub (tys' := []) [] rfl
  refine W.widen (k := 0) (n := 0) (Nat.le_of_ble_eq_true rfl) (Nat.le_of_ble_eq_true rfl) ?_
  exact W.iret (v := 20) hx hb hr (fun t ht hW => ⟨⟨20, (), rfl, rfl, by rw [ht]; exact hP9, va_K.moved hW.alike hK9, hD9⟩, hS.F ht⟩) hS.2.2 dX11_feed_51
