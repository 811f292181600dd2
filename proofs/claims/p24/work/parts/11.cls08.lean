theorem dX10_letterOf_0 : decode cX10_letterOf 0 = .ok (.iload_n 2, 1) := by decide +kernel
theorem dX10_letterOf_1 : decode cX10_letterOf 1 = .ok (.ifCond .lt 9, 3) := by decide +kernel
theorem dX10_letterOf_4 : decode cX10_letterOf 4 = .ok (.iload_n 2, 1) := by decide +kernel
theorem dX10_letterOf_5 : decode cX10_letterOf 5 = .ok (.bipush 12, 2) := by decide +kernel
theorem dX10_letterOf_7 : decode cX10_letterOf 7 = .ok (.if_icmp .lt 7, 3) := by decide +kernel
theorem dX10_letterOf_10 : decode cX10_letterOf 10 = .ok (.iconst 0, 1) := by decide +kernel
theorem dX10_letterOf_11 : decode cX10_letterOf 11 = .ok (.goto 12, 3) := by decide +kernel
theorem dX10_letterOf_14 : decode cX10_letterOf 14 = .ok (.lload_n 0, 1) := by decide +kernel
theorem dX10_letterOf_15 : decode cX10_letterOf 15 = .ok (.iconst 5, 1) := by decide +kernel
theorem dX10_letterOf_16 : decode cX10_letterOf 16 = .ok (.iload_n 2, 1) := by decide +kernel
theorem dX10_letterOf_17 : decode cX10_letterOf 17 = .ok (.imul, 1) := by decide +kernel
theorem dX10_letterOf_18 : decode cX10_letterOf 18 = .ok (.lshr, 1) := by decide +kernel
theorem dX10_letterOf_19 : decode cX10_letterOf 19 = .ok (.l2i, 1) := by decide +kernel
theorem dX10_letterOf_20 : decode cX10_letterOf 20 = .ok (.bipush 31, 2) := by decide +kernel
theorem dX10_letterOf_22 : decode cX10_letterOf 22 = .ok (.iand, 1) := by decide +kernel
theorem dX10_letterOf_23 : decode cX10_letterOf 23 = .ok (.ireturn, 1) := by decide +kernel
theorem dX10_lettersIn_0 : decode cX10_lettersIn 0 = .ok (.iconst 0, 1) := by decide +kernel
theorem dX10_lettersIn_1 : decode cX10_lettersIn 1 = .ok (.istore_n 2, 1) := by decide +kernel
theorem dX10_lettersIn_2 : decode cX10_lettersIn 2 = .ok (.iload_n 2, 1) := by decide +kernel
theorem dX10_lettersIn_3 : decode cX10_lettersIn 3 = .ok (.bipush 12, 2) := by decide +kernel
theorem dX10_lettersIn_5 : decode cX10_lettersIn 5 = .ok (.if_icmp .ge 17, 3) := by decide +kernel
theorem dX10_lettersIn_8 : decode cX10_lettersIn 8 = .ok (.lload_n 0, 1) := by decide +kernel
theorem dX10_lettersIn_9 : decode cX10_lettersIn 9 = .ok (.iload_n 2, 1) := by decide +kernel
theorem dX10_lettersIn_10 : decode cX10_lettersIn 10 = .ok (.invokestatic 290, 3) := by decide +kernel
theorem dX10_lettersIn_13 : decode cX10_lettersIn 13 = .ok (.ifCond .eq 9, 3) := by decide +kernel
theorem dX10_lettersIn_16 : decode cX10_lettersIn 16 = .ok (.iinc 2 1, 3) := by decide +kernel
theorem dX10_lettersIn_19 : decode cX10_lettersIn 19 = .ok (.goto (-17), 3) := by decide +kernel
theorem dX10_lettersIn_22 : decode cX10_lettersIn 22 = .ok (.iload_n 2, 1) := by decide +kernel
theorem dX10_lettersIn_23 : decode cX10_lettersIn 23 = .ok (.ireturn, 1) := by decide +kernel
theorem dX4_fillIn_0 : decode cX4_fillIn 0 = .ok (.aload_n 0, 1) := by decide +kernel
theorem dX4_fillIn_1 : decode cX4_fillIn 1 = .ok (.getfield 37, 3) := by decide +kernel
theorem dX4_fillIn_4 : decode cX4_fillIn 4 = .ok (.aload_n 0, 1) := by decide +kernel
theorem dX4_fillIn_5 : decode cX4_fillIn 5 = .ok (.getfield 37, 3) := by decide +kernel
theorem dX4_fillIn_8 : decode cX4_fillIn 8 = .ok (.iload_n 1, 1) := by decide +kernel
theorem dX4_fillIn_9 : decode cX4_fillIn 9 = .ok (.iload_n 2, 1) := by decide +kernel
theorem dX4_fillIn_10 : decode cX4_fillIn 10 = .ok (.invokevirtual 163, 3) := by decide +kernel
theorem dX4_fillIn_13 : decode cX4_fillIn 13 = .ok (.invokevirtual 178, 3) := by decide +kernel
theorem dX4_fillIn_16 : decode cX4_fillIn 16 = .ok (.istore 4, 2) := by decide +kernel
theorem dX4_fillIn_18 : decode cX4_fillIn 18 = .ok (.aload_n 0, 1) := by decide +kernel
theorem dX4_fillIn_19 : decode cX4_fillIn 19 = .ok (.getfield 37, 3) := by decide +kernel
theorem dX4_fillIn_22 : decode cX4_fillIn 22 = .ok (.iload_n 1, 1) := by decide +kernel
theorem dX4_fillIn_23 : decode cX4_fillIn 23 = .ok (.iload_n 2, 1) := by decide +kernel
theorem dX4_fillIn_24 : decode cX4_fillIn 24 = .ok (.invokevirtual 181, 3) := by decide +kernel
theorem dX4_fillIn_27 : decode cX4_fillIn 27 = .ok (.lstore 5, 2) := by decide +kernel
theorem dX4_fillIn_29 : decode cX4_fillIn 29 = .ok (.aload_n 0, 1) := by decide +kernel
theorem dX4_fillIn_30 : decode cX4_fillIn 30 = .ok (.getfield 37, 3) := by decide +kernel
theorem dX4_fillIn_33 : decode cX4_fillIn 33 = .ok (.iload 4, 2) := by decide +kernel
theorem dX4_fillIn_35 : decode cX4_fillIn 35 = .ok (.invokevirtual 99, 3) := by decide +kernel
theorem dX4_fillIn_38 : decode cX4_fillIn 38 = .ok (.iconst 5, 1) := by decide +kernel
theorem dX4_fillIn_39 : decode cX4_fillIn 39 = .ok (.if_icmp .ne 11, 3) := by decide +kernel
theorem dX4_fillIn_42 : decode cX4_fillIn 42 = .ok (.lload 5, 2) := by decide +kernel
theorem dX4_fillIn_44 : decode cX4_fillIn 44 = .ok (.invokestatic 185, 3) := by decide +kernel
theorem dX4_fillIn_47 : decode cX4_fillIn 47 = .ok (.goto 4, 3) := by decide +kernel
theorem dX4_fillIn_50 : decode cX4_fillIn 50 = .ok (.iconst 0, 1) := by decide +kernel
theorem dX4_fillIn_51 : decode cX4_fillIn 51 = .ok (.istore 7, 2) := by decide +kernel
theorem dX4_fillIn_53 : decode cX4_fillIn 53 = .ok (.aload_n 0, 1) := by decide +kernel
theorem dX4_fillIn_54 : decode cX4_fillIn 54 = .ok (.getfield 49, 3) := by decide +kernel
theorem dX4_fillIn_57 : decode cX4_fillIn 57 = .ok (.aload_n 0, 1) := by decide +kernel
theorem dX4_fillIn_58 : decode cX4_fillIn 58 = .ok (.iload 4, 2) := by decide +kernel
theorem dX4_fillIn_60 : decode cX4_fillIn 60 = .ok (.iload_n 3, 1) := by decide +kernel
theorem dX4_fillIn_61 : decode cX4_fillIn 61 = .ok (.iload_n 2, 1) := by decide +kernel
theorem dX4_fillIn_62 : decode cX4_fillIn 62 = .ok (.iload 7, 2) := by decide +kernel
theorem dX4_fillIn_64 : decode cX4_fillIn 64 = .ok (.lload 5, 2) := by decide +kernel
theorem dX4_fillIn_66 : decode cX4_fillIn 66 = .ok (.invokevirtual 155, 3) := by decide +kernel
theorem dX4_fillIn_69 : decode cX4_fillIn 69 = .ok (.invokevirtual 189, 3) := by decide +kernel
theorem dX4_fillIn_72 : decode cX4_fillIn 72 = .ok (.return_, 1) := by decide +kernel
theorem dX5_elseWorth_0 : decode cX5_elseWorth 0 = .ok (.iload_n 1, 1) := by decide +kernel
theorem dX5_elseWorth_1 : decode cX5_elseWorth 1 = .ok (.iload_n 2, 1) := by decide +kernel
theorem dX5_elseWorth_2 : decode cX5_elseWorth 2 = .ok (.invokestatic 75, 3) := by decide +kernel
theorem dX5_elseWorth_5 : decode cX5_elseWorth 5 = .ok (.ifCond .eq 17, 3) := by decide +kernel
theorem dX5_elseWorth_8 : decode cX5_elseWorth 8 = .ok (.aload_n 0, 1) := by decide +kernel
theorem dX5_elseWorth_9 : decode cX5_elseWorth 9 = .ok (.getfield 47, 3) := by decide +kernel
theorem dX5_elseWorth_12 : decode cX5_elseWorth 12 = .ok (.iload_n 1, 1) := by decide +kernel
theorem dX5_elseWorth_13 : decode cX5_elseWorth 13 = .ok (.bipush 8, 2) := by decide +kernel
theorem dX5_elseWorth_15 : decode cX5_elseWorth 15 = .ok (.imul, 1) := by decide +kernel
theorem dX5_elseWorth_16 : decode cX5_elseWorth 16 = .ok (.iload_n 2, 1) := by decide +kernel
theorem dX5_elseWorth_17 : decode cX5_elseWorth 17 = .ok (.iadd, 1) := by decide +kernel
theorem dX5_elseWorth_18 : decode cX5_elseWorth 18 = .ok (.laload, 1) := by decide +kernel
theorem dX5_elseWorth_19 : decode cX5_elseWorth 19 = .ok (.goto 4, 3) := by decide +kernel
theorem dX5_elseWorth_22 : decode cX5_elseWorth 22 = .ok (.lconst 0, 1) := by decide +kernel
theorem dX5_elseWorth_23 : decode cX5_elseWorth 23 = .ok (.lreturn, 1) := by decide +kernel
theorem dX5_firstChoice_0 : decode cX5_firstChoice 0 = .ok (.aload_n 0, 1) := by decide +kernel
theorem dX5_firstChoice_1 : decode cX5_firstChoice 1 = .ok (.iload_n 1, 1) := by decide +kernel
theorem dX5_firstChoice_2 : decode cX5_firstChoice 2 = .ok (.invokevirtual 82, 3) := by decide +kernel
theorem dX5_firstChoice_5 : decode cX5_firstChoice 5 = .ok (.bipush 8, 2) := by decide +kernel
theorem dX5_firstChoice_7 : decode cX5_firstChoice 7 = .ok (.if_icmp .ne 11, 3) := by decide +kernel
theorem dX5_firstChoice_10 : decode cX5_firstChoice 10 = .ok (.aload_n 0, 1) := by decide +kernel
theorem dX5_firstChoice_11 : decode cX5_firstChoice 11 = .ok (.iload_n 1, 1) := by decide +kernel
theorem dX5_firstChoice_12 : decode cX5_firstChoice 12 = .ok (.invokevirtual 86, 3) := by decide +kernel
theorem dX5_firstChoice_15 : decode cX5_firstChoice 15 = .ok (.goto 4, 3) := by decide +kernel
theorem dX5_firstChoice_18 : decode cX5_firstChoice 18 = .ok (.iload_n 1, 1) := by decide +kernel
theorem dX5_firstChoice_19 : decode cX5_firstChoice 19 = .ok (.ireturn, 1) := by decide +kernel
theorem dX7_setFilled_0 : decode cX7_setFilled 0 = .ok (.aload_n 0, 1) := by decide +kernel
theorem dX7_setFilled_1 : decode cX7_setFilled 1 = .ok (.iload_n 1, 1) := by decide +kernel
theorem dX7_setFilled_2 : decode cX7_setFilled 2 = .ok (.invokevirtual 54, 3) := by decide +kernel
theorem dX7_setFilled_5 : decode cX7_setFilled 5 = .ok (.ifCond .eq 10, 3) := by decide +kernel
theorem dX7_setFilled_8 : decode cX7_setFilled 8 = .ok (.aload_n 0, 1) := by decide +kernel
theorem dX7_setFilled_9 : decode cX7_setFilled 9 = .ok (.getfield 31, 3) := by decide +kernel
theorem dX7_setFilled_12 : decode cX7_setFilled 12 = .ok (.iload_n 1, 1) := by decide +kernel
theorem dX7_setFilled_13 : decode cX7_setFilled 13 = .ok (.iconst 1, 1) := by decide +kernel
theorem dX7_setFilled_14 : decode cX7_setFilled 14 = .ok (.bastore, 1) := by decide +kernel
theorem dX7_setFilled_15 : decode cX7_setFilled 15 = .ok (.return_, 1) := by decide +kernel
def f_X4_takePlain_183 (b : Nat) (t : Nat) (y0 : Int64) (y1 : Int32) (y2 : Int32) (y3 : Int32) (y4 : Int32) (σ : ST) : Option (ST) := (f_X4_addNode b t y4 y3 y2 y1 y0 σ).bind fun q1 => some q1.2
def f_X4_takePlain_159 (b : Nat) (t : Nat) (x2 : Int32) (x3 : Int32) (x4 : Int32) (x6 : Int32) (x7 : Int64) (y0 : Int32) (σ : ST) : Option (ST) := if y0 = 0 then (f_X4_takePlain_183 b t x7 x6 x4 x3 x2 σ) else ((f_X10_bitsOfWhole  x7 σ).bind fun q1 => f_X4_takePlain_183 b t q1.1 x6 x4 x3 x2 q1.2)
def f_X4_takePlain_158 (b : Nat) (t : Nat) (x2 : Int32) (x3 : Int32) (x4 : Int32) (x6 : Int32) (x7 : Int64) (σ : ST) : Option (ST) := f_X4_takePlain_159 b t x2 x3 x4 x6 x7 0 σ
def f_X4_takePlain_137 (b : Nat) (t : Nat) (x1 : Int32) (x2 : Int32) (x3 : Int32) (x4 : Int32) (x6 : Int32) (x7 : Int64) (σ : ST) : Option (ST) := if x1 = 4 then (f_X4_takePlain_158 b t x2 x3 x4 x6 x7 σ) else ((f_X5_sortOf 4 x2 σ).bind fun q1 => if q1.1 = 4 then (f_X4_takePlain_159 b t x2 x3 x4 x6 x7 1 q1.2) else (f_X4_takePlain_158 b t x2 x3 x4 x6 x7 q1.2))
def f_X4_takePlain (b : Nat) (t : Nat) (p0 : Int32) (p1 : Int32) (p2 : Int32) (p3 : Int32) (σ : ST) : Option (ST) := if p0 = 1 then ((f_X4_takeByte b t  σ).bind fun q6 => if (lg_cmp (q6.1.toInt64) 1) ≤ 0 then (f_X4_takePlain_137 b t p0 p1 p2 p3 0 (q6.1.toInt64) q6.2) else ((f_X4_fail b t 12 (σ.1 b 5) q6.2).bind fun q8 => f_X4_takePlain_137 b t p0 p1 p2 p3 0 (q6.1.toInt64) q8)) else (if p0 = 2 then ((f_X4_takeNumber b t (σ.1 b 5) σ).bind fun q10 => if p0 = 2 then ((f_X10_isInt  q10.1 q10.2).bind fun q12 => if q12.1 = 0 then ((f_X4_fail b t 12 (σ.1 b 5) q12.2).bind fun q14 => f_X4_takePlain_137 b t p0 p1 p2 p3 0 q10.1 q14) else (f_X4_takePlain_137 b t p0 p1 p2 p3 0 q10.1 q12.2)) else (f_X4_takePlain_137 b t p0 p1 p2 p3 0 q10.1 q10.2)) else (if p0 = 3 then ((f_X4_takeNumber b t (σ.1 b 5) σ).bind fun q16 => if p0 = 2 then ((f_X10_isInt  q16.1 q16.2).bind fun q18 => if q18.1 = 0 then ((f_X4_fail b t 12 (σ.1 b 5) q18.2).bind fun q20 => f_X4_takePlain_137 b t p0 p1 p2 p3 0 q16.1 q20) else (f_X4_takePlain_137 b t p0 p1 p2 p3 0 q16.1 q18.2)) else (f_X4_takePlain_137 b t p0 p1 p2 p3 0 q16.1 q16.2)) else (if p0 = 4 then ((f_X4_takeReal b t  σ).bind fun q22 => f_X4_takePlain_137 b t p0 p1 p2 p3 0 q22.1 q22.2) else (if p0 = 5 then ((f_X4_takeCount b t (σ.1 b 5) 12 σ).bind fun q24 => (f_X4_takeLetters b t (σ.1 b 5) q24.1 q24.2).bind fun q26 => f_X4_takePlain_137 b t p0 p1 p2 p3 q24.1 q26.1 q26.2) else (f_X4_takePlain_137 b t p0 p1 p2 p3 0 0 σ)))))

set_option maxRecDepth 100000 in
set_option maxHeartbeats 4000000 in
theorem b_X4_takePlain_183_89_50 {p : Program} {l : Launch} {e : Env} {s : State} {m : MethodId} {args : Array Value} {below : List Frame} {meth : Method} {c : Code} {dC : Nat → ClassId} {dI : Nat → Nat → Nat} {a : Nat → Nat} {k : Nat → ClassId} {A : Nat → Prop} {q : ST} (hC : CxA p s m args meth c dC dI k A cX4_takePlain RX4 none 10)   {y0 : Int64} {y1 : Int32} {y2 : Int32} {y3 : Int32} {y4 : Int32} {σ : ST} (h : f_X4_takePlain_183 89 50 y0 y1 y2 y3 y4 σ = some q) : GoA p l e ({ frames := 4, cells := 0, slots := 0, locals := 98 } : Room) s m args below meth c (MQ below (qAv dC dI a k A q) args s 0 0 A) dC dI a k A 10 183 σ [] [.long y0, .int y1, .int y2, .int y3, .int y4, .ref (a 89)] := by
  have hC0 := hC
  obtain ⟨hx, hb, hr, hml, hown, hts, hlocks, hA, hN, hK⟩ := hC0
  intro H locs ls hP hD hS hl
  have hD0 : ∀ σ1 : ST, va_D A (wA a k σ1) := fun σ1 => wA_D hD
  unfold f_X4_takePlain_183 at h
  obtain ⟨q1, hc, h⟩ := ib h
  have hF := va_frees hD hS hA
  refine va_calli (va_runV (As := [.int y4, .int y3, .int y2, .int y1, .long y0]) (rest := []) ⟨hx, hb, hml, hown, hts⟩ (s_X4_addNode_89_50 hc) (cwV 5 hts (gV mw_13_6 mw_13_7 mw_13_8 mw_0_8 mw_49_8) rfl rfl rfl (by decide +kernel) ⟨(Nat.le_of_ble_eq_true rfl), (Nat.le_of_ble_eq_true rfl)⟩) (vV (ci := 4) (q0 := 89) hK hP hD hN rfl gA_89) rfl rfl hl.1 rfl (lv_room (Nat.le_of_ble_eq_true rfl)) dX4_takePlain_183 ⟨(Nat.le_of_ble_eq_true rfl), (Nat.le_of_ble_eq_true rfl)⟩) hS (fun q _ h => hF q h) hF (fun r2 u t H locs ht hvm hw hB _ _ hS => ?_)
  obtain rfl : r2 = q1.1 := hw
  replace hP : va_P (dC, dI) vwCl (wA a k q1.2) H := by rw [← ht]; exact hB.1
  replace hD := hD0 (q1.2)
  clear hB hF
  refine lv_pop hx hb dX4_takePlain_186 rfl ?_
  obtain rfl := Option.some.inj h
  exact W.vret hx hb hr (fun t ht hW => ⟨⟨(), rfl, trivial, ⟨by rw [ht]; exact hP, va_K.moved hW.alike hK, hD⟩⟩, hS.F ht⟩) hS.2.2 dX4_takePlain_187

set_option maxRecDepth 100000 in
set_option maxHeartbeats 4000000 in
theorem b_X4_takePlain_159_89_50 {p : Program} {l : Launch} {e : Env} {s : State} {m : MethodId} {args : Array Value} {below : List Frame} {meth : Method} {c : Code} {dC : Nat → ClassId} {dI : Nat → Nat → Nat} {a : Nat → Nat} {k : Nat → ClassId} {A : Nat → Prop} {q : ST} (hC : CxA p s m args meth c dC dI k A cX4_takePlain RX4 none 10)   {x2 : Int32} {x3 : Int32} {x4 : Int32} {x6 : Int32} {x7 : Int64} {y0 : Int32} {σ : ST} (h : f_X4_takePlain_159 89 50 x2 x3 x4 x6 x7 y0 σ = some q) : GoA p l e ({ frames := 4, cells := 0, slots := 0, locals := 98 } : Room) s m args below meth c (MQ below (qAv dC dI a k A q) args s 0 0 A) dC dI a k A 10 159 σ [(0, .ref (a 89)), (2, .int x2), (3, .int x3), (4, .int x4), (6, .int x6), (7, .long x7)] [.int y0] := by
  have hC0 := hC
  obtain ⟨hx, hb, hr, hml, hown, hts, hlocks, hA, hN, hK⟩ := hC0
  intro H locs ls hP hD hS hl
  have hD0 : ∀ σ1 : ST, va_D A (wA a k σ1) := fun σ1 => wA_D hD
  unfold f_X4_takePlain_159 at h
  refine lv_istore (lv' := [(9, .int y0), (0, .ref (a 89)), (2, .int x2), (3, .int x3), (4, .int x4), (6, .int x6), (7, .long x7)]) hx hb dX4_takePlain_159 hl (by decide) rfl (fun ls hl => ?_)
  refine lv_aload_n hx hb dX4_takePlain_161 rfl (lv_at hl 1 rfl) ?_
  refine lv_iload_n hx hb dX4_takePlain_162 rfl (lv_at hl 2 rfl) ?_
  refine lv_iload_n hx hb dX4_takePlain_163 rfl (lv_at hl 3 rfl) ?_
  refine lv_iload hx hb dX4_takePlain_164 (lv_at hl 4 rfl) ?_
  refine lv_iload hx hb dX4_takePlain_166 (lv_at hl 5 rfl) ?_
  refine lv_iload hx hb dX4_takePlain_168 (lv_at hl 0 rfl) ?_
  refine lv_if_eq (tgt := 181) hx hb dX4_takePlain_170 (by decide) (fun hc => ?_) (fun hc => ?_)
  · replace h := ip hc h
    refine lv_lload hx hb dX4_takePlain_181 (lv_at hl 6 rfl) ?_
    exact b_X4_takePlain_183_89_50 hC h _ _ _ hP hD hS (lv_sub hl [] rfl)
  · replace h := iq hc h
    refine lv_lload hx hb dX4_takePlain_173 (lv_at hl 6 rfl) ?_
    obtain ⟨q1, hc, h⟩ := ib h
    have hF := va_frees hD hS hA
    refine va_calll (va_runSN (As := [.long x7]) (rest := [.int x6, .int x4, .int x3, .int x2, .ref (a 89)]) ⟨hx, hb, hml, hown, hts⟩ (s_X10_bitsOfWhole hc) ⟨va_cnB 1 hts (gI mw_53_23) rfl rfl rfl (hN _ (List.mem_of_getElem? (i := 9) rfl)) (hts (.initialized RX10) mw_0_14) (by decide +kernel) ⟨(Nat.le_of_ble_eq_true rfl), (Nat.le_of_ble_eq_true rfl)⟩, (hts (.static yX10_bitsOfWhole) mw_14_11), trivial⟩ (vS hK hP hD hN) rfl rfl hl.1 rfl (lv_room (Nat.le_of_ble_eq_true rfl)) dX4_takePlain_175 ⟨(Nat.le_of_ble_eq_true rfl), (Nat.le_of_ble_eq_true rfl)⟩) hS (fun q _ h => hF q h) hF (fun r2 u t H locs ht hvm hw hB _ _ hS => ?_)
    obtain rfl : r2 = q1.1 := hw
    replace hP : va_P (dC, dI) vwCl (wA a k q1.2) H := by rw [← ht]; exact hB.1
    replace hD := hD0 (q1.2)
    clear hB hF
    refine lv_goto (tgt := 183) hx hb dX4_takePlain_178 (by decide) ?_
    exact b_X4_takePlain_183_89_50 hC h _ _ _ hP hD hS (lv_sub hl [] rfl)

set_option maxRecDepth 100000 in
set_option maxHeartbeats 4000000 in
theorem b_X4_takePlain_158_89_50 {p : Program} {l : Launch} {e : Env} {s : State} {m : MethodId} {args : Array Value} {below : List Frame} {meth : Method} {c : Code} {dC : Nat → ClassId} {dI : Nat → Nat → Nat} {a : Nat → Nat} {k : Nat → ClassId} {A : Nat → Prop} {q : ST} (hC : CxA p s m args meth c dC dI k A cX4_takePlain RX4 none 10)   {x2 : Int32} {x3 : Int32} {x4 : Int32} {x6 : Int32} {x7 : Int64} {σ : ST} (h : f_X4_takePlain_158 89 50 x2 x3 x4 x6 x7 σ = some q) : GoA p l e ({ frames := 4, cells := 0, slots := 0, locals := 98 } : Room) s m args below meth c (MQ below (qAv dC dI a k A q) args s 0 0 A) dC dI a k A 10 158 σ [(0, .ref (a 89)), (2, .int x2), (3, .int x3), (4, .int x4), (6, .int x6), (7, .long x7)] [] := by
  have hC0 := hC
  obtain ⟨hx, hb, hr, hml, hown, hts, hlocks, hA, hN, hK⟩ := hC0
  intro H locs ls hP hD hS hl
  have hD0 : ∀ σ1 : ST, va_D A (wA a k σ1) := fun σ1 => wA_D hD
  unfold f_X4_takePlain_158 at h
  refine lv_iconst (v := 0) hx hb dX4_takePlain_158 (by decide) ?_
  exact b_X4_takePlain_159_89_50 hC h _ _ _ hP hD hS (lv_sub hl [0, 1, 2, 3, 4, 5] rfl)

set_option maxRecDepth 100000 in
set_option maxHeartbeats 4000000 in
theorem b_X4_takePlain_137_89_50 {p : Program} {l : Launch} {e : Env} {s : State} {m : MethodId} {args : Array Value} {below : List Frame} {meth : Method} {c : Code} {dC : Nat → ClassId} {dI : Nat → Nat → Nat} {a : Nat → Nat} {k : Nat → ClassId} {A : Nat → Prop} {q : ST} (hC : CxA p s m args meth c dC dI k A cX4_takePlain RX4 none 10)   {x1 : Int32} {x2 : Int32} {x3 : Int32} {x4 : Int32} {x6 : Int32} {x7 : Int64} {σ : ST} (h : f_X4_takePlain_137 89 50 x1 x2 x3 x4 x6 x7 σ = some q) : GoA p l e ({ frames := 4, cells := 0, slots := 0, locals := 98 } : Room) s m args below meth c (MQ below (qAv dC dI a k A q) args s 0 0 A) dC dI a k A 10 137 σ [(0, .ref (a 89)), (1, .int x1), (2, .int x2), (3, .int x3), (4, .int x4), (6, .int x6), (7, .long x7)] [] := by
  have hC0 := hC
  obtain ⟨hx, hb, hr, hml, hown, hts, hlocks, hA, hN, hK⟩ := hC0
  intro H locs ls hP hD hS hl
  have hD0 : ∀ σ1 : ST, va_D A (wA a k σ1) := fun σ1 => wA_D hD
  unfold f_X4_takePlain_137 at h
  refine lv_iload_n hx hb dX4_takePlain_137 rfl (lv_at hl 1 rfl) ?_
  refine lv_iconst (v := 4) hx hb dX4_takePlain_138 (by decide) ?_
  refine lv_icmp_eq (tgt := 158) hx hb dX4_takePlain_139 (by decide) (fun hc => ?_) (fun hc => ?_)
  · replace h := ip hc h
    exact b_X4_takePlain_158_89_50 hC h _ _ _ hP hD hS (lv_sub hl [0, 2, 3, 4, 5, 6] rfl)
  · replace h := iq hc h
    refine lv_aload_n hx hb dX4_takePlain_142 rfl (lv_at hl 0 rfl) ?_
    refine va_get (D := (dC, dI)) (ci := 4) (C := RX4) (T := TX4) (N := 12) hx hb hts inlX4 hown hK hP 89 gA_89 rfl 0 (by decide) (hts (.fieldLink RX4 37 "ShapeReader$Reading" "shapes" "LShapeReader$Shapes;") mw_10_28) (fun _ h9 => h9) rfl dX4_takePlain_143 ?_
    refine lv_iload_n hx hb dX4_takePlain_146 rfl (lv_at hl 2 rfl) ?_
    obtain ⟨q1, hc, h⟩ := ib h
    have hF := va_frees hD hS hA
    refine va_calli (va_runV (As := [.int x2]) (rest := []) ⟨hx, hb, hml, hown, hts⟩ (s_X5_sortOf_4 hc) (cwV 1 hts (gV mw_11_25 mw_2_13 mw_2_14 mw_0_9 mw_50_6) rfl rfl rfl (by decide +kernel) ⟨(Nat.le_of_ble_eq_true rfl), (Nat.le_of_ble_eq_true rfl)⟩) (vV (ci := 5) (q0 := 4) hK hP hD hN rfl gA_4) rfl rfl hl.1 rfl (lv_room (Nat.le_of_ble_eq_true rfl)) dX4_takePlain_147 ⟨(Nat.le_of_ble_eq_true rfl), (Nat.le_of_ble_eq_true rfl)⟩) hS (fun q _ h => hF q h) hF (fun r2 u t H locs ht hvm hw hB _ _ hS => ?_)
    obtain rfl : r2 = q1.1 := hw
    replace hP : va_P (dC, dI) vwCl (wA a k q1.2) H := by rw [← ht]; exact hB.1
    replace hD := hD0 (q1.2)
    clear hB hF
    refine lv_iconst (v := 4) hx hb dX4_takePlain_150 (by decide) ?_
    refine lv_icmp_ne (tgt := 158) hx hb dX4_takePlain_151 (by decide) (fun hc => ?_) (fun hc => ?_)
    · replace h := iq hc h
      exact b_X4_takePlain_158_89_50 hC h _ _ _ hP hD hS (lv_sub hl [0, 2, 3, 4, 5, 6] rfl)
    · replace h := ip hc h
      refine lv_iconst (v := 1) hx hb dX4_takePlain_154 (by decide) ?_
      refine lv_goto (tgt := 159) hx hb dX4_takePlain_155 (by decide) ?_
      exact b_X4_takePlain_159_89_50 hC h _ _ _ hP hD hS (lv_sub hl [0, 2, 3, 4, 5, 6] rfl)

set_option maxRecDepth 100000 in
set_option maxHeartbeats 4000000 in
theorem b_X4_takePlain_e_89_50 {p : Program} {l : Launch} {e : Env} {s : State} {m : MethodId} {args : Array Value} {below : List Frame} {meth : Method} {c : Code} {dC : Nat → ClassId} {dI : Nat → Nat → Nat} {a : Nat → Nat} {k : Nat → ClassId} {A : Nat → Prop} {q : ST} (hC : CxA p s m args meth c dC dI k A cX4_takePlain RX4 none 10)   {p0 : Int32} {p1 : Int32} {p2 : Int32} {p3 : Int32} {σ : ST} (h : f_X4_takePlain 89 50 p0 p1 p2 p3 σ = some q) : GoA p l e ({ frames := 4, cells := 0, slots := 0, locals := 98 } : Room) s m args below meth c (MQ below (qAv dC dI a k A q) args s 0 0 A) dC dI a k A 10 0 σ (lv_args 0 [.ref (a 89), .int p0, .int p1, .int p2, .int p3]) [] := by
  have hC0 := hC
  obtain ⟨hx, hb, hr, hml, hown, hts, hlocks, hA, hN, hK⟩ := hC0
  intro H locs ls hP hD hS hl
  have hD0 : ∀ σ1 : ST, va_D A (wA a k σ1) := fun σ1 => wA_D hD
  replace hl : lv_has ls 10 [(0, .ref (a 89)), (1, .int p0), (2, .int p1), (3, .int p2), (4, .int p3)] := hl
  unfold f_X4_takePlain at h
  refine lv_aload_n hx hb dX4_takePlain_0 rfl (lv_at hl 0 rfl) ?_
  refine va_get (D := (dC, dI)) (ci := 4) (C := RX4) (T := TX4) (N := 12) hx hb hts inlX4 hown hK hP 89 gA_89 rfl 5 (by decide) (hts (.fieldLink RX4 15 "ShapeReader$Reading" "next" "I") mw_10_21) (fun _ h9 => h9) rfl dX4_takePlain_1 ?_
  refine lv_istore (lv' := [(5, .int (σ.1 89 5)), (0, .ref (a 89)), (1, .int p0), (2, .int p1), (3, .int p2), (4, .int p3)]) hx hb dX4_takePlain_4 hl (by decide) rfl (fun ls hl => ?_)
  refine lv_iconst (v := 0) hx hb dX4_takePlain_6 (by decide) ?_
  refine lv_istore (lv' := [(6, .int 0), (5, .int (σ.1 89 5)), (0, .ref (a 89)), (1, .int p0), (2, .int p1), (3, .int p2), (4, .int p3)]) hx hb dX4_takePlain_7 hl (by decide) rfl (fun ls hl => ?_)
  refine lv_lconst (v := 0) hx hb dX4_takePlain_9 (by decide) ?_
  refine lv_lstore (lv' := [(7, .long 0), (6, .int 0), (5, .int (σ.1 89 5)), (0, .ref (a 89)), (1, .int p0), (2, .int p1), (3, .int p2), (4, .int p3)]) hx hb dX4_takePlain_10 hl (by decide) rfl (fun ls hl => ?_)
  refine lv_iload_n hx hb dX4_takePlain_12 rfl (lv_at hl 4 rfl) ?_
  rcases (il_sw5 p0 (1) (2) (3) (4) (5)) with s1 | s2 | s3 | s4 | s5 | ⟨s1, s2, s3, s4, s5⟩
  · replace h := ip s1 h
    refine lv_tableIn (off := 35) (tgt := 48) hx hb dX4_takePlain_13 (by rw [s1]; decide) (by rw [s1]; decide) (by rw [s1]; rfl) (by decide) ?_
    refine lv_aload_n hx hb dX4_takePlain_48 rfl (lv_at hl 3 rfl) ?_
    obtain ⟨q6, hc, h⟩ := ib h
    have hF := va_frees hD hS hA
    refine va_calli (va_runV (As := []) (rest := []) ⟨hx, hb, hml, hown, hts⟩ (s_X4_takeByte_89_50 hc) (cwV 0 hts (gV mw_13_28 mw_13_29 mw_14_0 mw_0_8 mw_49_16) rfl rfl rfl (by decide +kernel) ⟨(Nat.le_of_ble_eq_true rfl), (Nat.le_of_ble_eq_true rfl)⟩) (vV (ci := 4) (q0 := 89) hK hP hD hN rfl gA_89) rfl rfl hl.1 rfl (lv_room (Nat.le_of_ble_eq_true rfl)) dX4_takePlain_49 ⟨(Nat.le_of_ble_eq_true rfl), (Nat.le_of_ble_eq_true rfl)⟩) hS (fun q _ h => hF q h) hF (fun r7 u t H locs ht hvm hw hB _ _ hS => ?_)
    obtain rfl : r7 = q6.1 := hw
    replace hP : va_P (dC, dI) vwCl (wA a k q6.2) H := by rw [← ht]; exact hB.1
    replace hD := hD0 (q6.2)
    clear hB hF
    refine lv_i2l (v := q6.1.toInt64) hx hb dX4_takePlain_52 rfl ?_
    refine lv_lstore (lv' := [(7, .long (q6.1.toInt64)), (6, .int 0), (5, .int (σ.1 89 5)), (0, .ref (a 89)), (1, .int p0), (2, .int p1), (3, .int p2), (4, .int p3)]) hx hb dX4_takePlain_53 hl (by decide) rfl (fun ls hl => ?_)
    refine lv_lload hx hb dX4_takePlain_55 (lv_at hl 0 rfl) ?_
    refine lv_lconst (v := 1) hx hb dX4_takePlain_57 (by decide) ?_
    refine W.lcmp hx hb dX4_takePlain_58 ?_
    refine lv_if_le (tgt := 137) hx hb dX4_takePlain_59 (by decide) (fun hc => ?_) (fun hc => ?_)
    · replace h := ip hc h
      exact b_X4_takePlain_137_89_50 hC h _ _ _ hP hD hS (lv_sub hl [3, 4, 5, 6, 7, 1, 0] rfl)
    · replace h := iq hc h
      refine lv_aload_n hx hb dX4_takePlain_62 rfl (lv_at hl 3 rfl) ?_
      refine lv_bipush (v := 12) hx hb dX4_takePlain_63 (by decide) ?_
      refine lv_iload hx hb dX4_takePlain_65 (lv_at hl 2 rfl) ?_
      obtain ⟨q8, hc, h⟩ := ib h
      have hF := va_frees hD hS hA
      refine va_callv (va_runV (As := [.int 12, .int (σ.1 89 5)]) (rest := []) ⟨hx, hb, hml, hown, hts⟩ (s_X4_fail_89_50 hc) (cwV 2 hts (gV mw_11_15 mw_11_16 mw_11_17 mw_0_8 mw_49_2) rfl rfl rfl (by decide +kernel) ⟨(Nat.le_of_ble_eq_true rfl), (Nat.le_of_ble_eq_true rfl)⟩) (vV (ci := 4) (q0 := 89) hK hP hD hN rfl gA_89) rfl rfl hl.1 rfl (lv_room (Nat.le_of_ble_eq_true rfl)) dX4_takePlain_67 ⟨(Nat.le_of_ble_eq_true rfl), (Nat.le_of_ble_eq_true rfl)⟩) hS (fun q _ h => hF q h) hF (fun u t H locs ht hvm hw hB _ _ hS => ?_)
      replace hP : va_P (dC, dI) vwCl (wA a k q8) H := by rw [← ht]; exact hB.1
      replace hD := hD0 (q8)
      clear hB hF
      refine lv_goto (tgt := 137) hx hb dX4_takePlain_70 (by decide) ?_
      exact b_X4_takePlain_137_89_50 hC h _ _ _ hP hD hS (lv_sub hl [3, 4, 5, 6, 7, 1, 0] rfl)
  · replace h := ip s2 (iq (by rw [s2]; decide) h)
    refine lv_tableIn (off := 60) (tgt := 73) hx hb dX4_takePlain_13 (by rw [s2]; decide) (by rw [s2]; decide) (by rw [s2]; rfl) (by decide) ?_
    refine lv_aload_n hx hb dX4_takePlain_73 rfl (lv_at hl 3 rfl) ?_
    refine lv_iload hx hb dX4_takePlain_74 (lv_at hl 2 rfl) ?_
    obtain ⟨q10, hc, h⟩ := ib h
    have hF := va_frees hD hS hA
    refine va_calll (va_runV (As := [.int (σ.1 89 5)]) (rest := []) ⟨hx, hb, hml, hown, hts⟩ (s_X4_takeNumber_89_50 hc) (cwV 1 hts (gV mw_14_1 mw_14_2 mw_14_3 mw_0_8 mw_49_17) rfl rfl rfl (by decide +kernel) ⟨(Nat.le_of_ble_eq_true rfl), (Nat.le_of_ble_eq_true rfl)⟩) (vV (ci := 4) (q0 := 89) hK hP hD hN rfl gA_89) rfl rfl hl.1 rfl (lv_room (Nat.le_of_ble_eq_true rfl)) dX4_takePlain_76 ⟨(Nat.le_of_ble_eq_true rfl), (Nat.le_of_ble_eq_true rfl)⟩) hS (fun q _ h => hF q h) hF (fun r11 u t H locs ht hvm hw hB _ _ hS => ?_)
    obtain rfl : r11 = q10.1 := hw
    replace hP : va_P (dC, dI) vwCl (wA a k q10.2) H := by rw [← ht]; exact hB.1
    replace hD := hD0 (q10.2)
    clear hB hF
    refine lv_lstore (lv' := [(7, .long q10.1), (6, .int 0), (5, .int (σ.1 89 5)), (0, .ref (a 89)), (1, .int p0), (2, .int p1), (3, .int p2), (4, .int p3)]) hx hb dX4_takePlain_79 hl (by decide) rfl (fun ls hl => ?_)
    refine lv_iload_n hx hb dX4_takePlain_81 rfl (lv_at hl 4 rfl) ?_
    refine lv_iconst (v := 2) hx hb dX4_takePlain_82 (by decide) ?_
    refine lv_icmp_ne (tgt := 137) hx hb dX4_takePlain_83 (by decide) (fun hc => ?_) (fun hc => ?_)
    · replace h := iq hc h
      exact b_X4_takePlain_137_89_50 hC h _ _ _ hP hD hS (lv_sub hl [3, 4, 5, 6, 7, 1, 0] rfl)
    · replace h := ip hc h
      refine lv_lload hx hb dX4_takePlain_86 (lv_at hl 0 rfl) ?_
      obtain ⟨q12, hc, h⟩ := ib h
      have hF := va_frees hD hS hA
      refine va_calli (va_runSN (As := [.long q10.1]) (rest := []) ⟨hx, hb, hml, hown, hts⟩ (s_X10_isInt hc) ⟨va_cnB 1 hts (gI mw_53_24) rfl rfl rfl (hN _ (List.mem_of_getElem? (i := 8) rfl)) (hts (.initialized RX10) mw_0_14) (by decide +kernel) ⟨(Nat.le_of_ble_eq_true rfl), (Nat.le_of_ble_eq_true rfl)⟩, (hts (.static yX10_isInt) mw_14_4), trivial⟩ (vS hK hP hD hN) rfl rfl hl.1 rfl (lv_room (Nat.le_of_ble_eq_true rfl)) dX4_takePlain_88 ⟨(Nat.le_of_ble_eq_true rfl), (Nat.le_of_ble_eq_true rfl)⟩) hS (fun q _ h => hF q h) hF (fun r13 u t H locs ht hvm hw hB _ _ hS => ?_)
      obtain rfl : r13 = q12.1 := hw
      replace hP : va_P (dC, dI) vwCl (wA a k q12.2) H := by rw [← ht]; exact hB.1
      replace hD := hD0 (q12.2)
      clear hB hF
      refine lv_if_ne (tgt := 137) hx hb dX4_takePlain_91 (by decide) (fun hc => ?_) (fun hc => ?_)
      · replace h := iq hc h
        exact b_X4_takePlain_137_89_50 hC h _ _ _ hP hD hS (lv_sub hl [3, 4, 5, 6, 7, 1, 0] rfl)
      · replace h := ip hc h
        refine lv_aload_n hx hb dX4_takePlain_94 rfl (lv_at hl 3 rfl) ?_
        refine lv_bipush (v := 12) hx hb dX4_takePlain_95 (by decide) ?_
        refine lv_iload hx hb dX4_takePlain_97 (lv_at hl 2 rfl) ?_
        obtain ⟨q14, hc, h⟩ := ib h
        have hF := va_frees hD hS hA
        refine va_callv (va_runV (As := [.int 12, .int (σ.1 89 5)]) (rest := []) ⟨hx, hb, hml, hown, hts⟩ (s_X4_fail_89_50 hc) (cwV 2 hts (gV mw_11_15 mw_11_16 mw_11_17 mw_0_8 mw_49_2) rfl rfl rfl (by decide +kernel) ⟨(Nat.le_of_ble_eq_true rfl), (Nat.le_of_ble_eq_true rfl)⟩) (vV (ci := 4) (q0 := 89) hK hP hD hN rfl gA_89) rfl rfl hl.1 rfl (lv_room (Nat.le_of_ble_eq_true rfl)) dX4_takePlain_99 ⟨(Nat.le_of_ble_eq_true rfl), (Nat.le_of_ble_eq_true rfl)⟩) hS (fun q _ h => hF q h) hF (fun u t H locs ht hvm hw hB _ _ hS => ?_)
        replace hP : va_P (dC, dI) vwCl (wA a k q14) H := by rw [← ht]; exact hB.1
        replace hD := hD0 (q14)
        clear hB hF
        refine lv_goto (tgt := 137) hx hb dX4_takePlain_102 (by decide) ?_
        exact b_X4_takePlain_137_89_50 hC h _ _ _ hP hD hS (lv_sub hl [3, 4, 5, 6, 7, 1, 0] rfl)
  · replace h := ip s3 (iq (by rw [s3]; decide) (iq (by rw [s3]; decide) h))
    refine lv_tableIn (off := 60) (tgt := 73) hx hb dX4_takePlain_13 (by rw [s3]; decide) (by rw [s3]; decide) (by rw [s3]; rfl) (by decide) ?_
    refine lv_aload_n hx hb dX4_takePlain_73 rfl (lv_at hl 3 rfl) ?_
    refine lv_iload hx hb dX4_takePlain_74 (lv_at hl 2 rfl) ?_
    obtain ⟨q16, hc, h⟩ := ib h
    have hF := va_frees hD hS hA
    refine va_calll (va_runV (As := [.int (σ.1 89 5)]) (rest := []) ⟨hx, hb, hml, hown, hts⟩ (s_X4_takeNumber_89_50 hc) (cwV 1 hts (gV mw_14_1 mw_14_2 mw_14_3 mw_0_8 mw_49_17) rfl rfl rfl (by decide +kernel) ⟨(Nat.le_of_ble_eq_true rfl), (Nat.le_of_ble_eq_true rfl)⟩) (vV (ci := 4) (q0 := 89) hK hP hD hN rfl gA_89) rfl rfl hl.1 rfl (lv_room (Nat.le_of_ble_eq_true rfl)) dX4_takePlain_76 ⟨(Nat.le_of_ble_eq_true rfl), (Nat.le_of_ble_eq_true rfl)⟩) hS (fun q _ h => hF q h) hF (fun r17 u t H locs ht hvm hw hB _ _ hS => ?_)
    obtain rfl : r17 = q16.1 := hw
    replace hP : va_P (dC, dI) vwCl (wA a k q16.2) H := by rw [← ht]; exact hB.1
    replace hD := hD0 (q16.2)
    clear hB hF
    refine lv_lstore (lv' := [(7, .long q16.1), (6, .int 0), (5, .int (σ.1 89 5)), (0, .ref (a 89)), (1, .int p0), (2, .int p1), (3, .int p2), (4, .int p3)]) hx hb dX4_takePlain_79 hl (by decide) rfl (fun ls hl => ?_)
    refine lv_iload_n hx hb dX4_takePlain_81 rfl (lv_at hl 4 rfl) ?_
    refine lv_iconst (v := 2) hx hb dX4_takePlain_82 (by decide) ?_
    refine lv_icmp_ne (tgt := 137) hx hb dX4_takePlain_83 (by decide) (fun hc => ?_) (fun hc => ?_)
    · replace h := iq hc h
      exact b_X4_takePlain_137_89_50 hC h _ _ _ hP hD hS (lv_sub hl [3, 4, 5, 6, 7, 1, 0] rfl)
    · replace h := ip hc h
      refine lv_lload hx hb dX4_takePlain_86 (lv_at hl 0 rfl) ?_
      obtain ⟨q18, hc, h⟩ := ib h
      have hF := va_frees hD hS hA
      refine va_calli (va_runSN (As := [.long q16.1]) (rest := []) ⟨hx, hb, hml, hown, hts⟩ (s_X10_isInt hc) ⟨va_cnB 1 hts (gI mw_53_24) rfl rfl rfl (hN _ (List.mem_of_getElem? (i := 8) rfl)) (hts (.initialized RX10) mw_0_14) (by decide +kernel) ⟨(Nat.le_of_ble_eq_true rfl), (Nat.le_of_ble_eq_true rfl)⟩, (hts (.static yX10_isInt) mw_14_4), trivial⟩ (vS hK hP hD hN) rfl rfl hl.1 rfl (lv_room (Nat.le_of_ble_eq_true rfl)) dX4_takePlain_88 ⟨(Nat.le_of_ble_eq_true rfl), (Nat.le_of_ble_eq_true rfl)⟩) hS (fun q _ h => hF q h) hF (fun r19 u t H locs ht hvm hw hB _ _ hS => ?_)
      obtain rfl : r19 = q18.1 := hw
      replace hP : va_P (dC, dI) vwCl (wA a k q18.2) H := by rw [← ht]; exact hB.1
      replace hD := hD0 (q18.2)
      clear hB hF
      refine lv_if_ne (tgt := 137) hx hb dX4_takePlain_91 (by decide) (fun hc => ?_) (fun hc => ?_)
      · replace h := iq hc h
        exact b_X4_takePlain_137_89_50 hC h _ _ _ hP hD hS (lv_sub hl [3, 4, 5, 6, 7, 1, 0] rfl)
      · replace h := ip hc h
        refine lv_aload_n hx hb dX4_takePlain_94 rfl (lv_at hl 3 rfl) ?_
        refine lv_bipush (v := 12) hx hb dX4_takePlain_95 (by decide) ?_
        refine lv_iload hx hb dX4_takePlain_97 (lv_at hl 2 rfl) ?_
        obtain ⟨q20, hc, h⟩ := ib h
        have hF := va_frees hD hS hA
        refine va_callv (va_runV (As := [.int 12, .int (σ.1 89 5)]) (rest := []) ⟨hx, hb, hml, hown, hts⟩ (s_X4_fail_89_50 hc) (cwV 2 hts (gV mw_11_15 mw_11_16 mw_11_17 mw_0_8 mw_49_2) rfl rfl rfl (by decide +kernel) ⟨(Nat.le_of_ble_eq_true rfl), (Nat.le_of_ble_eq_true rfl)⟩) (vV (ci := 4) (q0 := 89) hK hP hD hN rfl gA_89) rfl rfl hl.1 rfl (lv_room (Nat.le_of_ble_eq_true rfl)) dX4_takePlain_99 ⟨(Nat.le_of_ble_eq_true rfl), (Nat.le_of_ble_eq_true rfl)⟩) hS (fun q _ h => hF q h) hF (fun u t H locs ht hvm hw hB _ _ hS => ?_)
        replace hP : va_P (dC, dI) vwCl (wA a k q20) H := by rw [← ht]; exact hB.1
        replace hD := hD0 (q20)
        clear hB hF
        refine lv_goto (tgt := 137) hx hb dX4_takePlain_102 (by decide) ?_
        exact b_X4_takePlain_137_89_50 hC h _ _ _ hP hD hS (lv_sub hl [3, 4, 5, 6, 7, 1, 0] rfl)
  · replace h := ip s4 (iq (by rw [s4]; decide) (iq (by rw [s4]; decide) (iq (by rw [s4]; decide) h)))
    refine lv_tableIn (off := 92) (tgt := 105) hx hb dX4_takePlain_13 (by rw [s4]; decide) (by rw [s4]; decide) (by rw [s4]; rfl) (by decide) ?_
    refine lv_aload_n hx hb dX4_takePlain_105 rfl (lv_at hl 3 rfl) ?_
    obtain ⟨q22, hc, h⟩ := ib h
    have hF := va_frees hD hS hA
    refine va_calll (va_runV (As := []) (rest := []) ⟨hx, hb, hml, hown, hts⟩ (s_X4_takeReal_89_50 hc) (cwV 0 hts (gV mw_14_5 mw_14_6 mw_14_7 mw_0_8 mw_49_19) rfl rfl rfl (by decide +kernel) ⟨(Nat.le_of_ble_eq_true rfl), (Nat.le_of_ble_eq_true rfl)⟩) (vV (ci := 4) (q0 := 89) hK hP hD hN rfl gA_89) rfl rfl hl.1 rfl (lv_room (Nat.le_of_ble_eq_true rfl)) dX4_takePlain_106 ⟨(Nat.le_of_ble_eq_true rfl), (Nat.le_of_ble_eq_true rfl)⟩) hS (fun q _ h => hF q h) hF (fun r23 u t H locs ht hvm hw hB _ _ hS => ?_)
    obtain rfl : r23 = q22.1 := hw
    replace hP : va_P (dC, dI) vwCl (wA a k q22.2) H := by rw [← ht]; exact hB.1
    replace hD := hD0 (q22.2)
    clear hB hF
    refine lv_lstore (lv' := [(7, .long q22.1), (6, .int 0), (5, .int (σ.1 89 5)), (0, .ref (a 89)), (1, .int p0), (2, .int p1), (3, .int p2), (4, .int p3)]) hx hb dX4_takePlain_109 hl (by decide) rfl (fun ls hl => ?_)
    refine lv_goto (tgt := 137) hx hb dX4_takePlain_111 (by decide) ?_
    exact b_X4_takePlain_137_89_50 hC h _ _ _ hP hD hS (lv_sub hl [3, 4, 5, 6, 7, 1, 0] rfl)
  · replace h := ip s5 (iq (by rw [s5]; decide) (iq (by rw [s5]; decide) (iq (by rw [s5]; decide) (iq (by rw [s5]; decide) h))))
    refine lv_tableIn (off := 101) (tgt := 114) hx hb dX4_takePlain_13 (by rw [s5]; decide) (by rw [s5]; decide) (by rw [s5]; rfl) (by decide) ?_
    refine lv_aload_n hx hb dX4_takePlain_114 rfl (lv_at hl 3 rfl) ?_
    refine lv_iload hx hb dX4_takePlain_115 (lv_at hl 2 rfl) ?_
    refine lv_bipush (v := 12) hx hb dX4_takePlain_117 (by decide) ?_
    obtain ⟨q24, hc, h⟩ := ib h
    have hF := va_frees hD hS hA
    refine va_calli (va_runV (As := [.int (σ.1 89 5), .int 12]) (rest := []) ⟨hx, hb, hml, hown, hts⟩ (s_X4_takeCount_89_50 hc) (cwV 2 hts (gV mw_12_2 mw_12_3 mw_12_4 mw_0_8 mw_49_18) rfl rfl rfl (by decide +kernel) ⟨(Nat.le_of_ble_eq_true rfl), (Nat.le_of_ble_eq_true rfl)⟩) (vV (ci := 4) (q0 := 89) hK hP hD hN rfl gA_89) rfl rfl hl.1 rfl (lv_room (Nat.le_of_ble_eq_true rfl)) dX4_takePlain_119 ⟨(Nat.le_of_ble_eq_true rfl), (Nat.le_of_ble_eq_true rfl)⟩) hS (fun q _ h => hF q h) hF (fun r25 u t H locs ht hvm hw hB _ _ hS => ?_)
    obtain rfl : r25 = q24.1 := hw
    replace hP : va_P (dC, dI) vwCl (wA a k q24.2) H := by rw [← ht]; exact hB.1
    replace hD := hD0 (q24.2)
    clear hB hF
    refine lv_istore (lv' := [(6, .int q24.1), (7, .long 0), (5, .int (σ.1 89 5)), (0, .ref (a 89)), (1, .int p0), (2, .int p1), (3, .int p2), (4, .int p3)]) hx hb dX4_takePlain_122 hl (by decide) rfl (fun ls hl => ?_)
    refine lv_aload_n hx hb dX4_takePlain_124 rfl (lv_at hl 3 rfl) ?_
    refine lv_iload hx hb dX4_takePlain_125 (lv_at hl 2 rfl) ?_
    refine lv_iload hx hb dX4_takePlain_127 (lv_at hl 0 rfl) ?_
    obtain ⟨q26, hc, h⟩ := ib h
    have hF := va_frees hD hS hA
    refine va_calll (va_runV (As := [.int (σ.1 89 5), .int q24.1]) (rest := []) ⟨hx, hb, hml, hown, hts⟩ (s_X4_takeLetters_89_50 hc) (cwV 2 hts (gV mw_14_8 mw_14_9 mw_14_10 mw_0_8 mw_49_20) rfl rfl rfl (by decide +kernel) ⟨(Nat.le_of_ble_eq_true rfl), (Nat.le_of_ble_eq_true rfl)⟩) (vV (ci := 4) (q0 := 89) hK hP hD hN rfl gA_89) rfl rfl hl.1 rfl (lv_room (Nat.le_of_ble_eq_true rfl)) dX4_takePlain_129 ⟨(Nat.le_of_ble_eq_true rfl), (Nat.le_of_ble_eq_true rfl)⟩) hS (fun q _ h => hF q h) hF (fun r27 u t H locs ht hvm hw hB _ _ hS => ?_)
    obtain rfl : r27 = q26.1 := hw
    replace hP : va_P (dC, dI) vwCl (wA a k q26.2) H := by rw [← ht]; exact hB.1
    replace hD := hD0 (q26.2)
    clear hB hF
    refine lv_lstore (lv' := [(7, .long q26.1), (6, .int q24.1), (5, .int (σ.1 89 5)), (0, .ref (a 89)), (1, .int p0), (2, .int p1), (3, .int p2), (4, .int p3)]) hx hb dX4_takePlain_132 hl (by decide) rfl (fun ls hl => ?_)
    refine lv_goto (tgt := 137) hx hb dX4_takePlain_134 (by decide) ?_
    exact b_X4_takePlain_137_89_50 hC h _ _ _ hP hD hS (lv_sub hl [3, 4, 5, 6, 7, 1, 0] rfl)
  · replace h := (iq s5 (iq s4 (iq s3 (iq s2 (iq s1 h)))))
    refine lv_tableOut (tgt := 137) hx hb dX4_takePlain_13 (by have a0 := il_ne s1; have e0 : (1 : Int32).toInt = 1 := (by decide); have a1 := il_ne s2; have e1 : (2 : Int32).toInt = 2 := (by decide); have a2 := il_ne s3; have e2 : (3 : Int32).toInt = 3 := (by decide); have a3 := il_ne s4; have e3 : (4 : Int32).toInt = 4 := (by decide); have a4 := il_ne s5; have e4 : (5 : Int32).toInt = 5 := (by decide); omega) (by decide) ?_
    exact b_X4_takePlain_137_89_50 hC h _ _ _ hP hD hS (lv_sub hl [3, 4, 5, 6, 7, 1, 0] rfl)

theorem s_X4_takePlain_89_50 {l : Launch} {dC : Nat → ClassId} {dI : Nat → Nat → Nat} {a : Nat → Nat} {k : Nat → ClassId} {sz : Nat} {p0 : Int32} {p1 : Int32} {p2 : Int32} {p3 : Int32} {σ : ST} {q : ST} (h : f_X4_takePlain 89 50 p0 p1 p2 p3 σ = some q) : Met l yX4_takePlain (.code yX4_takePlain cX4_takePlain 10 none :: pw) ({ frames := 4, cells := 0, slots := 0, locals := 98 } : Room) (va_Pc [.ref (a 89), .int p0, .int p1, .int p2, .int p3] (vPre dC dI (wA a k σ) (tA k) sz)) (qAv dC dI a k (va_A (wA a k σ) sz) q) 0 0 (va_A (wA a k σ) sz) := metA (fun A => qAv dC dI a k A q) (plainFor_of_name (by decide)) (Nat.le_of_ble_eq_true rfl) (fun _ _ _ _ _ _ _ _ hC => b_X4_takePlain_e_89_50 hC h)

set_option maxRecDepth 100000 in
set_option maxHeartbeats 4000000 in
theorem b_X4_takePlain_183_92_62 {p : Program} {l : Launch} {e : Env} {s : State} {m : MethodId} {args : Array Value} {below : List Frame} {meth : Method} {c : Code} {dC : Nat → ClassId} {dI : Nat → Nat → Nat} {a : Nat → Nat} {k : Nat → ClassId} {A : Nat → Prop} {q : ST} (hC : CxA p s m args meth c dC dI k A cX4_takePlain RX4 none 10)   {y0 : Int64} {y1 : Int32} {y2 : Int32} {y3 : Int32} {y4 : Int32} {σ : ST} (h : f_X4_takePlain_183 92 62 y0 y1 y2 y3 y4 σ = some q) : GoA p l e ({ frames := 4, cells := 0, slots := 0, locals := 98 } : Room) s m args below meth c (MQ below (qAv dC dI a k A q) args s 0 0 A) dC dI a k A 10 183 σ [] [.long y0, .int y1, .int y2, .int y3, .int y4, .ref (a 92)] := by
  have hC0 := hC
  obtain ⟨hx, hb, hr, hml, hown, hts, hlocks, hA, hN, hK⟩ := hC0
  intro H locs ls hP hD hS hl
  have hD0 : ∀ σ1 : ST, va_D A (wA a k σ1) := fun σ1 => wA_D hD
  unfold f_X4_takePlain_183 at h
  obtain ⟨q1, hc, h⟩ := ib h
  have hF := va_frees hD hS hA
  refine va_calli (va_runV (As := [.int y4, .int y3, .int y2, .int y1, .long y0]) (rest := []) ⟨hx, hb, hml, hown, hts⟩ (s_X4_addNode_92_62 hc) (cwV 5 hts (gV mw_13_6 mw_13_7 mw_13_8 mw_0_8 mw_49_8) rfl rfl rfl (by decide +kernel) ⟨(Nat.le_of_ble_eq_true rfl), (Nat.le_of_ble_eq_true rfl)⟩) (vV (ci := 4) (q0 := 92) hK hP hD hN rfl gA_92) rfl rfl hl.1 rfl (lv_room (Nat.le_of_ble_eq_true rfl)) dX4_takePlain_183 ⟨(Nat.le_of_ble_eq_true rfl), (Nat.le_of_ble_eq_true rfl)⟩) hS (fun q _ h => hF q h) hF (fun r2 u t H locs ht hvm hw hB _ _ hS => ?_)
  obtain rfl : r2 = q1.1 := hw
  replace hP : va_P (dC, dI) vwCl (wA a k q1.2) H := by rw [← ht]; exact hB.1
  replace hD := hD0 (q1.2)
  clear hB hF
  refine lv_pop hx hb dX4_takePlain_186 rfl ?_
  obtain rfl := Option.some.inj h
  exact W.vret hx hb hr (fun t ht hW => ⟨⟨(), rfl, trivial, ⟨by rw [ht]; exact hP, va_K.moved hW.alike hK, hD⟩⟩, hS.F ht⟩) hS.2.2 dX4_takePlain_187

set_option maxRecDepth 100000 in
set_option maxHeartbeats 4000000 in
theorem b_X4_takePlain_159_92_62 {p : Program} {l : Launch} {e : Env} {s : State} {m : MethodId} {args : Array Value} {below : List Frame} {meth : Method} {c : Code} {dC : Nat → ClassId} {dI : Nat → Nat → Nat} {a : Nat → Nat} {k : Nat → ClassId} {A : Nat → Prop} {q : ST} (hC : CxA p s m args meth c dC dI k A cX4_takePlain RX4 none 10)   {x2 : Int32} {x3 : Int32} {x4 : Int32} {x6 : Int32} {x7 : Int64} {y0 : Int32} {σ : ST} (h : f_X4_takePlain_159 92 62 x2 x3 x4 x6 x7 y0 σ = some q) : GoA p l e ({ frames := 4, cells := 0, slots := 0, locals := 98 } : Room) s m args below meth c (MQ below (qAv dC dI a k A q) args s 0 0 A) dC dI a k A 10 159 σ [(0, .ref (a 92)), (2, .int x2), (3, .int x3), (4, .int x4), (6, .int x6), (7, .long x7)] [.int y0] := by
  have hC0 := hC
  obtain ⟨hx, hb, hr, hml, hown, hts, hlocks, hA, hN, hK⟩ := hC0
  intro H locs ls hP hD hS hl
  have hD0 : ∀ σ1 : ST, va_D A (wA a k σ1) := fun σ1 => wA_D hD
  unfold f_X4_takePlain_159 at h
  refine lv_istore (lv' := [(9, .int y0), (0, .ref (a 92)), (2, .int x2), (3, .int x3), (4, .int x4), (6, .int x6), (7, .long x7)]) hx hb dX4_takePlain_159 hl (by decide) rfl (fun ls hl => ?_)
  refine lv_aload_n hx hb dX4_takePlain_161 rfl (lv_at hl 1 rfl) ?_
  refine lv_iload_n hx hb dX4_takePlain_162 rfl (lv_at hl 2 rfl) ?_
  refine lv_iload_n hx hb dX4_takePlain_163 rfl (lv_at hl 3 rfl) ?_
  refine lv_iload hx hb dX4_takePlain_164 (lv_at hl 4 rfl) ?_
  refine lv_iload hx hb dX4_takePlain_166 (lv_at hl 5 rfl) ?_
  refine lv_iload hx hb dX4_takePlain_168 (lv_at hl 0 rfl) ?_
  refine lv_if_eq (tgt := 181) hx hb dX4_takePlain_170 (by decide) (fun hc => ?_) (fun hc => ?_)
  · replace h := ip hc h
    refine lv_lload hx hb dX4_takePlain_181 (lv_at hl 6 rfl) ?_
    exact b_X4_takePlain_183_92_62 hC h _ _ _ hP hD hS (lv_sub hl [] rfl)
  · replace h := iq hc h
    refine lv_lload hx hb dX4_takePlain_173 (lv_at hl 6 rfl) ?_
    obtain ⟨q1, hc, h⟩ := ib h
    have hF := va_frees hD hS hA
    refine va_calll (va_runSN (As := [.long x7]) (rest := [.int x6, .int x4, .int x3, .int x2, .ref (a 92)]) ⟨hx, hb, hml, hown, hts⟩ (s_X10_bitsOfWhole hc) ⟨va_cnB 1 hts (gI mw_53_23) rfl rfl rfl (hN _ (List.mem_of_getElem? (i := 9) rfl)) (hts (.initialized RX10) mw_0_14) (by decide +kernel) ⟨(Nat.le_of_ble_eq_true rfl), (Nat.le_of_ble_eq_true rfl)⟩, (hts (.static yX10_bitsOfWhole) mw_14_11), trivial⟩ (vS hK hP hD hN) rfl rfl hl.1 rfl (lv_room (Nat.le_of_ble_eq_true rfl)) dX4_takePlain_175 ⟨(Nat.le_of_ble_eq_true rfl), (Nat.le_of_ble_eq_true rfl)⟩) hS (fun q _ h => hF q h) hF (fun r2 u t H locs ht hvm hw hB _ _ hS => ?_)
    obtain rfl : r2 = q1.1 := hw
    replace hP : va_P (dC, dI) vwCl (wA a k q1.2) H := by rw [← ht]; exact hB.1
    replace hD := hD0 (q1.2)
    clear hB hF
    refine lv_goto (tgt := 183) hx hb dX4_takePlain_178 (by decide) ?_
    exact b_X4_takePlain_183_92_62 hC h _ _ _ hP hD hS (lv_sub hl [] rfl)

set_option maxRecDepth 100000 in
set_option maxHeartbeats 4000000 in
theorem b_X4_takePlain_158_92_62 {p : Program} {l : Launch} {e : Env} {s : State} {m : MethodId} {args : Array Value} {below : List Frame} {meth : Method} {c : Code} {dC : Nat → ClassId} {dI : Nat → Nat → Nat} {a : Nat → Nat} {k : Nat → ClassId} {A : Nat → Prop} {q : ST} (hC : CxA p s m args meth c dC dI k A cX4_takePlain RX4 none 10)   {x2 : Int32} {x3 : Int32} {x4 : Int32} {x6 : Int32} {x7 : Int64} {σ : ST} (h : f_X4_takePlain_158 92 62 x2 x3 x4 x6 x7 σ = some q) : GoA p l e ({ frames := 4, cells := 0, slots := 0, locals := 98 } : Room) s m args below meth c (MQ below (qAv dC dI a k A q) args s 0 0 A) dC dI a k A 10 158 σ [(0, .ref (a 92)), (2, .int x2), (3, .int x3), (4, .int x4), (6, .int x6), (7, .long x7)] [] := by
  have hC0 := hC
  obtain ⟨hx, hb, hr, hml, hown, hts, hlocks, hA, hN, hK⟩ := hC0
  intro H locs ls hP hD hS hl
  have hD0 : ∀ σ1 : ST, va_D A (wA a k σ1) := fun σ1 => wA_D hD
  unfold f_X4_takePlain_158 at h
  refine lv_iconst (v := 0) hx hb dX4_takePlain_158 (by decide) ?_
  exact b_X4_takePlain_159_92_62 hC h _ _ _ hP hD hS (lv_sub hl [0, 1, 2, 3, 4, 5] rfl)

set_option maxRecDepth 100000 in
set_option maxHeartbeats 4000000 in
theorem b_X4_takePlain_137_92_62 {p : Program} {l : Launch} {e : Env} {s : State} {m : MethodId} {args : Array Value} {below : List Frame} {meth : Method} {c : Code} {dC : Nat → ClassId} {dI : Nat → Nat → Nat} {a : Nat → Nat} {k : Nat → ClassId} {A : Nat → Prop} {q : ST} (hC : CxA p s m args meth c dC dI k A cX4_takePlain RX4 none 10)   {x1 : Int32} {x2 : Int32} {x3 : Int32} {x4 : Int32} {x6 : Int32} {x7 : Int64} {σ : ST} (h : f_X4_takePlain_137 92 62 x1 x2 x3 x4 x6 x7 σ = some q) : GoA p l e ({ frames := 4, cells := 0, slots := 0, locals := 98 } : Room) s m args below meth c (MQ below (qAv dC dI a k A q) args s 0 0 A) dC dI a k A 10 137 σ [(0, .ref (a 92)), (1, .int x1), (2, .int x2), (3, .int x3), (4, .int x4), (6, .int x6), (7, .long x7)] [] := by
  have hC0 := hC
  obtain ⟨hx, hb, hr, hml, hown, hts, hlocks, hA, hN, hK⟩ := hC0
  intro H locs ls hP hD hS hl
  have hD0 : ∀ σ1 : ST, va_D A (wA a k σ1) := fun σ1 => wA_D hD
  unfold f_X4_takePlain_137 at h
  refine lv_iload_n hx hb dX4_takePlain_137 rfl (lv_at hl 1 rfl) ?_
  refine lv_iconst (v := 4) hx hb dX4_takePlain_138 (by decide) ?_
  refine lv_icmp_eq (tgt := 158) hx hb dX4_takePlain_139 (by decide) (fun hc => ?_) (fun hc => ?_)
  · replace h := ip hc h
    exact b_X4_takePlain_158_92_62 hC h _ _ _ hP hD hS (lv_sub hl [0, 2, 3, 4, 5, 6] rfl)
  · replace h := iq hc h
    refine lv_aload_n hx hb dX4_takePlain_142 rfl (lv_at hl 0 rfl) ?_
    refine va_get (D := (dC, dI)) (ci := 4) (C := RX4) (T := TX4) (N := 12) hx hb hts inlX4 hown hK hP 92 gA_92 rfl 0 (by decide) (hts (.fieldLink RX4 37 "ShapeReader$Reading" "shapes" "LShapeReader$Shapes;") mw_10_28) (fun _ h9 => h9) rfl dX4_takePlain_143 ?_
    refine lv_iload_n hx hb dX4_takePlain_146 rfl (lv_at hl 2 rfl) ?_
    obtain ⟨q1, hc, h⟩ := ib h
    have hF := va_frees hD hS hA
    refine va_calli (va_runV (As := [.int x2]) (rest := []) ⟨hx, hb, hml, hown, hts⟩ (s_X5_sortOf_4 hc) (cwV 1 hts (gV mw_11_25 mw_2_13 mw_2_14 mw_0_9 mw_50_6) rfl rfl rfl (by decide +kernel) ⟨(Nat.le_of_ble_eq_true rfl), (Nat.le_of_ble_eq_true rfl)⟩) (vV (ci := 5) (q0 := 4) hK hP hD hN rfl gA_4) rfl rfl hl.1 rfl (lv_room (Nat.le_of_ble_eq_true rfl)) dX4_takePlain_147 ⟨(Nat.le_of_ble_eq_true rfl), (Nat.le_of_ble_eq_true rfl)⟩) hS (fun q _ h => hF q h) hF (fun r2 u t H locs ht hvm hw hB _ _ hS => ?_)
    obtain rfl : r2 = q1.1 := hw
    replace hP : va_P (dC, dI) vwCl (wA a k q1.2) H := by rw [← ht]; exact hB.1
    replace hD := hD0 (q1.2)
    clear hB hF
    refine lv_iconst (v := 4) hx hb dX4_takePlain_150 (by decide) ?_
    refine lv_icmp_ne (tgt := 158) hx hb dX4_takePlain_151 (by decide) (fun hc => ?_) (fun hc => ?_)
    · replace h := iq hc h
      exact b_X4_takePlain_158_92_62 hC h _ _ _ hP hD hS (lv_sub hl [0, 2, 3, 4, 5, 6] rfl)
    · replace h := ip hc h
      refine lv_iconst (v := 1) hx hb dX4_takePlain_154 (by decide) ?_
      refine lv_goto (tgt := 159) hx hb dX4_takePlain_155 (by decide) ?_
      exact b_X4_takePlain_159_92_62 hC h _ _ _ hP hD hS (lv_sub hl [0, 2, 3, 4, 5, 6] rfl)

set_option maxRecDepth 100000 in
set_option maxHeartbeats 4000000 in
theorem b_X4_takePlain_e_92_62 {p : Program} {l : Launch} {e : Env} {s : State} {m : MethodId} {args : Array Value} {below : List Frame} {meth : Method} {c : Code} {dC : Nat → ClassId} {dI : Nat → Nat → Nat} {a : Nat → Nat} {k : Nat → ClassId} {A : Nat → Prop} {q : ST} (hC : CxA p s m args meth c dC dI k A cX4_takePlain RX4 none 10)   {p0 : Int32} {p1 : Int32} {p2 : Int32} {p3 : Int32} {σ : ST} (h : f_X4_takePlain 92 62 p0 p1 p2 p3 σ = some q) : GoA p l e ({ frames := 4, cells := 0, slots := 0, locals := 98 } : Room) s m args below meth c (MQ below (qAv dC dI a k A q) args s 0 0 A) dC dI a k A 10 0 σ (lv_args 0 [.ref (a 92), .int p0, .int p1, .int p2, .int p3]) [] := by
  have hC0 := hC
  obtain ⟨hx, hb, hr, hml, hown, hts, hlocks, hA, hN, hK⟩ := hC0
  intro H locs ls hP hD hS hl
  have hD0 : ∀ σ1 : ST, va_D A (wA a k σ1) := fun σ1 => wA_D hD
  replace hl : lv_has ls 10 [(0, .ref (a 92)), (1, .int p0), (2, .int p1), (3, .int p2), (4, .int p3)] := hl
  unfold f_X4_takePlain at h
  refine lv_aload_n hx hb dX4_takePlain_0 rfl (lv_at hl 0 rfl) ?_
  refine va_get (D := (dC, dI)) (ci := 4) (C := RX4) (T := TX4) (N := 12) hx hb hts inlX4 hown hK hP 92 gA_92 rfl 5 (by decide) (hts (.fieldLink RX4 15 "ShapeReader$Reading" "next" "I") mw_10_21) (fun _ h9 => h9) rfl dX4_takePlain_1 ?_
  refine lv_istore (lv' := [(5, .int (σ.1 92 5)), (0, .ref (a 92)), (1, .int p0), (2, .int p1), (3, .int p2), (4, .int p3)]) hx hb dX4_takePlain_4 hl (by decide) rfl (fun ls hl => ?_)
  refine lv_iconst (v := 0) hx hb dX4_takePlain_6 (by decide) ?_
  refine lv_istore (lv' := [(6, .int 0), (5, .int (σ.1 92 5)), (0, .ref (a 92)), (1, .int p0), (2, .int p1), (3, .int p2), (4, .int p3)]) hx hb dX4_takePlain_7 hl (by decide) rfl (fun ls hl => ?_)
  refine lv_lconst (v := 0) hx hb dX4_takePlain_9 (by decide) ?_
  refine lv_lstore (lv' := [(7, .long 0), (6, .int 0), (5, .int (σ.1 92 5)), (0, .ref (a 92)), (1, .int p0), (2, .int p1), (3, .int p2), (4, .int p3)]) hx hb dX4_takePlain_10 hl (by decide) rfl (fun ls hl => ?_)
  refine lv_iload_n hx hb dX4_takePlain_12 rfl (lv_at hl 4 rfl) ?_
  rcases (il_sw5 p0 (1) (2) (3) (4) (5)) with s1 | s2 | s3 | s4 | s5 | ⟨s1, s2, s3, s4, s5⟩
  · replace h := ip s1 h
    refine lv_tableIn (off := 35) (tgt := 48) hx hb dX4_takePlain_13 (by rw [s1]; decide) (by rw [s1]; decide) (by rw [s1]; rfl) (by decide) ?_
    refine lv_aload_n hx hb dX4_takePlain_48 rfl (lv_at hl 3 rfl) ?_
    obtain ⟨q6, hc, h⟩ := ib h
    have hF := va_frees hD hS hA
    refine va_calli (va_runV (As := []) (rest := []) ⟨hx, hb, hml, hown, hts⟩ (s_X4_takeByte_92_62 hc) (cwV 0 hts (gV mw_13_28 mw_13_29 mw_14_0 mw_0_8 mw_49_16) rfl rfl rfl (by decide +kernel) ⟨(Nat.le_of_ble_eq_true rfl), (Nat.le_of_ble_eq_true rfl)⟩) (vV (ci := 4) (q0 := 92) hK hP hD hN rfl gA_92) rfl rfl hl.1 rfl (lv_room (Nat.le_of_ble_eq_true rfl)) dX4_takePlain_49 ⟨(Nat.le_of_ble_eq_true rfl), (Nat.le_of_ble_eq_true rfl)⟩) hS (fun q _ h => hF q h) hF (fun r7 u t H locs ht hvm hw hB _ _ hS => ?_)
    obtain rfl : r7 = q6.1 := hw
    replace hP : va_P (dC, dI) vwCl (wA a k q6.2) H := by rw [← ht]; exact hB.1
    replace hD := hD0 (q6.2)
    clear hB hF
    refine lv_i2l (v := q6.1.toInt64) hx hb dX4_takePlain_52 rfl ?_
    refine lv_lstore (lv' := [(7, .long (q6.1.toInt64)), (6, .int 0), (5, .int (σ.1 92 5)), (0, .ref (a 92)), (1, .int p0), (2, .int p1), (3, .int p2), (4, .int p3)]) hx hb dX4_takePlain_53 hl (by decide) rfl (fun ls hl => ?_)
    refine lv_lload hx hb dX4_takePlain_55 (lv_at hl 0 rfl) ?_
    refine lv_lconst (v := 1) hx hb dX4_takePlain_57 (by decide) ?_
    refine W.lcmp hx hb dX4_takePlain_58 ?_
    refine lv_if_le (tgt := 137) hx hb dX4_takePlain_59 (by decide) (fun hc => ?_) (fun hc => ?_)
    · replace h := ip hc h
      exact b_X4_takePlain_137_92_62 hC h _ _ _ hP hD hS (lv_sub hl [3, 4, 5, 6, 7, 1, 0] rfl)
    · replace h := iq hc h
      refine lv_aload_n hx hb dX4_takePlain_62 rfl (lv_at hl 3 rfl) ?_
      refine lv_bipush (v := 12) hx hb dX4_takePlain_63 (by decide) ?_
      refine lv_iload hx hb dX4_takePlain_65 (lv_at hl 2 rfl) ?_
      obtain ⟨q8, hc, h⟩ := ib h
      have hF := va_frees hD hS hA
      refine va_callv (va_runV (As := [.int 12, .int (σ.1 92 5)]) (rest := []) ⟨hx, hb, hml, hown, hts⟩ (s_X4_fail_92_62 hc) (cwV 2 hts (gV mw_11_15 mw_11_16 mw_11_17 mw_0_8 mw_49_2) rfl rfl rfl (by decide +kernel) ⟨(Nat.le_of_ble_eq_true rfl), (Nat.le_of_ble_eq_true rfl)⟩) (vV (ci := 4) (q0 := 92) hK hP hD hN rfl gA_92) rfl rfl hl.1 rfl (lv_room (Nat.le_of_ble_eq_true rfl)) dX4_takePlain_67 ⟨(Nat.le_of_ble_eq_true rfl), (Nat.le_of_ble_eq_true rfl)⟩) hS (fun q _ h => hF q h) hF (fun u t H locs ht hvm hw hB _ _ hS => ?_)
      replace hP : va_P (dC, dI) vwCl (wA a k q8) H := by rw [← ht]; exact hB.1
      replace hD := hD0 (q8)
      clear hB hF
      refine lv_goto (tgt := 137) hx hb dX4_takePlain_70 (by decide) ?_
      exact b_X4_takePlain_137_92_62 hC h _ _ _ hP hD hS (lv_sub hl [3, 4, 5, 6, 7, 1, 0] rfl)
  · replace h := ip s2 (iq (by rw [s2]; decide) h)
    refine lv_tableIn (off := 60) (tgt := 73) hx hb dX4_takePlain_13 (by rw [s2]; decide) (by rw [s2]; decide) (by rw [s2]; rfl) (by decide) ?_
    refine lv_aload_n hx hb dX4_takePlain_73 rfl (lv_at hl 3 rfl) ?_
    refine lv_iload hx hb dX4_takePlain_74 (lv_at hl 2 rfl) ?_
    obtain ⟨q10, hc, h⟩ := ib h
    have hF := va_frees hD hS hA
    refine va_calll (va_runV (As := [.int (σ.1 92 5)]) (rest := []) ⟨hx, hb, hml, hown, hts⟩ (s_X4_takeNumber_92_62 hc) (cwV 1 hts (gV mw_14_1 mw_14_2 mw_14_3 mw_0_8 mw_49_17) rfl rfl rfl (by decide +kernel) ⟨(Nat.le_of_ble_eq_true rfl), (Nat.le_of_ble_eq_true rfl)⟩) (vV (ci := 4) (q0 := 92) hK hP hD hN rfl gA_92) rfl rfl hl.1 rfl (lv_room (Nat.le_of_ble_eq_true rfl)) dX4_takePlain_76 ⟨(Nat.le_of_ble_eq_true rfl), (Nat.le_of_ble_eq_true rfl)⟩) hS (fun q _ h => hF q h) hF (fun r11 u t H locs ht hvm hw hB _ _ hS => ?_)
    obtain rfl : r11 = q10.1 := hw
    replace hP : va_P (dC, dI) vwCl (wA a k q10.2) H := by rw [← ht]; exact hB.1
    replace hD := hD0 (q10.2)
    clear hB hF
    refine lv_lstore (lv' := [(7, .long q10.1), (6, .int 0), (5, .int (σ.1 92 5)), (0, .ref (a 92)), (1, .int p0), (2, .int p1), (3, .int p2), (4, .int p3)]) hx hb dX4_takePlain_79 hl (by decide) rfl (fun ls hl => ?_)
    refine lv_iload_n hx hb dX4_takePlain_81 rfl (lv_at hl 4 rfl) ?_
    refine lv_iconst (v := 2) hx hb dX4_takePlain_82 (by decide) ?_
    refine lv_icmp_ne (tgt := 137) hx hb dX4_takePlain_83 (by decide) (fun hc => ?_) (fun hc => ?_)
    · replace h := iq hc h
      exact b_X4_takePlain_137_92_62 hC h _ _ _ hP hD hS (lv_sub hl [3, 4, 5, 6, 7, 1, 0] rfl)
    · replace h := ip hc h
      refine lv_lload hx hb dX4_takePlain_86 (lv_at hl 0 rfl) ?_
      obtain ⟨q12, hc, h⟩ := ib h
      have hF := va_frees hD hS hA
      refine va_calli (va_runSN (As := [.long q10.1]) (rest := []) ⟨hx, hb, hml, hown, hts⟩ (s_X10_isInt hc) ⟨va_cnB 1 hts (gI mw_53_24) rfl rfl rfl (hN _ (List.mem_of_getElem? (i := 8) rfl)) (hts (.initialized RX10) mw_0_14) (by decide +kernel) ⟨(Nat.le_of_ble_eq_true rfl), (Nat.le_of_ble_eq_true rfl)⟩, (hts (.static yX10_isInt) mw_14_4), trivial⟩ (vS hK hP hD hN) rfl rfl hl.1 rfl (lv_room (Nat.le_of_ble_eq_true rfl)) dX4_takePlain_88 ⟨(Nat.le_of_ble_eq_true rfl), (Nat.le_of_ble_eq_true rfl)⟩) hS (fun q _ h => hF q h) hF (fun r13 u t H locs ht hvm hw hB _ _ hS => ?_)
      obtain rfl : r13 = q12.1 := hw
      replace hP : va_P (dC, dI) vwCl (wA a k q12.2) H := by rw [← ht]; exact hB.1
      replace hD := hD0 (q12.2)
      clear hB hF
      refine lv_if_ne (tgt := 137) hx hb dX4_takePlain_91 (by decide) (fun hc => ?_) (fun hc => ?_)
      · replace h := iq hc h
        exact b_X4_takePlain_137_92_62 hC h _ _ _ hP hD hS (lv_sub hl [3, 4, 5, 6, 7, 1, 0] rfl)
      · replace h := ip hc h
        refine lv_aload_n hx hb dX4_takePlain_94 rfl (lv_at hl 3 rfl) ?_
        refine lv_bipush (v := 12) hx hb dX4_takePlain_95 (by decide) ?_
        refine lv_iload hx hb dX4_takePlain_97 (lv_at hl 2 rfl) ?_
        obtain ⟨q14, hc, h⟩ := ib h
        have hF := va_frees hD hS hA
        refine va_callv (va_runV (As := [.int 12, .int (σ.1 92 5)]) (rest := []) ⟨hx, hb, hml, hown, hts⟩ (s_X4_fail_92_62 hc) (cwV 2 hts (gV mw_11_15 mw_11_16 mw_11_17 mw_0_8 mw_49_2) rfl rfl rfl (by decide +kernel) ⟨(Nat.le_of_ble_eq_true rfl), (Nat.le_of_ble_eq_true rfl)⟩) (vV (ci := 4) (q0 := 92) hK hP hD hN rfl gA_92) rfl rfl hl.1 rfl (lv_room (Nat.le_of_ble_eq_true rfl)) dX4_takePlain_99 ⟨(Nat.le_of_ble_eq_true rfl), (Nat.le_of_ble_eq_true rfl)⟩) hS (fun q _ h => hF q h) hF (fun u t H locs ht hvm hw hB _ _ hS => ?_)
        replace hP : va_P (dC, dI) vwCl (wA a k q14) H := by rw [← ht]; exact hB.1
        replace hD := hD0 (q14)
        clear hB hF
        refine lv_goto (tgt := 137) hx hb dX4_takePlain_102 (by decide) ?_
        exact b_X4_takePlain_137_92_62 hC h _ _ _ hP hD hS (lv_sub hl [3, 4, 5, 6, 7, 1, 0] rfl)
  · replace h := ip s3 (iq (by rw [s3]; decide) (iq (by rw [s3]; decide) h))
    refine lv_tableIn (off := 60) (tgt := 73) hx hb dX4_takePlain_13 (by rw [s3]; decide) (by rw [s3]; decide) (by rw [s3]; rfl) (by decide) ?_
    refine lv_aload_n hx hb dX4_takePlain_73 rfl (lv_at hl 3 rfl) ?_
    refine lv_iload hx hb dX4_takePlain_74 (lv_at hl 2 rfl) ?_
    obtain ⟨q16, hc, h⟩ := ib h
    have hF := va_frees hD hS hA
    refine va_calll (va_runV (As := [.int (σ.1 92 5)]) (rest := []) ⟨hx, hb, hml, hown, hts⟩ (s_X4_takeNumber_92_62 hc) (cwV 1 hts (gV mw_14_1 mw_14_2 mw_14_3 mw_0_8 mw_49_17) rfl rfl rfl (by decide +kernel) ⟨(Nat.le_of_ble_eq_true rfl), (Nat.le_of_ble_eq_true rfl)⟩) (vV (ci := 4) (q0 := 92) hK hP hD hN rfl gA_92) rfl rfl hl.1 rfl (lv_room (Nat.le_of_ble_eq_true rfl)) dX4_takePlain_76 ⟨(Nat.le_of_ble_eq_true rfl), (Nat.le_of_ble_eq_true rfl)⟩) hS (fun q _ h => hF q h) hF (fun r17 u t H locs ht hvm hw hB _ _ hS => ?_)
    obtain rfl : r17 = q16.1 := hw
    replace hP : va_P (dC, dI) vwCl (wA a k q16.2) H := by rw [← ht]; exact hB.1
    replace hD := hD0 (q16.2)
    clear hB hF
    refine lv_lstore (lv' := [(7, .long q16.1), (6, .int 0), (5, .int (σ.1 92 5)), (0, .ref (a 92)), (1, .int p0), (2, .int p1), (3, .int p2), (4, .int p3)]) hx hb dX4_takePlain_79 hl (by decide) rfl (fun ls hl => ?_)
    refine lv_iload_n hx hb dX4_takePlain_81 rfl (lv_at hl 4 rfl) ?_
    refine lv_iconst (v := 2) hx hb dX4_takePlain_82 (by decide) ?_
    refine lv_icmp_ne (tgt := 137) hx hb dX4_takePlain_83 (by decide) (fun hc => ?_) (fun hc => ?_)
    · replace h := iq hc h
      exact b_X4_takePlain_137_92_62 hC h _ _ _ hP hD hS (lv_sub hl [3, 4, 5, 6, 7, 1, 0] rfl)
    · replace h := ip hc h
      refine lv_lload hx hb dX4_takePlain_86 (lv_at hl 0 rfl) ?_
      obtain ⟨q18, hc, h⟩ := ib h
      have hF := va_frees hD hS hA
      refine va_calli (va_runSN (As := [.long q16.1]) (rest := []) ⟨hx, hb, hml, hown, hts⟩ (s_X10_isInt hc) ⟨va_cnB 1 hts (gI mw_53_24) rfl rfl rfl (hN _ (List.mem_of_getElem? (i := 8) rfl)) (hts (.initialized RX10) mw_0_14) (by decide +kernel) ⟨(Nat.le_of_ble_eq_true rfl), (Nat.le_of_ble_eq_true rfl)⟩, (hts (.static yX10_isInt) mw_14_4), trivial⟩ (vS hK hP hD hN) rfl rfl hl.1 rfl (lv_room (Nat.le_of_ble_eq_true rfl)) dX4_takePlain_88 ⟨(Nat.le_of_ble_eq_true rfl), (Nat.le_of_ble_eq_true rfl)⟩) hS (fun q _ h => hF q h) hF (fun r19 u t H locs ht hvm hw hB _ _ hS => ?_)
      obtain rfl : r19 = q18.1 := hw
      replace hP : va_P (dC, dI) vwCl (wA a k q18.2) H := by rw [← ht]; exact hB.1
      replace hD := hD0 (q18.2)
      clear hB hF
      refine lv_if_ne (tgt := 137) hx hb dX4_takePlain_91 (by decide) (fun hc => ?_) (fun hc => ?_)
      · replace h := iq hc h
        exact b_X4_takePlain_137_92_62 hC h _ _ _ hP hD hS (lv_sub hl [3, 4, 5, 6, 7, 1, 0] rfl)
      · replace h := ip hc h
        refine lv_aload_n hx hb dX4_takePlain_94 rfl (lv_at hl 3 rfl) ?_
        refine lv_bipush (v := 12) hx hb dX4_takePlain_95 (by decide) ?_
        refine lv_iload hx hb dX4_takePlain_97 (lv_at hl 2 rfl) ?_
        obtain ⟨q20, hc, h⟩ := ib h
        have hF := va_frees hD hS hA
        refine va_callv (va_runV (As := [.int 12, .int (σ.1 92 5)]) (rest := []) ⟨hx, hb, hml, hown, hts⟩ (s_X4_fail_92_62 hc) (cwV 2 hts (gV mw_11_15 mw_11_16 mw_11_17 mw_0_8 mw_49_2) rfl rfl rfl (by decide +kernel) ⟨(Nat.le_of_ble_eq_true rfl), (Nat.le_of_ble_eq_true rfl)⟩) (vV (ci := 4) (q0 := 92) hK hP hD hN rfl gA_92) rfl rfl hl.1 rfl (lv_room (Nat.le_of_ble_eq_true rfl)) dX4_takePlain_99 ⟨(Nat.le_of_ble_eq_true rfl), (Nat.le_of_ble_eq_true rfl)⟩) hS (fun q _ h => hF q h) hF (fun u t H locs ht hvm hw hB _ _ hS => ?_)
        replace hP : va_P (dC, dI) vwCl (wA a k q20) H := by rw [← ht]; exact hB.1
        replace hD := hD0 (q20)
        clear hB hF
        refine lv_goto (tgt := 137) hx hb dX4_takePlain_102 (by decide) ?_
        exact b_X4_takePlain_137_92_62 hC h _ _ _ hP hD hS (lv_sub hl [3, 4, 5, 6, 7, 1, 0] rfl)
  · replace h := ip s4 (iq (by rw [s4]; decide) (iq (by rw [s4]; decide) (iq (by rw [s4]; decide) h)))
    refine lv_tableIn (off := 92) (tgt := 105) hx hb dX4_takePlain_13 (by rw [s4]; decide) (by rw [s4]; decide) (by rw [s4]; rfl) (by decide) ?_
    refine lv_aload_n hx hb dX4_takePlain_105 rfl (lv_at hl 3 rfl) ?_
    obtain ⟨q22, hc, h⟩ := ib h
    have hF := va_frees hD hS hA
    refine va_calll (va_runV (As := []) (rest := []) ⟨hx, hb, hml, hown, hts⟩ (s_X4_takeReal_92_62 hc) (cwV 0 hts (gV mw_14_5 mw_14_6 mw_14_7 mw_0_8 mw_49_19) rfl rfl rfl (by decide +kernel) ⟨(Nat.le_of_ble_eq_true rfl), (Nat.le_of_ble_eq_true rfl)⟩) (vV (ci := 4) (q0 := 92) hK hP hD hN rfl gA_92) rfl rfl hl.1 rfl (lv_room (Nat.le_of_ble_eq_true rfl)) dX4_takePlain_106 ⟨(Nat.le_of_ble_eq_true rfl), (Nat.le_of_ble_eq_true rfl)⟩) hS (fun q _ h => hF q h) hF (fun r23 u t H locs ht hvm hw hB _ _ hS => ?_)
    obtain rfl : r23 = q22.1 := hw
    replace hP : va_P (dC, dI) vwCl (wA a k q22.2) H := by rw [← ht]; exact hB.1
    replace hD := hD0 (q22.2)
    clear hB hF
    refine lv_lstore (lv' := [(7, .long q22.1), (6, .int 0), (5, .int (σ.1 92 5)), (0, .ref (a 92)), (1, .int p0), (2, .int p1), (3, .int p2), (4, .int p3)]) hx hb dX4_takePlain_109 hl (by decide) rfl (fun ls hl => ?_)
    refine lv_goto (tgt := 137) hx hb dX4_takePlain_111 (by decide) ?_
    exact b_X4_takePlain_137_92_62 hC h _ _ _ hP hD hS (lv_sub hl [3, 4, 5, 6, 7, 1, 0] rfl)
  · replace h := ip s5 (iq (by rw [s5]; decide) (iq (by rw [s5]; decide) (iq (by rw [s5]; decide) (iq (by rw [s5]; decide) h))))
    refine lv_tableIn (off := 101) (tgt := 114) hx hb dX4_takePlain_13 (by rw [s5]; decide) (by rw [s5]; decide) (by rw [s5]; rfl) (by decide) ?_
    refine lv_aload_n hx hb dX4_takePlain_114 rfl (lv_at hl 3 rfl) ?_
    refine lv_iload hx hb dX4_takePlain_115 (lv_at hl 2 rfl) ?_
    refine lv_bipush (v := 12) hx hb dX4_takePlain_117 (by decide) ?_
    obtain ⟨q24, hc, h⟩ := ib h
    have hF := va_frees hD hS hA
    refine va_calli (va_runV (As := [.int (σ.1 92 5), .int 12]) (rest := []) ⟨hx, hb, hml, hown, hts⟩ (s_X4_takeCount_92_62 hc) (cwV 2 hts (gV mw_12_2 mw_12_3 mw_12_4 mw_0_8 mw_49_18) rfl rfl rfl (by decide +kernel) ⟨(Nat.le_of_ble_eq_true rfl), (Nat.le_of_ble_eq_true rfl)⟩) (vV (ci := 4) (q0 := 92) hK hP hD hN rfl gA_92) rfl rfl hl.1 rfl (lv_room (Nat.le_of_ble_eq_true rfl)) dX4_takePlain_119 ⟨(Nat.le_of_ble_eq_true rfl), (Nat.le_of_ble_eq_true rfl)⟩) hS (fun q _ h => hF q h) hF (fun r25 u t H locs ht hvm hw hB _ _ hS => ?_)
    obtain rfl : r25 = q24.1 := hw
    replace hP : va_P (dC, dI) vwCl (wA a k q24.2) H := by rw [← ht]; exact hB.1
    replace hD := hD0 (q24.2)
    clear hB hF
    refine lv_istore (lv' := [(6, .int q24.1), (7, .long 0), (5, .int (σ.1 92 5)), (0, .ref (a 92)), (1, .int p0), (2, .int p1), (3, .int p2), (4, .int p3)]) hx hb dX4_takePlain_122 hl (by decide) rfl (fun ls hl => ?_)
    refine lv_aload_n hx hb dX4_takePlain_124 rfl (lv_at hl 3 rfl) ?_
    refine lv_iload hx hb dX4_takePlain_125 (lv_at hl 2 rfl) ?_
    refine lv_iload hx hb dX4_takePlain_127 (lv_at hl 0 rfl) ?_
    obtain ⟨q26, hc, h⟩ := ib h
    have hF := va_frees hD hS hA
    refine va_calll (va_runV (As := [.int (σ.1 92 5), .int q24.1]) (rest := []) ⟨hx, hb, hml, hown, hts⟩ (s_X4_takeLetters_92_62 hc) (cwV 2 hts (gV mw_14_8 mw_14_9 mw_14_10 mw_0_8 mw_49_20) rfl rfl rfl (by decide +kernel) ⟨(Nat.le_of_ble_eq_true rfl), (Nat.le_of_ble_eq_true rfl)⟩) (vV (ci := 4) (q0 := 92) hK hP hD hN rfl gA_92) rfl rfl hl.1 rfl (lv_room (Nat.le_of_ble_eq_true rfl)) dX4_takePlain_129 ⟨(Nat.le_of_ble_eq_true rfl), (Nat.le_of_ble_eq_true rfl)⟩) hS (fun q _ h => hF q h) hF (fun r27 u t H locs ht hvm hw hB _ _ hS => ?_)
    obtain rfl : r27 = q26.1 := hw
    replace hP : va_P (dC, dI) vwCl (wA a k q26.2) H := by rw [← ht]; exact hB.1
    replace hD := hD0 (q26.2)
    clear hB hF
    refine lv_lstore (lv' := [(7, .long q26.1), (6, .int q24.1), (5, .int (σ.1 92 5)), (0, .ref (a 92)), (1, .int p0), (2, .int p1), (3, .int p2), (4, .int p3)]) hx hb dX4_takePlain_132 hl (by decide) rfl (fun ls hl => ?_)
    refine lv_goto (tgt := 137) hx hb dX4_takePlain_134 (by decide) ?_
    exact b_X4_takePlain_137_92_62 hC h _ _ _ hP hD hS (lv_sub hl [3, 4, 5, 6, 7, 1, 0] rfl)
  · replace h := (iq s5 (iq s4 (iq s3 (iq s2 (iq s1 h)))))
    refine lv_tableOut (tgt := 137) hx hb dX4_takePlain_13 (by have a0 := il_ne s1; have e0 : (1 : Int32).toInt = 1 := (by decide); have a1 := il_ne s2; have e1 : (2 : Int32).toInt = 2 := (by decide); have a2 := il_ne s3; have e2 : (3 : Int32).toInt = 3 := (by decide); have a3 := il_ne s4; have e3 : (4 : Int32).toInt = 4 := (by decide); have a4 := il_ne s5; have e4 : (5 : Int32).toInt = 5 := (by decide); omega) (by decide) ?_
    exact b_X4_takePlain_137_92_62 hC h _ _ _ hP hD hS (lv_sub hl [3, 4, 5, 6, 7, 1, 0] rfl)

theorem s_X4_takePlain_92_62 {l : Launch} {dC : Nat → ClassId} {dI : Nat → Nat → Nat} {a : Nat → Nat} {k : Nat → ClassId} {sz : Nat} {p0 : Int32} {p1 : Int32} {p2 : Int32} {p3 : Int32} {σ : ST} {q : ST} (h : f_X4_takePlain 92 62 p0 p1 p2 p3 σ = some q) : Met l yX4_takePlain (.code yX4_takePlain cX4_takePlain 10 none :: pw) ({ frames := 4, cells := 0, slots := 0, locals := 98 } : Room) (va_Pc [.ref (a 92), .int p0, .int p1, .int p2, .int p3] (vPre dC dI (wA a k σ) (tA k) sz)) (qAv dC dI a k (va_A (wA a k σ) sz) q) 0 0 (va_A (wA a k σ) sz) := metA (fun A => qAv dC dI a k A q) (plainFor_of_name (by decide)) (Nat.le_of_ble_eq_true rfl) (fun _ _ _ _ _ _ _ _ hC => b_X4_takePlain_e_92_62 hC h)

set_option maxRecDepth 100000 in
set_option maxHeartbeats 4000000 in
theorem b_X4_takePlain_183_92_74 {p : Program} {l : Launch} {e : Env} {s : State} {m : MethodId} {args : Array Value} {below : List Frame} {meth : Method} {c : Code} {dC : Nat → ClassId} {dI : Nat → Nat → Nat} {a : Nat → Nat} {k : Nat → ClassId} {A : Nat → Prop} {q : ST} (hC : CxA p s m args meth c dC dI k A cX4_takePlain RX4 none 10)   {y0 : Int64} {y1 : Int32} {y2 : Int32} {y3 : Int32} {y4 : Int32} {σ : ST} (h : f_X4_takePlain_183 92 74 y0 y1 y2 y3 y4 σ = some q) : GoA p l e ({ frames := 4, cells := 0, slots := 0, locals := 98 } : Room) s m args below meth c (MQ below (qAv dC dI a k A q) args s 0 0 A) dC dI a k A 10 183 σ [] [.long y0, .int y1, .int y2, .int y3, .int y4, .ref (a 92)] := by
  have hC0 := hC
  obtain ⟨hx, hb, hr, hml, hown, hts, hlocks, hA, hN, hK⟩ := hC0
  intro H locs ls hP hD hS hl
  have hD0 : ∀ σ1 : ST, va_D A (wA a k σ1) := fun σ1 => wA_D hD
  unfold f_X4_takePlain_183 at h
  obtain ⟨q1, hc, h⟩ := ib h
  have hF := va_frees hD hS hA
  refine va_calli (va_runV (As := [.int y4, .int y3, .int y2, .int y1, .long y0]) (rest := []) ⟨hx, hb, hml, hown, hts⟩ (s_X4_addNode_92_74 hc) (cwV 5 hts (gV mw_13_6 mw_13_7 mw_13_8 mw_0_8 mw_49_8) rfl rfl rfl (by decide +kernel) ⟨(Nat.le_of_ble_eq_true rfl), (Nat.le_of_ble_eq_true rfl)⟩) (vV (ci := 4) (q0 := 92) hK hP hD hN rfl gA_92) rfl rfl hl.1 rfl (lv_room (Nat.le_of_ble_eq_true rfl)) dX4_takePlain_183 ⟨(Nat.le_of_ble_eq_true rfl), (Nat.le_of_ble_eq_true rfl)⟩) hS (fun q _ h => hF q h) hF (fun r2 u t H locs ht hvm hw hB _ _ hS => ?_)
  obtain rfl : r2 = q1.1 := hw
  replace hP : va_P (dC, dI) vwCl (wA a k q1.2) H := by rw [← ht]; exact hB.1
  replace hD := hD0 (q1.2)
  clear hB hF
  refine lv_pop hx hb dX4_takePlain_186 rfl ?_
  obtain rfl := Option.some.inj h
  exact W.vret hx hb hr (fun t ht hW => ⟨⟨(), rfl, trivial, ⟨by rw [ht]; exact hP, va_K.moved hW.alike hK, hD⟩⟩, hS.F ht⟩) hS.2.2 dX4_takePlain_187

set_option maxRecDepth 100000 in
set_option maxHeartbeats 4000000 in
theorem b_X4_takePlain_159_92_74 {p : Program} {l : Launch} {e : Env} {s : State} {m : MethodId} {args : Array Value} {below : List Frame} {meth : Method} {c : Code} {dC : Nat → ClassId} {dI : Nat → Nat → Nat} {a : Nat → Nat} {k : Nat → ClassId} {A : Nat → Prop} {q : ST} (hC : CxA p s m args meth c dC dI k A cX4_takePlain RX4 none 10)   {x2 : Int32} {x3 : Int32} {x4 : Int32} {x6 : Int32} {x7 : Int64} {y0 : Int32} {σ : ST} (h : f_X4_takePlain_159 92 74 x2 x3 x4 x6 x7 y0 σ = some q) : GoA p l e ({ frames := 4, cells := 0, slots := 0, locals := 98 } : Room) s m args below meth c (MQ below (qAv dC dI a k A q) args s 0 0 A) dC dI a k A 10 159 σ [(0, .ref (a 92)), (2, .int x2), (3, .int x3), (4, .int x4), (6, .int x6), (7, .long x7)] [.int y0] := by
  have hC0 := hC
  obtain ⟨hx, hb, hr, hml, hown, hts, hlocks, hA, hN, hK⟩ := hC0
  intro H locs ls hP hD hS hl
  have hD0 : ∀ σ1 : ST, va_D A (wA a k σ1) := fun σ1 => wA_D hD
  unfold f_X4_takePlain_159 at h
  refine lv_istore (lv' := [(9, .int y0), (0, .ref (a 92)), (2, .int x2), (3, .int x3), (4, .int x4), (6, .int x6), (7, .long x7)]) hx hb dX4_takePlain_159 hl (by decide) rfl (fun ls hl => ?_)
  refine lv_aload_n hx hb dX4_takePlain_161 rfl (lv_at hl 1 rfl) ?_
  refine lv_iload_n hx hb dX4_takePlain_162 rfl (lv_at hl 2 rfl) ?_
  refine lv_iload_n hx hb dX4_takePlain_163 rfl (lv_at hl 3 rfl) ?_
  refine lv_iload hx hb dX4_takePlain_164 (lv_at hl 4 rfl) ?_
  refine lv_iload hx hb dX4_takePlain_166 (lv_at hl 5 rfl) ?_
  refine lv_iload hx hb dX4_takePlain_168 (lv_at hl 0 rfl) ?_
  refine lv_if_eq (tgt := 181) hx hb dX4_takePlain_170 (by decide) (fun hc => ?_) (fun hc => ?_)
  · replace h := ip hc h
    refine lv_lload hx hb dX4_takePlain_181 (lv_at hl 6 rfl) ?_
    exact b_X4_takePlain_183_92_74 hC h _ _ _ hP hD hS (lv_sub hl [] rfl)
  · replace h := iq hc h
    refine lv_lload hx hb dX4_takePlain_173 (lv_at hl 6 rfl) ?_
    obtain ⟨q1, hc, h⟩ := ib h
    have hF := va_frees hD hS hA
    refine va_calll (va_runSN (As := [.long x7]) (rest := [.int x6, .int x4, .int x3, .int x2, .ref (a 92)]) ⟨hx, hb, hml, hown, hts⟩ (s_X10_bitsOfWhole hc) ⟨va_cnB 1 hts (gI mw_53_23) rfl rfl rfl (hN _ (List.mem_of_getElem? (i := 9) rfl)) (hts (.initialized RX10) mw_0_14) (by decide +kernel) ⟨(Nat.le_of_ble_eq_true rfl), (Nat.le_of_ble_eq_true rfl)⟩, (hts (.static yX10_bitsOfWhole) mw_14_11), trivial⟩ (vS hK hP hD hN) rfl rfl hl.1 rfl (lv_room (Nat.le_of_ble_eq_true rfl)) dX4_takePlain_175 ⟨(Nat.le_of_ble_eq_true rfl), (Nat.le_of_ble_eq_true rfl)⟩) hS (fun q _ h => hF q h) hF (fun r2 u t H locs ht hvm hw hB _ _ hS => ?_)
    obtain rfl : r2 = q1.1 := hw
    replace hP : va_P (dC, dI) vwCl (wA a k q1.2) H := by rw [← ht]; exact hB.1
    replace hD := hD0 (q1.2)
    clear hB hF
    refine lv_goto (tgt := 183) hx hb dX4_takePlain_178 (by decide) ?_
    exact b_X4_takePlain_183_92_74 hC h _ _ _ hP hD hS (lv_sub hl [] rfl)

set_option maxRecDepth 100000 in
set_option maxHeartbeats 4000000 in
theorem b_X4_takePlain_158_92_74 {p : Program} {l : Launch} {e : Env} {s : State} {m : MethodId} {args : Array Value} {below : List Frame} {meth : Method} {c : Code} {dC : Nat → ClassId} {dI : Nat → Nat → Nat} {a : Nat → Nat} {k : Nat → ClassId} {A : Nat → Prop} {q : ST} (hC : CxA p s m args meth c dC dI k A cX4_takePlain RX4 none 10)   {x2 : Int32} {x3 : Int32} {x4 : Int32} {x6 : Int32} {x7 : Int64} {σ : ST} (h : f_X4_takePlain_158 92 74 x2 x3 x4 x6 x7 σ = some q) : GoA p l e ({ frames := 4, cells := 0, slots := 0, locals := 98 } : Room) s m args below meth c (MQ below (qAv dC dI a k A q) args s 0 0 A) dC dI a k A 10 158 σ [(0, .ref (a 92)), (2, .int x2), (3, .int x3), (4, .int x4), (6, .int x6), (7, .long x7)] [] := by
  have hC0 := hC
  obtain ⟨hx, hb, hr, hml, hown, hts, hlocks, hA, hN, hK⟩ := hC0
  intro H locs ls hP hD hS hl
  have hD0 : ∀ σ1 : ST, va_D A (wA a k σ1) := fun σ1 => wA_D hD
  unfold f_X4_takePlain_158 at h
  refine lv_iconst (v := 0) hx hb dX4_takePlain_158 (by decide) ?_
  exact b_X4_takePlain_159_92_74 hC h _ _ _ hP hD hS (lv_sub hl [0, 1, 2, 3, 4, 5] rfl)

set_option maxRecDepth 100000 in
set_option maxHeartbeats 4000000 in
theorem b_X4_takePlain_137_92_74 {p : Program} {l : Launch} {e : Env} {s : State} {m : MethodId} {args : Array Value} {below : List Frame} {meth : Method} {c : Code} {dC : Nat → ClassId} {dI : Nat → Nat → Nat} {a : Nat → Nat} {k : Nat → ClassId} {A : Nat → Prop} {q : ST} (hC : CxA p s m args meth c dC dI k A cX4_takePlain RX4 none 10)   {x1 : Int32} {x2 : Int32} {x3 : Int32} {x4 : Int32} {x6 : Int32} {x7 : Int64} {σ : ST} (h : f_X4_takePlain_137 92 74 x1 x2 x3 x4 x6 x7 σ = some q) : GoA p l e ({ frames := 4, cells := 0, slots := 0, locals := 98 } : Room) s m args below meth c (MQ below (qAv dC dI a k A q) args s 0 0 A) dC dI a k A 10 137 σ [(0, .ref (a 92)), (1, .int x1), (2, .int x2), (3, .int x3), (4, .int x4), (6, .int x6), (7, .long x7)] [] := by
  have hC0 := hC
  obtain ⟨hx, hb, hr, hml, hown, hts, hlocks, hA, hN, hK⟩ := hC0
  intro H locs ls hP hD hS hl
  have hD0 : ∀ σ1 : ST, va_D A (wA a k σ1) := fun σ1 => wA_D hD
  unfold f_X4_takePlain_137 at h
  refine lv_iload_n hx hb dX4_takePlain_137 rfl (lv_at hl 1 rfl) ?_
  refine lv_iconst (v := 4) hx hb dX4_takePlain_138 (by decide) ?_
  refine lv_icmp_eq (tgt := 158) hx hb dX4_takePlain_139 (by decide) (fun hc => ?_) (fun hc => ?_)
  · replace h := ip hc h
    exact b_X4_takePlain_158_92_74 hC h _ _ _ hP hD hS (lv_sub hl [0, 2, 3, 4, 5, 6] rfl)
  · replace h := iq hc h
    refine lv_aload_n hx hb dX4_takePlain_142 rfl (lv_at hl 0 rfl) ?_
    refine va_get (D := (dC, dI)) (ci := 4) (C := RX4) (T := TX4) (N := 12) hx hb hts inlX4 hown hK hP 92 gA_92 rfl 0 (by decide) (hts (.fieldLink RX4 37 "ShapeReader$Reading" "shapes" "LShapeReader$Shapes;") mw_10_28) (fun _ h9 => h9) rfl dX4_takePlain_143 ?_
    refine lv_iload_n hx hb dX4_takePlain_146 rfl (lv_at hl 2 rfl) ?_
    obtain ⟨q1, hc, h⟩ := ib h
    have hF := va_frees hD hS hA
    refine va_calli (va_runV (As := [.int x2]) (rest := []) ⟨hx, hb, hml, hown, hts⟩ (s_X5_sortOf_4 hc) (cwV 1 hts (gV mw_11_25 mw_2_13 mw_2_14 mw_0_9 mw_50_6) rfl rfl rfl (by decide +kernel) ⟨(Nat.le_of_ble_eq_true rfl), (Nat.le_of_ble_eq_true rfl)⟩) (vV (ci := 5) (q0 := 4) hK hP hD hN rfl gA_4) rfl rfl hl.1 rfl (lv_room (Nat.le_of_ble_eq_true rfl)) dX4_takePlain_147 ⟨(Nat.le_of_ble_eq_true rfl), (Nat.le_of_ble_eq_true rfl)⟩) hS (fun q _ h => hF q h) hF (fun r2 u t H locs ht hvm hw hB _ _ hS => ?_)
    obtain rfl : r2 = q1.1 := hw
    replace hP : va_P (dC, dI) vwCl (wA a k q1.2) H := by rw [← ht]; exact hB.1
    replace hD := hD0 (q1.2)
    clear hB hF
    refine lv_iconst (v := 4) hx hb dX4_takePlain_150 (by decide) ?_
    refine lv_icmp_ne (tgt := 158) hx hb dX4_takePlain_151 (by decide) (fun hc => ?_) (fun hc => ?_)
    · replace h := iq hc h
      exact b_X4_takePlain_158_92_74 hC h _ _ _ hP hD hS (lv_sub hl [0, 2, 3, 4, 5, 6] rfl)
    · replace h := ip hc h
      refine lv_iconst (v := 1) hx hb dX4_takePlain_154 (by decide) ?_
      refine lv_goto (tgt := 159) hx hb dX4_takePlain_155 (by decide) ?_
      exact b_X4_takePlain_159_92_74 hC h _ _ _ hP hD hS (lv_sub hl [0, 2, 3, 4, 5, 6] rfl)

set_option maxRecDepth 100000 in
set_option maxHeartbeats 4000000 in
theorem b_X4_takePlain_e_92_74 {p : Program} {l : Launch} {e : Env} {s : State} {m : MethodId} {args : Array Value} {below : List Frame} {meth : Method} {c : Code} {dC : Nat → ClassId} {dI : Nat → Nat → Nat} {a : Nat → Nat} {k : Nat → ClassId} {A : Nat → Prop} {q : ST} (hC : CxA p s m args meth c dC dI k A cX4_takePlain RX4 none 10)   {p0 : Int32} {p1 : Int32} {p2 : Int32} {p3 : Int32} {σ : ST} (h : f_X4_takePlain 92 74 p0 p1 p2 p3 σ = some q) : GoA p l e ({ frames := 4, cells := 0, slots := 0, locals := 98 } : Room) s m args below meth c (MQ below (qAv dC dI a k A q) args s 0 0 A) dC dI a k A 10 0 σ (lv_args 0 [.ref (a 92), .int p0, .int p1, .int p2, .int p3]) [] := by
  have hC0 := hC
  obtain ⟨hx, hb, hr, hml, hown, hts, hlocks, hA, hN, hK⟩ := hC0
  intro H locs ls hP hD hS hl
  have hD0 : ∀ σ1 : ST, va_D A (wA a k σ1) := fun σ1 => wA_D hD
  replace hl : lv_has ls 10 [(0, .ref (a 92)), (1, .int p0), (2, .int p1), (3, .int p2), (4, .int p3)] := hl
  unfold f_X4_takePlain at h
  refine lv_aload_n hx hb dX4_takePlain_0 rfl (lv_at hl 0 rfl) ?_
  refine va_get (D := (dC, dI)) (ci := 4) (C := RX4) (T := TX4) (N := 12) hx hb hts inlX4 hown hK hP 92 gA_92 rfl 5 (by decide) (hts (.fieldLink RX4 15 "ShapeReader$Reading" "next" "I") mw_10_21) (fun _ h9 => h9) rfl dX4_takePlain_1 ?_
  refine lv_istore (lv' := [(5, .int (σ.1 92 5)), (0, .ref (a 92)), (1, .int p0), (2, .int p1), (3, .int p2), (4, .int p3)]) hx hb dX4_takePlain_4 hl (by decide) rfl (fun ls hl => ?_)
  refine lv_iconst (v := 0) hx hb dX4_takePlain_6 (by decide) ?_
  refine lv_istore (lv' := [(6, .int 0), (5, .int (σ.1 92 5)), (0, .ref (a 92)), (1, .int p0), (2, .int p1), (3, .int p2), (4, .int p3)]) hx hb dX4_takePlain_7 hl (by decide) rfl (fun ls hl => ?_)
  refine lv_lconst (v := 0) hx hb dX4_takePlain_9 (by decide) ?_
  refine lv_lstore (lv' := [(7, .long 0), (6, .int 0), (5, .int (σ.1 92 5)), (0, .ref (a 92)), (1, .int p0), (2, .int p1), (3, .int p2), (4, .int p3)]) hx hb dX4_takePlain_10 hl (by decide) rfl (fun ls hl => ?_)
  refine lv_iload_n hx hb dX4_takePlain_12 rfl (lv_at hl 4 rfl) ?_
  rcases (il_sw5 p0 (1) (2) (3) (4) (5)) with s1 | s2 | s3 | s4 | s5 | ⟨s1, s2, s3, s4, s5⟩
  · replace h := ip s1 h
    refine lv_tableIn (off := 35) (tgt := 48) hx hb dX4_takePlain_13 (by rw [s1]; decide) (by rw [s1]; decide) (by rw [s1]; rfl) (by decide) ?_
    refine lv_aload_n hx hb dX4_takePlain_48 rfl (lv_at hl 3 rfl) ?_
    obtain ⟨q6, hc, h⟩ := ib h
    have hF := va_frees hD hS hA
    refine va_calli (va_runV (As := []) (rest := []) ⟨hx, hb, hml, hown, hts⟩ (s_X4_takeByte_92_74 hc) (cwV 0 hts (gV mw_13_28 mw_13_29 mw_14_0 mw_0_8 mw_49_16) rfl rfl rfl (by decide +kernel) ⟨(Nat.le_of_ble_eq_true rfl), (Nat.le_of_ble_eq_true rfl)⟩) (vV (ci := 4) (q0 := 92) hK hP hD hN rfl gA_92) rfl rfl hl.1 rfl (lv_room (Nat.le_of_ble_eq_true rfl)) dX4_takePlain_49 ⟨(Nat.le_of_ble_eq_true rfl), (Nat.le_of_ble_eq_true rfl)⟩) hS (fun q _ h => hF q h) hF (fun r7 u t H locs ht hvm hw hB _ _ hS => ?_)
    obtain rfl : r7 = q6.1 := hw
    replace hP : va_P (dC, dI) vwCl (wA a k q6.2) H := by rw [← ht]; exact hB.1
    replace hD := hD0 (q6.2)
    clear hB hF
    refine lv_i2l (v := q6.1.toInt64) hx hb dX4_takePlain_52 rfl ?_
    refine lv_lstore (lv' := [(7, .long (q6.1.toInt64)), (6, .int 0), (5, .int (σ.1 92 5)), (0, .ref (a 92)), (1, .int p0), (2, .int p1), (3, .int p2), (4, .int p3)]) hx hb dX4_takePlain_53 hl (by decide) rfl (fun ls hl => ?_)
    refine lv_lload hx hb dX4_takePlain_55 (lv_at hl 0 rfl) ?_
    refine lv_lconst (v := 1) hx hb dX4_takePlain_57 (by decide) ?_
    refine W.lcmp hx hb dX4_takePlain_58 ?_
    refine lv_if_le (tgt := 137) hx hb dX4_takePlain_59 (by decide) (fun hc => ?_) (fun hc => ?_)
    · replace h := ip hc h
      exact b_X4_takePlain_137_92_74 hC h _ _ _ hP hD hS (lv_sub hl [3, 4, 5, 6, 7, 1, 0] rfl)
    · replace h := iq hc h
      refine lv_aload_n hx hb dX4_takePlain_62 rfl (lv_at hl 3 rfl) ?_
      refine lv_bipush (v := 12) hx hb dX4_takePlain_63 (by decide) ?_
      refine lv_iload hx hb dX4_takePlain_65 (lv_at hl 2 rfl) ?_
      obtain ⟨q8, hc, h⟩ := ib h
      have hF := va_frees hD hS hA
      refine va_callv (va_runV (As := [.int 12, .int (σ.1 92 5)]) (rest := []) ⟨hx, hb, hml, hown, hts⟩ (s_X4_fail_92_74 hc) (cwV 2 hts (gV mw_11_15 mw_11_16 mw_11_17 mw_0_8 mw_49_2) rfl rfl rfl (by decide +kernel) ⟨(Nat.le_of_ble_eq_true rfl), (Nat.le_of_ble_eq_true rfl)⟩) (vV (ci := 4) (q0 := 92) hK hP hD hN rfl gA_92) rfl rfl hl.1 rfl (lv_room (Nat.le_of_ble_eq_true rfl)) dX4_takePlain_67 ⟨(Nat.le_of_ble_eq_true rfl), (Nat.le_of_ble_eq_true rfl)⟩) hS (fun q _ h => hF q h) hF (fun u t H locs ht hvm hw hB _ _ hS => ?_)
      replace hP : va_P (dC, dI) vwCl (wA a k q8) H := by rw [← ht]; exact hB.1
      replace hD := hD0 (q8)
      clear hB hF
      refine lv_goto (tgt := 137) hx hb dX4_takePlain_70 (by decide) ?_
      exact b_X4_takePlain_137_92_74 hC h _ _ _ hP hD hS (lv_sub hl [3, 4, 5, 6, 7, 1, 0] rfl)
  · replace h := ip s2 (iq (by rw [s2]; decide) h)
    refine lv_tableIn (off := 60) (tgt := 73) hx hb dX4_takePlain_13 (by rw [s2]; decide) (by rw [s2]; decide) (by rw [s2]; rfl) (by decide) ?_
    refine lv_aload_n hx hb dX4_takePlain_73 rfl (lv_at hl 3 rfl) ?_
    refine lv_iload hx hb dX4_takePlain_74 (lv_at hl 2 rfl) ?_
    obtain ⟨q10, hc, h⟩ := ib h
    have hF := va_frees hD hS hA
    refine va_calll (va_runV (As := [.int (σ.1 92 5)]) (rest := []) ⟨hx, hb, hml, hown, hts⟩ (s_X4_takeNumber_92_74 hc) (cwV 1 hts (gV mw_14_1 mw_14_2 mw_14_3 mw_0_8 mw_49_17) rfl rfl rfl (by decide +kernel) ⟨(Nat.le_of_ble_eq_true rfl), (Nat.le_of_ble_eq_true rfl)⟩) (vV (ci := 4) (q0 := 92) hK hP hD hN rfl gA_92) rfl rfl hl.1 rfl (lv_room (Nat.le_of_ble_eq_true rfl)) dX4_takePlain_76 ⟨(Nat.le_of_ble_eq_true rfl), (Nat.le_of_ble_eq_true rfl)⟩) hS (fun q _ h => hF q h) hF (fun r11 u t H locs ht hvm hw hB _ _ hS => ?_)
    obtain rfl : r11 = q10.1 := hw
    replace hP : va_P (dC, dI) vwCl (wA a k q10.2) H := by rw [← ht]; exact hB.1
    replace hD := hD0 (q10.2)
    clear hB hF
    refine lv_lstore (lv' := [(7, .long q10.1), (6, .int 0), (5, .int (σ.1 92 5)), (0, .ref (a 92)), (1, .int p0), (2, .int p1), (3, .int p2), (4, .int p3)]) hx hb dX4_takePlain_79 hl (by decide) rfl (fun ls hl => ?_)
    refine lv_iload_n hx hb dX4_takePlain_81 rfl (lv_at hl 4 rfl) ?_
    refine lv_iconst (v := 2) hx hb dX4_takePlain_82 (by decide) ?_
    refine lv_icmp_ne (tgt := 137) hx hb dX4_takePlain_83 (by decide) (fun hc => ?_) (fun hc => ?_)
    · replace h := iq hc h
      exact b_X4_takePlain_137_92_74 hC h _ _ _ hP hD hS (lv_sub hl [3, 4, 5, 6, 7, 1, 0] rfl)
    · replace h := ip hc h
      refine lv_lload hx hb dX4_takePlain_86 (lv_at hl 0 rfl) ?_
      obtain ⟨q12, hc, h⟩ := ib h
      have hF := va_frees hD hS hA
      refine va_calli (va_runSN (As := [.long q10.1]) (rest := []) ⟨hx, hb, hml, hown, hts⟩ (s_X10_isInt hc) ⟨va_cnB 1 hts (gI mw_53_24) rfl rfl rfl (hN _ (List.mem_of_getElem? (i := 8) rfl)) (hts (.initialized RX10) mw_0_14) (by decide +kernel) ⟨(Nat.le_of_ble_eq_true rfl), (Nat.le_of_ble_eq_true rfl)⟩, (hts (.static yX10_isInt) mw_14_4), trivial⟩ (vS hK hP hD hN) rfl rfl hl.1 rfl (lv_room (Nat.le_of_ble_eq_true rfl)) dX4_takePlain_88 ⟨(Nat.le_of_ble_eq_true rfl), (Nat.le_of_ble_eq_true rfl)⟩) hS (fun q _ h => hF q h) hF (fun r13 u t H locs ht hvm hw hB _ _ hS => ?_)
      obtain rfl : r13 = q12.1 := hw
      replace hP : va_P (dC, dI) vwCl (wA a k q12.2) H := by rw [← ht]; exact hB.1
      replace hD := hD0 (q12.2)
      clear hB hF
      refine lv_if_ne (tgt := 137) hx hb dX4_takePlain_91 (by decide) (fun hc => ?_) (fun hc => ?_)
      · replace h := iq hc h
        exact b_X4_takePlain_137_92_74 hC h _ _ _ hP hD hS (lv_sub hl [3, 4, 5, 6, 7, 1, 0] rfl)
      · replace h := ip hc h
        refine lv_aload_n hx hb dX4_takePlain_94 rfl (lv_at hl 3 rfl) ?_
        refine lv_bipush (v := 12) hx hb dX4_takePlain_95 (by decide) ?_
        refine lv_iload hx hb dX4_takePlain_97 (lv_at hl 2 rfl) ?_
        obtain ⟨q14, hc, h⟩ := ib h
        have hF := va_frees hD hS hA
        refine va_callv (va_runV (As := [.int 12, .int (σ.1 92 5)]) (rest := []) ⟨hx, hb, hml, hown, hts⟩ (s_X4_fail_92_74 hc) (cwV 2 hts (gV mw_11_15 mw_11_16 mw_11_17 mw_0_8 mw_49_2) rfl rfl rfl (by decide +kernel) ⟨(Nat.le_of_ble_eq_true rfl), (Nat.le_of_ble_eq_true rfl)⟩) (vV (ci := 4) (q0 := 92) hK hP hD hN rfl gA_92) rfl rfl hl.1 rfl (lv_room (Nat.le_of_ble_eq_true rfl)) dX4_takePlain_99 ⟨(Nat.le_of_ble_eq_true rfl), (Nat.le_of_ble_eq_true rfl)⟩) hS (fun q _ h => hF q h) hF (fun u t H locs ht hvm hw hB _ _ hS => ?_)
        replace hP : va_P (dC, dI) vwCl (wA a k q14) H := by rw [← ht]; exact hB.1
        replace hD := hD0 (q14)
        clear hB hF
        refine lv_goto (tgt := 137) hx hb dX4_takePlain_102 (by decide) ?_
        exact b_X4_takePlain_137_92_74 hC h _ _ _ hP hD hS (lv_sub hl [3, 4, 5, 6, 7, 1, 0] rfl)
  · replace h := ip s3 (iq (by rw [s3]; decide) (iq (by rw [s3]; decide) h))
    refine lv_tableIn (off := 60) (tgt := 73) hx hb dX4_takePlain_13 (by rw [s3]; decide) (by rw [s3]; decide) (by rw [s3]; rfl) (by decide) ?_
    refine lv_aload_n hx hb dX4_takePlain_73 rfl (lv_at hl 3 rfl) ?_
    refine lv_iload hx hb dX4_takePlain_74 (lv_at hl 2 rfl) ?_
    obtain ⟨q16, hc, h⟩ := ib h
    have hF := va_frees hD hS hA
    refine va_calll (va_runV (As := [.int (σ.1 92 5)]) (rest := []) ⟨hx, hb, hml, hown, hts⟩ (s_X4_takeNumber_92_74 hc) (cwV 1 hts (gV mw_14_1 mw_14_2 mw_14_3 mw_0_8 mw_49_17) rfl rfl rfl (by decide +kernel) ⟨(Nat.le_of_ble_eq_true rfl), (Nat.le_of_ble_eq_true rfl)⟩) (vV (ci := 4) (q0 := 92) hK hP hD hN rfl gA_92) rfl rfl hl.1 rfl (lv_room (Nat.le_of_ble_eq_true rfl)) dX4_takePlain_76 ⟨(Nat.le_of_ble_eq_true rfl), (Nat.le_of_ble_eq_true rfl)⟩) hS (fun q _ h => hF q h) hF (fun r17 u t H locs ht hvm hw hB _ _ hS => ?_)
    obtain rfl : r17 = q16.1 := hw
    replace hP : va_P (dC, dI) vwCl (wA a k q16.2) H := by rw [← ht]; exact hB.1
    replace hD := hD0 (q16.2)
    clear hB hF
    refine lv_lstore (lv' := [(7, .long q16.1), (6, .int 0), (5, .int (σ.1 92 5)), (0, .ref (a 92)), (1, .int p0), (2, .int p1), (3, .int p2), (4, .int p3)]) hx hb dX4_takePlain_79 hl (by decide) rfl (fun ls hl => ?_)
    refine lv_iload_n hx hb dX4_takePlain_81 rfl (lv_at hl 4 rfl) ?_
    refine lv_iconst (v := 2) hx hb dX4_takePlain_82 (by decide) ?_
    refine lv_icmp_ne (tgt := 137) hx hb dX4_takePlain_83 (by decide) (fun hc => ?_) (fun hc => ?_)
    · replace h := iq hc h
      exact b_X4_takePlain_137_92_74 hC h _ _ _ hP hD hS (lv_sub hl [3, 4, 5, 6, 7, 1, 0] rfl)
    · replace h := ip hc h
      refine lv_lload hx hb dX4_takePlain_86 (lv_at hl 0 rfl) ?_
      obtain ⟨q18, hc, h⟩ := ib h
      have hF := va_frees hD hS hA
      refine va_calli (va_runSN (As := [.long q16.1]) (rest := []) ⟨hx, hb, hml, hown, hts⟩ (s_X10_isInt hc) ⟨va_cnB 1 hts (gI mw_53_24) rfl rfl rfl (hN _ (List.mem_of_getElem? (i := 8) rfl)) (hts (.initialized RX10) mw_0_14) (by decide +kernel) ⟨(Nat.le_of_ble_eq_true rfl), (Nat.le_of_ble_eq_true rfl)⟩, (hts (.static yX10_isInt) mw_14_4), trivial⟩ (vS hK hP hD hN) rfl rfl hl.1 rfl (lv_room (Nat.le_of_ble_eq_true rfl)) dX4_takePlain_88 ⟨(Nat.le_of_ble_eq_true rfl), (Nat.le_of_ble_eq_true rfl)⟩) hS (fun q _ h => hF q h) hF (fun r19 u t H locs ht hvm hw hB _ _ hS => ?_)
      obtain rfl : r19 = q18.1 := hw
      replace hP : va_P (dC, dI) vwCl (wA a k q18.2) H := by rw [← ht]; exact hB.1
      replace hD := hD0 (q18.2)
      clear hB hF
      refine lv_if_ne (tgt := 137) hx hb dX4_takePlain_91 (by decide) (fun hc => ?_) (fun hc => ?_)
      · replace h := iq hc h
        exact b_X4_takePlain_137_92_74 hC h _ _ _ hP hD hS (lv_sub hl [3, 4, 5, 6, 7, 1, 0] rfl)
      · replace h := ip hc h
        refine lv_aload_n hx hb dX4_takePlain_94 rfl (lv_at hl 3 rfl) ?_
        refine lv_bipush (v := 12) hx hb dX4_takePlain_95 (by decide) ?_
        refine lv_iload hx hb dX4_takePlain_97 (lv_at hl 2 rfl) ?_
        obtain ⟨q20, hc, h⟩ := ib h
        have hF := va_frees hD hS hA
        refine va_callv (va_runV (As := [.int 12, .int (σ.1 92 5)]) (rest := []) ⟨hx, hb, hml, hown, hts⟩ (s_X4_fail_92_74 hc) (cwV 2 hts (gV mw_11_15 mw_11_16 mw_11_17 mw_0_8 mw_49_2) rfl rfl rfl (by decide +kernel) ⟨(Nat.le_of_ble_eq_true rfl), (Nat.le_of_ble_eq_true rfl)⟩) (vV (ci := 4) (q0 := 92) hK hP hD hN rfl gA_92) rfl rfl hl.1 rfl (lv_room (Nat.le_of_ble_eq_true rfl)) dX4_takePlain_99 ⟨(Nat.le_of_ble_eq_true rfl), (Nat.le_of_ble_eq_true rfl)⟩) hS (fun q _ h => hF q h) hF (fun u t H locs ht hvm hw hB _ _ hS => ?_)
        replace hP : va_P (dC, dI) vwCl (wA a k q20) H := by rw [← ht]; exact hB.1
        replace hD := hD0 (q20)
        clear hB hF
        refine lv_goto (tgt := 137) hx hb dX4_takePlain_102 (by decide) ?_
        exact b_X4_takePlain_137_92_74 hC h _ _ _ hP hD hS (lv_sub hl [3, 4, 5, 6, 7, 1, 0] rfl)
  · replace h := ip s4 (iq (by rw [s4]; decide) (iq (by rw [s4]; decide) (iq (by rw [s4]; decide) h)))
    refine lv_tableIn (off := 92) (tgt := 105) hx hb dX4_takePlain_13 (by rw [s4]; decide) (by rw [s4]; decide) (by rw [s4]; rfl) (by decide) ?_
    refine lv_aload_n hx hb dX4_takePlain_105 rfl (lv_at hl 3 rfl) ?_
    obtain ⟨q22, hc, h⟩ := ib h
    have hF := va_frees hD hS hA
    refine va_calll (va_runV (As := []) (rest := []) ⟨hx, hb, hml, hown, hts⟩ (s_X4_takeReal_92_74 hc) (cwV 0 hts (gV mw_14_5 mw_14_6 mw_14_7 mw_0_8 mw_49_19) rfl rfl rfl (by decide +kernel) ⟨(Nat.le_of_ble_eq_true rfl), (Nat.le_of_ble_eq_true rfl)⟩) (vV (ci := 4) (q0 := 92) hK hP hD hN rfl gA_92) rfl rfl hl.1 rfl (lv_room (Nat.le_of_ble_eq_true rfl)) dX4_takePlain_106 ⟨(Nat.le_of_ble_eq_true rfl), (Nat.le_of_ble_eq_true rfl)⟩) hS (fun q _ h => hF q h) hF (fun r23 u t H locs ht hvm hw hB _ _ hS => ?_)
    obtain rfl : r23 = q22.1 := hw
    replace hP : va_P (dC, dI) vwCl (wA a k q22.2) H := by rw [← ht]; exact hB.1
    replace hD := hD0 (q22.2)
    clear hB hF
    refine lv_lstore (lv' := [(7, .long q22.1), (6, .int 0), (5, .int (σ.1 92 5)), (0, .ref (a 92)), (1, .int p0), (2, .int p1), (3, .int p2), (4, .int p3)]) hx hb dX4_takePlain_109 hl (by decide) rfl (fun ls hl => ?_)
    refine lv_goto (tgt := 137) hx hb dX4_takePlain_111 (by decide) ?_
    exact b_X4_takePlain_137_92_74 hC h _ _ _ hP hD hS (lv_sub hl [3, 4, 5, 6, 7, 1, 0] rfl)
  · replace h := ip s5 (iq (by rw [s5]; decide) (iq (by rw [s5]; decide) (iq (by rw [s5]; decide) (iq (by rw [s5]; decide) h))))
    refine lv_tableIn (off := 101) (tgt := 114) hx hb dX4_takePlain_13 (by rw [s5]; decide) (by rw [s5]; decide) (by rw [s5]; rfl) (by decide) ?_
    refine lv_aload_n hx hb dX4_takePlain_114 rfl (lv_at hl 3 rfl) ?_
    refine lv_iload hx hb dX4_takePlain_115 (lv_at hl 2 rfl) ?_
    refine lv_bipush (v := 12) hx hb dX4_takePlain_117 (by decide) ?_
    obtain ⟨q24, hc, h⟩ := ib h
    have hF := va_frees hD hS hA
    refine va_calli (va_runV (As := [.int (σ.1 92 5), .int 12]) (rest := []) ⟨hx, hb, hml, hown, hts⟩ (s_X4_takeCount_92_74 hc) (cwV 2 hts (gV mw_12_2 mw_12_3 mw_12_4 mw_0_8 mw_49_18) rfl rfl rfl (by decide +kernel) ⟨(Nat.le_of_ble_eq_true rfl), (Nat.le_of_ble_eq_true rfl)⟩) (vV (ci := 4) (q0 := 92) hK hP hD hN rfl gA_92) rfl rfl hl.1 rfl (lv_room (Nat.le_of_ble_eq_true rfl)) dX4_takePlain_119 ⟨(Nat.le_of_ble_eq_true rfl), (Nat.le_of_ble_eq_true rfl)⟩) hS (fun q _ h => hF q h) hF (fun r25 u t H locs ht hvm hw hB _ _ hS => ?_)
    obtain rfl : r25 = q24.1 := hw
    replace hP : va_P (dC, dI) vwCl (wA a k q24.2) H := by rw [← ht]; exact hB.1
    replace hD := hD0 (q24.2)
    clear hB hF
    refine lv_istore (lv' := [(6, .int q24.1), (7, .long 0), (5, .int (σ.1 92 5)), (0, .ref (a 92)), (1, .int p0), (2, .int p1), (3, .int p2), (4, .int p3)]) hx hb dX4_takePlain_122 hl (by decide) rfl (fun ls hl => ?_)
    refine lv_aload_n hx hb dX4_takePlain_124 rfl (lv_at hl 3 rfl) ?_
    refine lv_iload hx hb dX4_takePlain_125 (lv_at hl 2 rfl) ?_
    refine lv_iload hx hb dX4_takePlain_127 (lv_at hl 0 rfl) ?_
    obtain ⟨q26, hc, h⟩ := ib h
    have hF := va_frees hD hS hA
    refine va_calll (va_runV (As := [.int (σ.1 92 5), .int q24.1]) (rest := []) ⟨hx, hb, hml, hown, hts⟩ (s_X4_takeLetters_92_74 hc) (cwV 2 hts (gV mw_14_8 mw_14_9 mw_14_10 mw_0_8 mw_49_20) rfl rfl rfl (by decide +kernel) ⟨(Nat.le_of_ble_eq_true rfl), (Nat.le_of_ble_eq_true rfl)⟩) (vV (ci := 4) (q0 := 92) hK hP hD hN rfl gA_92) rfl rfl hl.1 rfl (lv_room (Nat.le_of_ble_eq_true rfl)) dX4_takePlain_129 ⟨(Nat.le_of_ble_eq_true rfl), (Nat.le_of_ble_eq_true rfl)⟩) hS (fun q _ h => hF q h) hF (fun r27 u t H locs ht hvm hw hB _ _ hS => ?_)
    obtain rfl : r27 = q26.1 := hw
    replace hP : va_P (dC, dI) vwCl (wA a k q26.2) H := by rw [← ht]; exact hB.1
    replace hD := hD0 (q26.2)
    clear hB hF
    refine lv_lstore (lv' := [(7, .long q26.1), (6, .int q24.1), (5, .int (σ.1 92 5)), (0, .ref (a 92)), (1, .int p0), (2, .int p1), (3, .int p2), (4, .int p3)]) hx hb dX4_takePlain_132 hl (by decide) rfl (fun ls hl => ?_)
    refine lv_goto (tgt := 137) hx hb dX4_takePlain_134 (by decide) ?_
    exact b_X4_takePlain_137_92_74 hC h _ _ _ hP hD hS (lv_sub hl [3, 4, 5, 6, 7, 1, 0] rfl)
  · replace h := (iq s5 (iq s4 (iq s3 (iq s2 (iq s1 h)))))
    refine lv_tableOut (tgt := 137) hx hb dX4_takePlain_13 (by have a0 := il_ne s1; have e0 : (1 : Int32).toInt = 1 := (by decide); have a1 := il_ne s2; have e1 : (2 : Int32).toInt = 2 := (by decide); have a2 := il_ne s3; have e2 : (3 : Int32).toInt = 3 := (by decide); have a3 := il_ne s4; have e3 : (4 : Int32).toInt = 4 := (by decide); have a4 := il_ne s5; have e4 : (5 : Int32).toInt = 5 := (by decide); omega) (by decide) ?_
    exact b_X4_takePlain_137_92_74 hC h _ _ _ hP hD hS (lv_sub hl [3, 4, 5, 6, 7, 1, 0] rfl)

theorem s_X4_takePlain_92_74 {l : Launch} {dC : Nat → ClassId} {dI : Nat → Nat → Nat} {a : Nat → Nat} {k : Nat → ClassId} {sz : Nat} {p0 : Int32} {p1 : Int32} {p2 : Int32} {p3 : Int32} {σ : ST} {q : ST} (h : f_X4_takePlain 92 74 p0 p1 p2 p3 σ = some q) : Met l yX4_takePlain (.code yX4_takePlain cX4_takePlain 10 none :: pw) ({ frames := 4, cells := 0, slots := 0, locals := 98 } : Room) (va_Pc [.ref (a 92), .int p0, .int p1, .int p2, .int p3] (vPre dC dI (wA a k σ) (tA k) sz)) (qAv dC dI a k (va_A (wA a k σ) sz) q) 0 0 (va_A (wA a k σ) sz) := metA (fun A => qAv dC dI a k A q) (plainFor_of_name (by decide)) (Nat.le_of_ble_eq_true rfl) (fun _ _ _ _ _ _ _ _ hC => b_X4_takePlain_e_92_74 hC h)

def f_X10_letterOf_10 (σ : ST) : Option (Int32 × ST) := some (0, σ)
def f_X10_letterOf (p0 : Int64) (p1 : Int32) (σ : ST) : Option (Int32 × ST) := if p1 < 0 then (f_X10_letterOf_10   σ) else (if p1 < 12 then (some ((((p0 >>> ((5 * p1).toInt64 &&& 63)).toInt32) &&& 31), σ)) else (f_X10_letterOf_10   σ))

set_option maxRecDepth 100000 in
set_option maxHeartbeats 4000000 in
theorem b_X10_letterOf_10 {p : Program} {l : Launch} {e : Env} {s : State} {m : MethodId} {args : Array Value} {below : List Frame} {meth : Method} {c : Code} {dC : Nat → ClassId} {dI : Nat → Nat → Nat} {a : Nat → Nat} {k : Nat → ClassId} {A : Nat → Prop} {q : Int32 × ST} (hC : CxA p s m args meth c dC dI k A cX10_letterOf RX10 (some .int) 3)    {σ : ST} (h : f_X10_letterOf_10   σ = some q) : GoA p l e ({ frames := 0, cells := 0, slots := 0, locals := 0 } : Room) s m args below meth c (MQ below (qAi dC dI a k A q) args s 0 0 A) dC dI a k A 3 10 σ [] [] := by
  have hC0 := hC
  obtain ⟨hx, hb, hr, hml, hown, hts, hlocks, hA, hN, hK⟩ := hC0
  intro H locs ls hP hD hS hl
  have hD0 : ∀ σ1 : ST, va_D A (wA a k σ1) := fun σ1 => wA_D hD
  unfold f_X10_letterOf_10 at h
  refine lv_iconst (v := 0) hx hb dX10_letterOf_10 (by decide) ?_
  refine lv_goto (tgt := 23) hx hb dX10_letterOf_11 (by decide) ?_
  obtain rfl := Option.some.inj h
  exact W.iret hx hb hr (fun t ht hW => ⟨⟨_, (), rfl, rfl, ⟨by rw [ht]; exact hP, va_K.moved hW.alike hK, hD⟩⟩, hS.F ht⟩) hS.2.2 dX10_letterOf_23

set_option maxRecDepth 100000 in
set_option maxHeartbeats 4000000 in
theorem b_X10_letterOf_e {p : Program} {l : Launch} {e : Env} {s : State} {m : MethodId} {args : Array Value} {below : List Frame} {meth : Method} {c : Code} {dC : Nat → ClassId} {dI : Nat → Nat → Nat} {a : Nat → Nat} {k : Nat → ClassId} {A : Nat → Prop} {q : Int32 × ST} (hC : CxA p s m args meth c dC dI k A cX10_letterOf RX10 (some .int) 3)   {p0 : Int64} {p1 : Int32} {σ : ST} (h : f_X10_letterOf  p0 p1 σ = some q) : GoA p l e ({ frames := 0, cells := 0, slots := 0, locals := 0 } : Room) s m args below meth c (MQ below (qAi dC dI a k A q) args s 0 0 A) dC dI a k A 3 0 σ (lv_args 0 [.long p0, .int p1]) [] := by
  have hC0 := hC
  obtain ⟨hx, hb, hr, hml, hown, hts, hlocks, hA, hN, hK⟩ := hC0
  intro H locs ls hP hD hS hl
  have hD0 : ∀ σ1 : ST, va_D A (wA a k σ1) := fun σ1 => wA_D hD
  replace hl : lv_has ls 3 [(0, .long p0), (2, .int p1)] := hl
  unfold f_X10_letterOf at h
  refine lv_iload_n hx hb dX10_letterOf_0 rfl (lv_at hl 1 rfl) ?_
  refine lv_if_lt (tgt := 10) hx hb dX10_letterOf_1 (by decide) (fun hc => ?_) (fun hc => ?_)
  · replace h := ip hc h
    exact b_X10_letterOf_10 hC h _ _ _ hP hD hS (lv_sub hl [] rfl)
  · replace h := iq hc h
    refine lv_iload_n hx hb dX10_letterOf_4 rfl (lv_at hl 1 rfl) ?_
    refine lv_bipush (v := 12) hx hb dX10_letterOf_5 (by decide) ?_
    refine lv_icmp_lt (tgt := 14) hx hb dX10_letterOf_7 (by decide) (fun hc => ?_) (fun hc => ?_)
    · replace h := ip hc h
      refine lv_lload_n hx hb dX10_letterOf_14 rfl (lv_at hl 0 rfl) ?_
      refine lv_iconst (v := 5) hx hb dX10_letterOf_15 (by decide) ?_
      refine lv_iload_n hx hb dX10_letterOf_16 rfl (lv_at hl 1 rfl) ?_
      refine lv_imul hx hb dX10_letterOf_17 ?_
      refine lv_lshr (v := (p0 >>> ((5 * p1).toInt64 &&& 63))) hx hb dX10_letterOf_18 rfl ?_
      refine lv_l2i (v := (p0 >>> ((5 * p1).toInt64 &&& 63)).toInt32) hx hb dX10_letterOf_19 rfl ?_
      refine lv_bipush (v := 31) hx hb dX10_letterOf_20 (by decide) ?_
      refine lv_iand hx hb dX10_letterOf_22 ?_
      obtain rfl := Option.some.inj h
      exact W.iret hx hb hr (fun t ht hW => ⟨⟨_, (), rfl, rfl, ⟨by rw [ht]; exact hP, va_K.moved hW.alike hK, hD⟩⟩, hS.F ht⟩) hS.2.2 dX10_letterOf_23
    · replace h := iq hc h
      exact b_X10_letterOf_10 hC h _ _ _ hP hD hS (lv_sub hl [] rfl)

theorem s_X10_letterOf {l : Launch} {dC : Nat → ClassId} {dI : Nat → Nat → Nat} {a : Nat → Nat} {k : Nat → ClassId} {sz : Nat} {p0 : Int64} {p1 : Int32} {σ : ST} {q : Int32 × ST} (h : f_X10_letterOf  p0 p1 σ = some q) : Met l yX10_letterOf (.code yX10_letterOf cX10_letterOf 3 (some .int) :: pw) ({ frames := 0, cells := 0, slots := 0, locals := 0 } : Room) (va_Pc [.long p0, .int p1] (vPre dC dI (wA a k σ) (tA k) sz)) (qAi dC dI a k (va_A (wA a k σ) sz) q) 0 0 (va_A (wA a k σ) sz) := metA (fun A => qAi dC dI a k A q) (plainFor_of_name (by decide)) (Nat.le_of_ble_eq_true rfl) (fun _ _ _ _ _ _ _ _ hC => b_X10_letterOf_e hC h)

def f_X10_lettersIn_2  : Nat → Int64 → Int32 → ST → Option (Int32 × ST)
  | 0, _, _, _ => none
  | n + 1, x0, x2, σ => if 12 ≤ x2 then (some (x2, σ)) else ((f_X10_letterOf  x0 x2 σ).bind fun q1 => if q1.1 = 0 then (some (x2, q1.2)) else (f_X10_lettersIn_2  n x0 (x2 + 1) q1.2))
def f_X10_lettersIn (p0 : Int64) (σ : ST) : Option (Int32 × ST) := f_X10_lettersIn_2  FU p0 0 σ

set_option maxRecDepth 100000 in
set_option maxHeartbeats 4000000 in
theorem b_X10_lettersIn_2 {p : Program} {l : Launch} {e : Env} {s : State} {m : MethodId} {args : Array Value} {below : List Frame} {meth : Method} {c : Code} {dC : Nat → ClassId} {dI : Nat → Nat → Nat} {a : Nat → Nat} {k : Nat → ClassId} {A : Nat → Prop} {q : Int32 × ST} (hC : CxA p s m args meth c dC dI k A cX10_lettersIn RX10 (some .int) 3)   : ∀ (n : Nat) (x0 : Int64) (x2 : Int32) (σ : ST), f_X10_lettersIn_2  n x0 x2 σ = some q → GoA p l e ({ frames := 1, cells := 0, slots := 0, locals := 22 } : Room) s m args below meth c (MQ below (qAi dC dI a k A q) args s 0 0 A) dC dI a k A 3 2 σ [(0, .long x0), (2, .int x2)] [] := by
  intro n
  induction n with
  | zero =>
    intro x0 x2 σ h
    rw [f_X10_lettersIn_2] at h
    cases h
  | succ n ih =>
    intro x0 x2 σ h
    have hC0 := hC
    obtain ⟨hx, hb, hr, hml, hown, hts, hlocks, hA, hN, hK⟩ := hC0
    intro H locs ls hP hD hS hl
    have hD0 : ∀ σ1 : ST, va_D A (wA a k σ1) := fun σ1 => wA_D hD
    rw [f_X10_lettersIn_2] at h
    refine lv_iload_n hx hb dX10_lettersIn_2 rfl (lv_at hl 1 rfl) ?_
    refine lv_bipush (v := 12) hx hb dX10_lettersIn_3 (by decide) ?_
    refine lv_icmp_ge (tgt := 22) hx hb dX10_lettersIn_5 (by decide) (fun hc => ?_) (fun hc => ?_)
    · replace h := ip hc h
      refine lv_iload_n hx hb dX10_lettersIn_22 rfl (lv_at hl 1 rfl) ?_
      obtain rfl := Option.some.inj h
      exact W.iret hx hb hr (fun t ht hW => ⟨⟨_, (), rfl, rfl, ⟨by rw [ht]; exact hP, va_K.moved hW.alike hK, hD⟩⟩, hS.F ht⟩) hS.2.2 dX10_lettersIn_23
    · replace h := iq hc h
      refine lv_lload_n hx hb dX10_lettersIn_8 rfl (lv_at hl 0 rfl) ?_
      refine lv_iload_n hx hb dX10_lettersIn_9 rfl (lv_at hl 1 rfl) ?_
      obtain ⟨q1, hc, h⟩ := ib h
      have hF := va_frees hD hS hA
      refine va_calli (va_runS (As := [.long x0, .int x2]) (rest := []) ⟨hx, hb, hml, hown, hts⟩ (s_X10_letterOf hc) (va_cwS 2 hts (gS mw_26_6 mw_6_27 mw_0_14 mw_53_20) rfl rfl rfl (by decide +kernel) ⟨(Nat.le_of_ble_eq_true rfl), (Nat.le_of_ble_eq_true rfl)⟩) (vS hK hP hD hN) rfl rfl hl.1 rfl (lv_room (Nat.le_of_ble_eq_true rfl)) dX10_lettersIn_10 ⟨(Nat.le_of_ble_eq_true rfl), (Nat.le_of_ble_eq_true rfl)⟩) hS (fun q _ h => hF q h) hF (fun r2 u t H locs ht hvm hw hB _ _ hS => ?_)
      obtain rfl : r2 = q1.1 := hw
      replace hP : va_P (dC, dI) vwCl (wA a k q1.2) H := by rw [← ht]; exact hB.1
      replace hD := hD0 (q1.2)
      clear hB hF
      refine lv_if_eq (tgt := 22) hx hb dX10_lettersIn_13 (by decide) (fun hc => ?_) (fun hc => ?_)
      · replace h := ip hc h
        refine lv_iload_n hx hb dX10_lettersIn_22 rfl (lv_at hl 1 rfl) ?_
        obtain rfl := Option.some.inj h
        exact W.iret hx hb hr (fun t ht hW => ⟨⟨_, (), rfl, rfl, ⟨by rw [ht]; exact hP, va_K.moved hW.alike hK, hD⟩⟩, hS.F ht⟩) hS.2.2 dX10_lettersIn_23
      · replace h := iq hc h
        refine lv_iinc (v := (x2 + 1)) (lv' := [(2, .int (x2 + 1)), (0, .long x0)]) hx hb dX10_lettersIn_16 hl (k := 1) rfl rfl (by decide) rfl (fun ls hl => ?_)
        refine lv_goto (tgt := 2) hx hb dX10_lettersIn_19 (by decide) ?_
        exact ih _ _ _ h _ _ _ hP hD hS (lv_sub hl [1, 0] rfl)

set_option maxRecDepth 100000 in
set_option maxHeartbeats 4000000 in
theorem b_X10_lettersIn_e {p : Program} {l : Launch} {e : Env} {s : State} {m : MethodId} {args : Array Value} {below : List Frame} {meth : Method} {c : Code} {dC : Nat → ClassId} {dI : Nat → Nat → Nat} {a : Nat → Nat} {k : Nat → ClassId} {A : Nat → Prop} {q : Int32 × ST} (hC : CxA p s m args meth c dC dI k A cX10_lettersIn RX10 (some .int) 3)   {p0 : Int64} {σ : ST} (h : f_X10_lettersIn  p0 σ = some q) : GoA p l e ({ frames := 1, cells := 0, slots := 0, locals := 22 } : Room) s m args below meth c (MQ below (qAi dC dI a k A q) args s 0 0 A) dC dI a k A 3 0 σ (lv_args 0 [.long p0]) [] := by
  have hC0 := hC
  obtain ⟨hx, hb, hr, hml, hown, hts, hlocks, hA, hN, hK⟩ := hC0
  intro H locs ls hP hD hS hl
  have hD0 : ∀ σ1 : ST, va_D A (wA a k σ1) := fun σ1 => wA_D hD
  replace hl : lv_has ls 3 [(0, .long p0)] := hl
  unfold f_X10_lettersIn at h
  refine lv_iconst (v := 0) hx hb dX10_lettersIn_0 (by decide) ?_
  refine lv_istore_n (lv' := [(2, .int 0), (0, .long p0)]) hx hb dX10_lettersIn_1 rfl hl (by decide) rfl (fun ls hl => ?_)
  exact b_X10_lettersIn_2 hC FU _ _ _ h _ _ _ hP hD hS (lv_sub hl [1, 0] rfl)

theorem s_X10_lettersIn {l : Launch} {dC : Nat → ClassId} {dI : Nat → Nat → Nat} {a : Nat → Nat} {k : Nat → ClassId} {sz : Nat} {p0 : Int64} {σ : ST} {q : Int32 × ST} (h : f_X10_lettersIn  p0 σ = some q) : Met l yX10_lettersIn (.code yX10_lettersIn cX10_lettersIn 3 (some .int) :: pw) ({ frames := 1, cells := 0, slots := 0, locals := 22 } : Room) (va_Pc [.long p0] (vPre dC dI (wA a k σ) (tA k) sz)) (qAi dC dI a k (va_A (wA a k σ) sz) q) 0 0 (va_A (wA a k σ) sz) := metA (fun A => qAi dC dI a k A q) (plainFor_of_name (by decide)) (Nat.le_of_ble_eq_true rfl) (fun _ _ _ _ _ _ _ _ hC => b_X10_lettersIn_e hC h)

def f_X5_elseWorth (b : Nat) (p0 : Int32) (p1 : Int32) (σ : ST) : Option (Int64 × ST) := (f_X5_isFieldOf  p0 p1 σ).bind fun q1 => if q1.1 = 0 then (some (0, q1.2)) else (if 0 ≤ ((p0 * 8) + p1).toInt ∧ ((p0 * 8) + p1).toInt < 288 then (some ((q1.2.2.1 (b + 10) ((p0 * 8) + p1).toNatClampNeg), q1.2)) else none)

set_option maxRecDepth 100000 in
set_option maxHeartbeats 4000000 in
theorem b_X5_elseWorth_e_4 {p : Program} {l : Launch} {e : Env} {s : State} {m : MethodId} {args : Array Value} {below : List Frame} {meth : Method} {c : Code} {dC : Nat → ClassId} {dI : Nat → Nat → Nat} {a : Nat → Nat} {k : Nat → ClassId} {A : Nat → Prop} {q : Int64 × ST} (hC : CxA p s m args meth c dC dI k A cX5_elseWorth RX5 (some .long) 3)   {p0 : Int32} {p1 : Int32} {σ : ST} (h : f_X5_elseWorth 4 p0 p1 σ = some q) : GoA p l e ({ frames := 1, cells := 0, slots := 0, locals := 21 } : Room) s m args below meth c (MQ below (qAl dC dI a k A q) args s 0 0 A) dC dI a k A 3 0 σ (lv_args 0 [.ref (a 4), .int p0, .int p1]) [] := by
  have hC0 := hC
  obtain ⟨hx, hb, hr, hml, hown, hts, hlocks, hA, hN, hK⟩ := hC0
  intro H locs ls hP hD hS hl
  have hD0 : ∀ σ1 : ST, va_D A (wA a k σ1) := fun σ1 => wA_D hD
  replace hl : lv_has ls 3 [(0, .ref (a 4)), (1, .int p0), (2, .int p1)] := hl
  unfold f_X5_elseWorth at h
  refine lv_iload_n hx hb dX5_elseWorth_0 rfl (lv_at hl 1 rfl) ?_
  refine lv_iload_n hx hb dX5_elseWorth_1 rfl (lv_at hl 2 rfl) ?_
  obtain ⟨q1, hc, h⟩ := ib h
  have hF := va_frees hD hS hA
  refine va_calli (va_runS (As := [.int p0, .int p1]) (rest := []) ⟨hx, hb, hml, hown, hts⟩ (s_X5_isFieldOf hc) (va_cwS 2 hts (gS mw_15_7 mw_15_8 mw_0_9 mw_49_25) rfl rfl rfl (by decide +kernel) ⟨(Nat.le_of_ble_eq_true rfl), (Nat.le_of_ble_eq_true rfl)⟩) (vS hK hP hD hN) rfl rfl hl.1 rfl (lv_room (Nat.le_of_ble_eq_true rfl)) dX5_elseWorth_2 ⟨(Nat.le_of_ble_eq_true rfl), (Nat.le_of_ble_eq_true rfl)⟩) hS (fun q _ h => hF q h) hF (fun r2 u t H locs ht hvm hw hB _ _ hS => ?_)
  obtain rfl : r2 = q1.1 := hw
  replace hP : va_P (dC, dI) vwCl (wA a k q1.2) H := by rw [← ht]; exact hB.1
  replace hD := hD0 (q1.2)
  clear hB hF
  refine lv_if_eq (tgt := 22) hx hb dX5_elseWorth_5 (by decide) (fun hc => ?_) (fun hc => ?_)
  · replace h := ip hc h
    refine lv_lconst (v := 0) hx hb dX5_elseWorth_22 (by decide) ?_
    obtain rfl := Option.some.inj h
    exact W.lret hx hb hr (fun t ht hW => ⟨⟨_, (), rfl, rfl, ⟨by rw [ht]; exact hP, va_K.moved hW.alike hK, hD⟩⟩, hS.F ht⟩) hS.2.2 dX5_elseWorth_23
  · replace h := iq hc h
    refine lv_aload_n hx hb dX5_elseWorth_8 rfl (lv_at hl 0 rfl) ?_
    refine va_get (D := (dC, dI)) (ci := 5) (C := RX5) (T := TX5) (N := 17) hx hb hts inlX5 hown hK hP 4 gA_4 rfl 11 (by decide) (hts (.fieldLink RX5 47 "ShapeReader$Shapes" "elseWorths" "[J") mw_14_28) (fun _ h9 => h9) rfl dX5_elseWorth_9 ?_
    refine lv_iload_n hx hb dX5_elseWorth_12 rfl (lv_at hl 1 rfl) ?_
    refine lv_bipush (v := 8) hx hb dX5_elseWorth_13 (by decide) ?_
    refine lv_imul hx hb dX5_elseWorth_15 ?_
    refine lv_iload_n hx hb dX5_elseWorth_16 rfl (lv_at hl 2 rfl) ?_
    refine lv_iadd hx hb dX5_elseWorth_17 ?_
    obtain ⟨hg3, h⟩ := ig h
    refine va_lald hx hb hK hP 14 11 gA_14 yA_14 (vp_in_iff.mpr hg3) dX5_elseWorth_18 ?_
    refine lv_goto (tgt := 23) hx hb dX5_elseWorth_19 (by decide) ?_
    obtain rfl := Option.some.inj h
    exact W.lret hx hb hr (fun t ht hW => ⟨⟨_, (), rfl, rfl, ⟨by rw [ht]; exact hP, va_K.moved hW.alike hK, hD⟩⟩, hS.F ht⟩) hS.2.2 dX5_elseWorth_23

theorem s_X5_elseWorth_4 {l : Launch} {dC : Nat → ClassId} {dI : Nat → Nat → Nat} {a : Nat → Nat} {k : Nat → ClassId} {sz : Nat} {p0 : Int32} {p1 : Int32} {σ : ST} {q : Int64 × ST} (h : f_X5_elseWorth 4 p0 p1 σ = some q) : Met l yX5_elseWorth (.code yX5_elseWorth cX5_elseWorth 3 (some .long) :: pw) ({ frames := 1, cells := 0, slots := 0, locals := 21 } : Room) (va_Pc [.ref (a 4), .int p0, .int p1] (vPre dC dI (wA a k σ) (tA k) sz)) (qAl dC dI a k (va_A (wA a k σ) sz) q) 0 0 (va_A (wA a k σ) sz) := metA (fun A => qAl dC dI a k A q) (plainFor_of_name (by decide)) (Nat.le_of_ble_eq_true rfl) (fun _ _ _ _ _ _ _ _ hC => b_X5_elseWorth_e_4 hC h)

def f_X5_firstChoice (b : Nat) (p0 : Int32) (σ : ST) : Option (Int32 × ST) := (f_X5_sortOf b p0 σ).bind fun q1 => if q1.1 = 8 then ((f_X5_innerOf b p0 q1.2).bind fun q3 => some (q3.1, q3.2)) else (some (p0, q1.2))

set_option maxRecDepth 100000 in
set_option maxHeartbeats 4000000 in
theorem b_X5_firstChoice_e_4 {p : Program} {l : Launch} {e : Env} {s : State} {m : MethodId} {args : Array Value} {below : List Frame} {meth : Method} {c : Code} {dC : Nat → ClassId} {dI : Nat → Nat → Nat} {a : Nat → Nat} {k : Nat → ClassId} {A : Nat → Prop} {q : Int32 × ST} (hC : CxA p s m args meth c dC dI k A cX5_firstChoice RX5 (some .int) 2)   {p0 : Int32} {σ : ST} (h : f_X5_firstChoice 4 p0 σ = some q) : GoA p l e ({ frames := 2, cells := 0, slots := 0, locals := 42 } : Room) s m args below meth c (MQ below (qAi dC dI a k A q) args s 0 0 A) dC dI a k A 2 0 σ (lv_args 0 [.ref (a 4), .int p0]) [] := by
  have hC0 := hC
  obtain ⟨hx, hb, hr, hml, hown, hts, hlocks, hA, hN, hK⟩ := hC0
  intro H locs ls hP hD hS hl
  have hD0 : ∀ σ1 : ST, va_D A (wA a k σ1) := fun σ1 => wA_D hD
  replace hl : lv_has ls 2 [(0, .ref (a 4)), (1, .int p0)] := hl
  unfold f_X5_firstChoice at h
  refine lv_aload_n hx hb dX5_firstChoice_0 rfl (lv_at hl 0 rfl) ?_
  refine lv_iload_n hx hb dX5_firstChoice_1 rfl (lv_at hl 1 rfl) ?_
  obtain ⟨q1, hc, h⟩ := ib h
  have hF := va_frees hD hS hA
  refine va_calli (va_runV (As := [.int p0]) (rest := []) ⟨hx, hb, hml, hown, hts⟩ (s_X5_sortOf_4 hc) (cwV 1 hts (gV mw_15_12 mw_2_13 mw_2_14 mw_0_9 mw_50_6) rfl rfl rfl (by decide +kernel) ⟨(Nat.le_of_ble_eq_true rfl), (Nat.le_of_ble_eq_true rfl)⟩) (vV (ci := 5) (q0 := 4) hK hP hD hN rfl gA_4) rfl rfl hl.1 rfl (lv_room (Nat.le_of_ble_eq_true rfl)) dX5_firstChoice_2 ⟨(Nat.le_of_ble_eq_true rfl), (Nat.le_of_ble_eq_true rfl)⟩) hS (fun q _ h => hF q h) hF (fun r2 u t H locs ht hvm hw hB _ _ hS => ?_)
  obtain rfl : r2 = q1.1 := hw
  replace hP : va_P (dC, dI) vwCl (wA a k q1.2) H := by rw [← ht]; exact hB.1
  replace hD := hD0 (q1.2)
  clear hB hF
  refine lv_bipush (v := 8) hx hb dX5_firstChoice_5 (by decide) ?_
  refine lv_icmp_ne (tgt := 18) hx hb dX5_firstChoice_7 (by decide) (fun hc => ?_) (fun hc => ?_)
  · replace h := iq hc h
    refine lv_iload_n hx hb dX5_firstChoice_18 rfl (lv_at hl 1 rfl) ?_
    obtain rfl := Option.some.inj h
    exact W.iret hx hb hr (fun t ht hW => ⟨⟨_, (), rfl, rfl, ⟨by rw [ht]; exact hP, va_K.moved hW.alike hK, hD⟩⟩, hS.F ht⟩) hS.2.2 dX5_firstChoice_19
  · replace h := ip hc h
    refine lv_aload_n hx hb dX5_firstChoice_10 rfl (lv_at hl 0 rfl) ?_
    refine lv_iload_n hx hb dX5_firstChoice_11 rfl (lv_at hl 1 rfl) ?_
    obtain ⟨q3, hc, h⟩ := ib h
    have hF := va_frees hD hS hA
    refine va_calli (va_runV (As := [.int p0]) (rest := []) ⟨hx, hb, hml, hown, hts⟩ (s_X5_innerOf_4 hc) (cwV 1 hts (gV mw_15_13 mw_2_16 mw_2_17 mw_0_9 mw_50_7) rfl rfl rfl (by decide +kernel) ⟨(Nat.le_of_ble_eq_true rfl), (Nat.le_of_ble_eq_true rfl)⟩) (vV (ci := 5) (q0 := 4) hK hP hD hN rfl gA_4) rfl rfl hl.1 rfl (lv_room (Nat.le_of_ble_eq_true rfl)) dX5_firstChoice_12 ⟨(Nat.le_of_ble_eq_true rfl), (Nat.le_of_ble_eq_true rfl)⟩) hS (fun q _ h => hF q h) hF (fun r4 u t H locs ht hvm hw hB _ _ hS => ?_)
    obtain rfl : r4 = q3.1 := hw
    replace hP : va_P (dC, dI) vwCl (wA a k q3.2) H := by rw [← ht]; exact hB.1
    replace hD := hD0 (q3.2)
    clear hB hF
    refine lv_goto (tgt := 19) hx hb dX5_firstChoice_15 (by decide) ?_
    obtain rfl := Option.some.inj h
    exact W.iret hx hb hr (fun t ht hW => ⟨⟨_, (), rfl, rfl, ⟨by rw [ht]; exact hP, va_K.moved hW.alike hK, hD⟩⟩, hS.F ht⟩) hS.2.2 dX5_firstChoice_19

theorem s_X5_firstChoice_4 {l : Launch} {dC : Nat → ClassId} {dI : Nat → Nat → Nat} {a : Nat → Nat} {k : Nat → ClassId} {sz : Nat} {p0 : Int32} {σ : ST} {q : Int32 × ST} (h : f_X5_firstChoice 4 p0 σ = some q) : Met l yX5_firstChoice (.code yX5_firstChoice cX5_firstChoice 2 (some .int) :: pw) ({ frames := 2, cells := 0, slots := 0, locals := 42 } : Room) (va_Pc [.ref (a 4), .int p0] (vPre dC dI (wA a k σ) (tA k) sz)) (qAi dC dI a k (va_A (wA a k σ) sz) q) 0 0 (va_A (wA a k σ) sz) := metA (fun A => qAi dC dI a k A q) (plainFor_of_name (by decide)) (Nat.le_of_ble_eq_true rfl) (fun _ _ _ _ _ _ _ _ hC => b_X5_firstChoice_e_4 hC h)

set_option maxRecDepth 100000 in
set_option maxHeartbeats 4000000 in
theorem b_X5_firstChoice_e_20 {p : Program} {l : Launch} {e : Env} {s : State} {m : MethodId} {args : Array Value} {below : List Frame} {meth : Method} {c : Code} {dC : Nat → ClassId} {dI : Nat → Nat → Nat} {a : Nat → Nat} {k : Nat → ClassId} {A : Nat → Prop} {q : Int32 × ST} (hC : CxA p s m args meth c dC dI k A cX5_firstChoice RX5 (some .int) 2)   {p0 : Int32} {σ : ST} (h : f_X5_firstChoice 20 p0 σ = some q) : GoA p l e ({ frames := 2, cells := 0, slots := 0, locals := 42 } : Room) s m args below meth c (MQ below (qAi dC dI a k A q) args s 0 0 A) dC dI a k A 2 0 σ (lv_args 0 [.ref (a 20), .int p0]) [] := by
  have hC0 := hC
  obtain ⟨hx, hb, hr, hml, hown, hts, hlocks, hA, hN, hK⟩ := hC0
  intro H locs ls hP hD hS hl
  have hD0 : ∀ σ1 : ST, va_D A (wA a k σ1) := fun σ1 => wA_D hD
  replace hl : lv_has ls 2 [(0, .ref (a 20)), (1, .int p0)] := hl
  unfold f_X5_firstChoice at h
  refine lv_aload_n hx hb dX5_firstChoice_0 rfl (lv_at hl 0 rfl) ?_
  refine lv_iload_n hx hb dX5_firstChoice_1 rfl (lv_at hl 1 rfl) ?_
  obtain ⟨q1, hc, h⟩ := ib h
  have hF := va_frees hD hS hA
  refine va_calli (va_runV (As := [.int p0]) (rest := []) ⟨hx, hb, hml, hown, hts⟩ (s_X5_sortOf_20 hc) (cwV 1 hts (gV mw_15_12 mw_2_13 mw_2_14 mw_0_9 mw_50_6) rfl rfl rfl (by decide +kernel) ⟨(Nat.le_of_ble_eq_true rfl), (Nat.le_of_ble_eq_true rfl)⟩) (vV (ci := 5) (q0 := 20) hK hP hD hN rfl gA_20) rfl rfl hl.1 rfl (lv_room (Nat.le_of_ble_eq_true rfl)) dX5_firstChoice_2 ⟨(Nat.le_of_ble_eq_true rfl), (Nat.le_of_ble_eq_true rfl)⟩) hS (fun q _ h => hF q h) hF (fun r2 u t H locs ht hvm hw hB _ _ hS => ?_)
  obtain rfl : r2 = q1.1 := hw
  replace hP : va_P (dC, dI) vwCl (wA a k q1.2) H := by rw [← ht]; exact hB.1
  replace hD := hD0 (q1.2)
  clear hB hF
  refine lv_bipush (v := 8) hx hb dX5_firstChoice_5 (by decide) ?_
  refine lv_icmp_ne (tgt := 18) hx hb dX5_firstChoice_7 (by decide) (fun hc => ?_) (fun hc => ?_)
  · replace h := iq hc h
    refine lv_iload_n hx hb dX5_firstChoice_18 rfl (lv_at hl 1 rfl) ?_
    obtain rfl := Option.some.inj h
    exact W.iret hx hb hr (fun t ht hW => ⟨⟨_, (), rfl, rfl, ⟨by rw [ht]; exact hP, va_K.moved hW.alike hK, hD⟩⟩, hS.F ht⟩) hS.2.2 dX5_firstChoice_19
  · replace h := ip hc h
    refine lv_aload_n hx hb dX5_firstChoice_10 rfl (lv_at hl 0 rfl) ?_
    refine lv_iload_n hx hb dX5_firstChoice_11 rfl (lv_at hl 1 rfl) ?_
    obtain ⟨q3, hc, h⟩ := ib h
    have hF := va_frees hD hS hA
    refine va_calli (va_runV (As := [.int p0]) (rest := []) ⟨hx, hb, hml, hown, hts⟩ (s_X5_innerOf_20 hc) (cwV 1 hts (gV mw_15_13 mw_2_16 mw_2_17 mw_0_9 mw_50_7) rfl rfl rfl (by decide +kernel) ⟨(Nat.le_of_ble_eq_true rfl), (Nat.le_of_ble_eq_true rfl)⟩) (vV (ci := 5) (q0 := 20) hK hP hD hN rfl gA_20) rfl rfl hl.1 rfl (lv_room (Nat.le_of_ble_eq_true rfl)) dX5_firstChoice_12 ⟨(Nat.le_of_ble_eq_true rfl), (Nat.le_of_ble_eq_true rfl)⟩) hS (fun q _ h => hF q h) hF (fun r4 u t H locs ht hvm hw hB _ _ hS => ?_)
    obtain rfl : r4 = q3.1 := hw
    replace hP : va_P (dC, dI) vwCl (wA a k q3.2) H := by rw [← ht]; exact hB.1
    replace hD := hD0 (q3.2)
    clear hB hF
    refine lv_goto (tgt := 19) hx hb dX5_firstChoice_15 (by decide) ?_
    obtain rfl := Option.some.inj h
    exact W.iret hx hb hr (fun t ht hW => ⟨⟨_, (), rfl, rfl, ⟨by rw [ht]; exact hP, va_K.moved hW.alike hK, hD⟩⟩, hS.F ht⟩) hS.2.2 dX5_firstChoice_19

theorem s_X5_firstChoice_20 {l : Launch} {dC : Nat → ClassId} {dI : Nat → Nat → Nat} {a : Nat → Nat} {k : Nat → ClassId} {sz : Nat} {p0 : Int32} {σ : ST} {q : Int32 × ST} (h : f_X5_firstChoice 20 p0 σ = some q) : Met l yX5_firstChoice (.code yX5_firstChoice cX5_firstChoice 2 (some .int) :: pw) ({ frames := 2, cells := 0, slots := 0, locals := 42 } : Room) (va_Pc [.ref (a 20), .int p0] (vPre dC dI (wA a k σ) (tA k) sz)) (qAi dC dI a k (va_A (wA a k σ) sz) q) 0 0 (va_A (wA a k σ) sz) := metA (fun A => qAi dC dI a k A q) (plainFor_of_name (by decide)) (Nat.le_of_ble_eq_true rfl) (fun _ _ _ _ _ _ _ _ hC => b_X5_firstChoice_e_20 hC h)

def f_X7_setFilled (b : Nat) (p0 : Int32) (σ : ST) : Option (ST) := (f_X7_isRow b p0 σ).bind fun q1 => if q1.1 = 0 then (some q1.2) else (if 0 ≤ p0.toInt ∧ p0.toInt < (ln7 b : Nat) then (some (stI q1.2 (b + 5) p0.toNatClampNeg (vp_nar .boolean 1))) else none)

set_option maxRecDepth 100000 in
set_option maxHeartbeats 4000000 in
theorem b_X7_setFilled_e_50 {p : Program} {l : Launch} {e : Env} {s : State} {m : MethodId} {args : Array Value} {below : List Frame} {meth : Method} {c : Code} {dC : Nat → ClassId} {dI : Nat → Nat → Nat} {a : Nat → Nat} {k : Nat → ClassId} {A : Nat → Prop} {q : ST} (hC : CxA p s m args meth c dC dI k A cX7_setFilled RX7 none 2)   {p0 : Int32} {σ : ST} (h : f_X7_setFilled 50 p0 σ = some q) : GoA p l e ({ frames := 1, cells := 0, slots := 0, locals := 21 } : Room) s m args below meth c (MQ below (qAv dC dI a k A q) args s 0 0 A) dC dI a k A 2 0 σ (lv_args 0 [.ref (a 50), .int p0]) [] := by
  have hC0 := hC
  obtain ⟨hx, hb, hr, hml, hown, hts, hlocks, hA, hN, hK⟩ := hC0
  intro H locs ls hP hD hS hl
  have hD0 : ∀ σ1 : ST, va_D A (wA a k σ1) := fun σ1 => wA_D hD
  replace hl : lv_has ls 2 [(0, .ref (a 50)), (1, .int p0)] := hl
  unfold f_X7_setFilled at h
  refine lv_aload_n hx hb dX7_setFilled_0 rfl (lv_at hl 0 rfl) ?_
  refine lv_iload_n hx hb dX7_setFilled_1 rfl (lv_at hl 1 rfl) ?_
  obtain ⟨q1, hc, h⟩ := ib h
  have hF := va_frees hD hS hA
  refine va_calli (va_runV (As := [.int p0]) (rest := []) ⟨hx, hb, hml, hown, hts⟩ (s_X7_isRow_50 hc) (cwV 1 hts (gV mw_18_14 mw_18_15 mw_18_16 mw_0_11 mw_51_24) rfl rfl rfl (by decide +kernel) ⟨(Nat.le_of_ble_eq_true rfl), (Nat.le_of_ble_eq_true rfl)⟩) (vV (ci := 7) (q0 := 50) hK hP hD hN rfl gA_50) rfl rfl hl.1 rfl (lv_room (Nat.le_of_ble_eq_true rfl)) dX7_setFilled_2 ⟨(Nat.le_of_ble_eq_true rfl), (Nat.le_of_ble_eq_true rfl)⟩) hS (fun q _ h => hF q h) hF (fun r2 u t H locs ht hvm hw hB _ _ hS => ?_)
  obtain rfl : r2 = q1.1 := hw
  replace hP : va_P (dC, dI) vwCl (wA a k q1.2) H := by rw [← ht]; exact hB.1
  replace hD := hD0 (q1.2)
  clear hB hF
  refine lv_if_eq (tgt := 15) hx hb dX7_setFilled_5 (by decide) (fun hc => ?_) (fun hc => ?_)
  · replace h := ip hc h
    obtain rfl := Option.some.inj h
    exact W.vret hx hb hr (fun t ht hW => ⟨⟨(), rfl, trivial, ⟨by rw [ht]; exact hP, va_K.moved hW.alike hK, hD⟩⟩, hS.F ht⟩) hS.2.2 dX7_setFilled_15
  · replace h := iq hc h
    refine lv_aload_n hx hb dX7_setFilled_8 rfl (lv_at hl 0 rfl) ?_
    refine va_get (D := (dC, dI)) (ci := 7) (C := RX7) (T := TX7) (N := 13) hx hb hts inlX7 hown hK hP 50 gA_50 rfl 6 (by decide) (hts (.fieldLink RX7 31 "ShapeReader$Tree" "filled" "[Z") mw_18_7) (fun _ h9 => h9) rfl dX7_setFilled_9 ?_
    refine lv_iload_n hx hb dX7_setFilled_12 rfl (lv_at hl 1 rfl) ?_
    refine lv_iconst (v := 1) hx hb dX7_setFilled_13 (by decide) ?_
    obtain ⟨hg3, h⟩ := ig h
    refine va_zast hx hb hK hP hD hS 55 46 gA_55 yA_55 (vp_in_iff.mpr hg3) dX7_setFilled_14 (fun H locs hP hD hS => ?_)
    replace hP := uA_55 hP
    replace hD := hD0 ((stI q1.2 55 p0.toNatClampNeg (vp_nar .boolean 1)))
    obtain rfl := Option.some.inj h
    exact W.vret hx hb hr (fun t ht hW => ⟨⟨(), rfl, trivial, ⟨by rw [ht]; exact hP, va_K.moved hW.alike hK, hD⟩⟩, hS.F ht⟩) hS.2.2 dX7_setFilled_15

theorem s_X7_setFilled_50 {l : Launch} {dC : Nat → ClassId} {dI : Nat → Nat → Nat} {a : Nat → Nat} {k : Nat → ClassId} {sz : Nat} {p0 : Int32} {σ : ST} {q : ST} (h : f_X7_setFilled 50 p0 σ = some q) : Met l yX7_setFilled (.code yX7_setFilled cX7_setFilled 2 none :: pw) ({ frames := 1, cells := 0, slots := 0, locals := 21 } : Room) (va_Pc [.ref (a 50), .int p0] (vPre dC dI (wA a k σ) (tA k) sz)) (qAv dC dI a k (va_A (wA a k σ) sz) q) 0 0 (va_A (wA a k σ) sz) := metA (fun A => qAv dC dI a k A q) (plainFor_of_name (by decide)) (Nat.le_of_ble_eq_true rfl) (fun _ _ _ _ _ _ _ _ hC => b_X7_setFilled_e_50 hC h)

set_option maxRecDepth 100000 in
set_option maxHeartbeats 4000000 in
theorem b_X7_setFilled_e_62 {p : Program} {l : Launch} {e : Env} {s : State} {m : MethodId} {args : Array Value} {below : List Frame} {meth : Method} {c : Code} {dC : Nat → ClassId} {dI : Nat → Nat → Nat} {a : Nat → Nat} {k : Nat → ClassId} {A : Nat → Prop} {q : ST} (hC : CxA p s m args meth c dC dI k A cX7_setFilled RX7 none 2)   {p0 : Int32} {σ : ST} (h : f_X7_setFilled 62 p0 σ = some q) : GoA p l e ({ frames := 1, cells := 0, slots := 0, locals := 21 } : Room) s m args below meth c (MQ below (qAv dC dI a k A q) args s 0 0 A) dC dI a k A 2 0 σ (lv_args 0 [.ref (a 62), .int p0]) [] := by
  have hC0 := hC
  obtain ⟨hx, hb, hr, hml, hown, hts, hlocks, hA, hN, hK⟩ := hC0
  intro H locs ls hP hD hS hl
  have hD0 : ∀ σ1 : ST, va_D A (wA a k σ1) := fun σ1 => wA_D hD
  replace hl : lv_has ls 2 [(0, .ref (a 62)), (1, .int p0)] := hl
  unfold f_X7_setFilled at h
  refine lv_aload_n hx hb dX7_setFilled_0 rfl (lv_at hl 0 rfl) ?_
  refine lv_iload_n hx hb dX7_setFilled_1 rfl (lv_at hl 1 rfl) ?_
  obtain ⟨q1, hc, h⟩ := ib h
  have hF := va_frees hD hS hA
  refine va_calli (va_runV (As := [.int p0]) (rest := []) ⟨hx, hb, hml, hown, hts⟩ (s_X7_isRow_62 hc) (cwV 1 hts (gV mw_18_14 mw_18_15 mw_18_16 mw_0_11 mw_51_24) rfl rfl rfl (by decide +kernel) ⟨(Nat.le_of_ble_eq_true rfl), (Nat.le_of_ble_eq_true rfl)⟩) (vV (ci := 7) (q0 := 62) hK hP hD hN rfl gA_62) rfl rfl hl.1 rfl (lv_room (Nat.le_of_ble_eq_true rfl)) dX7_setFilled_2 ⟨(Nat.le_of_ble_eq_true rfl), (Nat.le_of_ble_eq_true rfl)⟩) hS (fun q _ h => hF q h) hF (fun r2 u t H locs ht hvm hw hB _ _ hS => ?_)
  obtain rfl : r2 = q1.1 := hw
  replace hP : va_P (dC, dI) vwCl (wA a k q1.2) H := by rw [← ht]; exact hB.1
  replace hD := hD0 (q1.2)
  clear hB hF
  refine lv_if_eq (tgt := 15) hx hb dX7_setFilled_5 (by decide) (fun hc => ?_) (fun hc => ?_)
  · replace h := ip hc h
    obtain rfl := Option.some.inj h
    exact W.vret hx hb hr (fun t ht hW => ⟨⟨(), rfl, trivial, ⟨by rw [ht]; exact hP, va_K.moved hW.alike hK, hD⟩⟩, hS.F ht⟩) hS.2.2 dX7_setFilled_15
  · replace h := iq hc h
    refine lv_aload_n hx hb dX7_setFilled_8 rfl (lv_at hl 0 rfl) ?_
    refine va_get (D := (dC, dI)) (ci := 7) (C := RX7) (T := TX7) (N := 13) hx hb hts inlX7 hown hK hP 62 gA_62 rfl 6 (by decide) (hts (.fieldLink RX7 31 "ShapeReader$Tree" "filled" "[Z") mw_18_7) (fun _ h9 => h9) rfl dX7_setFilled_9 ?_
    refine lv_iload_n hx hb dX7_setFilled_12 rfl (lv_at hl 1 rfl) ?_
    refine lv_iconst (v := 1) hx hb dX7_setFilled_13 (by decide) ?_
    obtain ⟨hg3, h⟩ := ig h
    refine va_zast hx hb hK hP hD hS 67 57 gA_67 yA_67 (vp_in_iff.mpr hg3) dX7_setFilled_14 (fun H locs hP hD hS => ?_)
    replace hP := uA_67 hP
    replace hD := hD0 ((stI q1.2 67 p0.toNatClampNeg (vp_nar .boolean 1)))
    obtain rfl := Option.some.inj h
    exact W.vret hx hb hr (fun t ht hW => ⟨⟨(), rfl, trivial, ⟨by rw [ht]; exact hP, va_K.moved hW.alike hK, hD⟩⟩, hS.F ht⟩) hS.2.2 dX7_setFilled_15

theorem s_X7_setFilled_62 {l : Launch} {dC : Nat → ClassId} {dI : Nat → Nat → Nat} {a : Nat → Nat} {k : Nat → ClassId} {sz : Nat} {p0 : Int32} {σ : ST} {q : ST} (h : f_X7_setFilled 62 p0 σ = some q) : Met l yX7_setFilled (.code yX7_setFilled cX7_setFilled 2 none :: pw) ({ frames := 1, cells := 0, slots := 0, locals := 21 } : Room) (va_Pc [.ref (a 62), .int p0] (vPre dC dI (wA a k σ) (tA k) sz)) (qAv dC dI a k (va_A (wA a k σ) sz) q) 0 0 (va_A (wA a k σ) sz) := metA (fun A => qAv dC dI a k A q) (plainFor_of_name (by decide)) (Nat.le_of_ble_eq_true rfl) (fun _ _ _ _ _ _ _ _ hC => b_X7_setFilled_e_62 hC h)

set_option maxRecDepth 100000 in
set_option maxHeartbeats 4000000 in
theorem b_X7_setFilled_e_74 {p : Program} {l : Launch} {e : Env} {s : State} {m : MethodId} {args : Array Value} {below : List Frame} {meth : Method} {c : Code} {dC : Nat → ClassId} {dI : Nat → Nat → Nat} {a : Nat → Nat} {k : Nat → ClassId} {A : Nat → Prop} {q : ST} (hC : CxA p s m args meth c dC dI k A cX7_setFilled RX7 none 2)   {p0 : Int32} {σ : ST} (h : f_X7_setFilled 74 p0 σ = some q) : GoA p l e ({ frames := 1, cells := 0, slots := 0, locals := 21 } : Room) s m args below meth c (MQ below (qAv dC dI a k A q) args s 0 0 A) dC dI a k A 2 0 σ (lv_args 0 [.ref (a 74), .int p0]) [] := by
  have hC0 := hC
  obtain ⟨hx, hb, hr, hml, hown, hts, hlocks, hA, hN, hK⟩ := hC0
  intro H locs ls hP hD hS hl
  have hD0 : ∀ σ1 : ST, va_D A (wA a k σ1) := fun σ1 => wA_D hD
  replace hl : lv_has ls 2 [(0, .ref (a 74)), (1, .int p0)] := hl
  unfold f_X7_setFilled at h
  refine lv_aload_n hx hb dX7_setFilled_0 rfl (lv_at hl 0 rfl) ?_
  refine lv_iload_n hx hb dX7_setFilled_1 rfl (lv_at hl 1 rfl) ?_
  obtain ⟨q1, hc, h⟩ := ib h
  have hF := va_frees hD hS hA
  refine va_calli (va_runV (As := [.int p0]) (rest := []) ⟨hx, hb, hml, hown, hts⟩ (s_X7_isRow_74 hc) (cwV 1 hts (gV mw_18_14 mw_18_15 mw_18_16 mw_0_11 mw_51_24) rfl rfl rfl (by decide +kernel) ⟨(Nat.le_of_ble_eq_true rfl), (Nat.le_of_ble_eq_true rfl)⟩) (vV (ci := 7) (q0 := 74) hK hP hD hN rfl gA_74) rfl rfl hl.1 rfl (lv_room (Nat.le_of_ble_eq_true rfl)) dX7_setFilled_2 ⟨(Nat.le_of_ble_eq_true rfl), (Nat.le_of_ble_eq_true rfl)⟩) hS (fun q _ h => hF q h) hF (fun r2 u t H locs ht hvm hw hB _ _ hS => ?_)
  obtain rfl : r2 = q1.1 := hw
  replace hP : va_P (dC, dI) vwCl (wA a k q1.2) H := by rw [← ht]; exact hB.1
  replace hD := hD0 (q1.2)
  clear hB hF
  refine lv_if_eq (tgt := 15) hx hb dX7_setFilled_5 (by decide) (fun hc => ?_) (fun hc => ?_)
  · replace h := ip hc h
    obtain rfl := Option.some.inj h
    exact W.vret hx hb hr (fun t ht hW => ⟨⟨(), rfl, trivial, ⟨by rw [ht]; exact hP, va_K.moved hW.alike hK, hD⟩⟩, hS.F ht⟩) hS.2.2 dX7_setFilled_15
  · replace h := iq hc h
    refine lv_aload_n hx hb dX7_setFilled_8 rfl (lv_at hl 0 rfl) ?_
    refine va_get (D := (dC, dI)) (ci := 7) (C := RX7) (T := TX7) (N := 13) hx hb hts inlX7 hown hK hP 74 gA_74 rfl 6 (by decide) (hts (.fieldLink RX7 31 "ShapeReader$Tree" "filled" "[Z") mw_18_7) (fun _ h9 => h9) rfl dX7_setFilled_9 ?_
    refine lv_iload_n hx hb dX7_setFilled_12 rfl (lv_at hl 1 rfl) ?_
    refine lv_iconst (v := 1) hx hb dX7_setFilled_13 (by decide) ?_
    obtain ⟨hg3, h⟩ := ig h
    refine va_zast hx hb hK hP hD hS 79 68 gA_79 yA_79 (vp_in_iff.mpr hg3) dX7_setFilled_14 (fun H locs hP hD hS => ?_)
    replace hP := uA_79 hP
    replace hD := hD0 ((stI q1.2 79 p0.toNatClampNeg (vp_nar .boolean 1)))
    obtain rfl := Option.some.inj h
    exact W.vret hx hb hr (fun t ht hW => ⟨⟨(), rfl, trivial, ⟨by rw [ht]; exact hP, va_K.moved hW.alike hK, hD⟩⟩, hS.F ht⟩) hS.2.2 dX7_setFilled_15

theorem s_X7_setFilled_74 {l : Launch} {dC : Nat → ClassId} {dI : Nat → Nat → Nat} {a : Nat → Nat} {k : Nat → ClassId} {sz : Nat} {p0 : Int32} {σ : ST} {q : ST} (h : f_X7_setFilled 74 p0 σ = some q) : Met l yX7_setFilled (.code yX7_setFilled cX7_setFilled 2 none :: pw) ({ frames := 1, cells := 0, slots := 0, locals := 21 } : Room) (va_Pc [.ref (a 74), .int p0] (vPre dC dI (wA a k σ) (tA k) sz)) (qAv dC dI a k (va_A (wA a k σ) sz) q) 0 0 (va_A (wA a k σ) sz) := metA (fun A => qAv dC dI a k A q) (plainFor_of_name (by decide)) (Nat.le_of_ble_eq_true rfl) (fun _ _ _ _ _ _ _ _ hC => b_X7_setFilled_e_74 hC h)
