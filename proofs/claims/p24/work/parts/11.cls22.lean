
def f_X10_write (p0 : Int32) (p1 : Int32) (p2 : Int32) (σ : ST) : Option (Int32 × ST) := (f_X1_isNumber  p0 σ).bind fun q1 => if q1.1 = 0 then (some ((-1), q1.2)) else ((f_X10_isPlan  p1 q1.2).bind fun q3 => if q3.1 = 0 then (some ((-1), q3.2)) else (if p2 < 0 then (some ((-1), q3.2)) else (if p2 ≤ (q3.2.1 0 1) then ((f_X6_begin  p2 (stI q3.2 0 1 0)).bind fun q5 => (f_X5_rootType 4 p1 q5).bind fun q7 => (f_X8_parse  q7.1 q7.2).bind fun q9 => if q9.1 = 0 then ((f_X6_faultAnswer   q9.2).bind fun q21 => some (q21.1, q21.2)) else ((f_X5_rootType 4 p1 q9.2).bind fun q11 => (f_X2_pack 62 q11.1 q11.2).bind fun q13 => if (q13.1 87 2) ≤ 400 then ((f_X1_store  p0 p1 q13).bind fun q15 => some ((q15.1 87 2), q15)) else ((f_X6_refuse  7 q13).bind fun q17 => (f_X6_faultAnswer   q17.2).bind fun q19 => some (q19.1, q19.2)))) else (some ((-1), q3.2)))))

set_option maxRecDepth 100000 in
set_option maxHeartbeats 4000000 in
theorem b_X10_write_e {p : Program} {l : Launch} {e : Env} {s : State} {m : MethodId} {args : Array Value} {below : List Frame} {meth : Method} {c : Code} {dC : Nat → ClassId} {dI : Nat → Nat → Nat} {a : Nat → Nat} {k : Nat → ClassId} {A : Nat → Prop} {q : Int32 × ST} (hC : CxA p s m args meth c dC dI k A cX10_write RX10 (some .int) 4)   {p0 : Int32} {p1 : Int32} {p2 : Int32} {σ : ST} (h : f_X10_write  p0 p1 p2 σ = some q) : GoA p l e ({ frames := 167, cells := 0, slots := 0, locals := 4781 } : Room) s m args below meth c (MQ below (qAi dC dI a k A q) args s 0 0 A) dC dI a k A 4 0 σ (lv_args 0 [.ref (a 0), .int p0, .int p1, .int p2]) [] := by
  have hC0 := hC
  obtain ⟨hx, hb, hr, hml, hown, hts, hlocks, hA, hN, hK⟩ := hC0
  intro H locs ls hP hD hS hl
  have hD0 : ∀ σ1 : ST, va_D A (wA a k σ1) := fun σ1 => wA_D hD
  replace hl : lv_has ls 4 [(0, .ref (a 0)), (1, .int p0), (2, .int p1), (3, .int p2)] := hl
  unfold f_X10_write at h
  refine lv_aload_n hx hb dX10_write_0 rfl (lv_at hl 0 rfl) ?_
  refine va_get (D := (dC, dI)) (ci := 10) (C := RX10) (T := TX10) (N := 16) hx hb hts inlX10 hown hK hP 0 gA_0 rfl 6 (by decide) (hts (.fieldLink RX10 48 "ShapeReader" "messages" "LShapeReader$Messages;") mw_21_12) (fun _ h9 => h9) rfl dX10_write_1 ?_
  refine lv_iload_n hx hb dX10_write_4 rfl (lv_at hl 1 rfl) ?_
  obtain ⟨q1, hc, h⟩ := ib h
  have hF := va_frees hD hS hA
  refine va_calli (va_runV (As := [.int p0]) (rest := []) ⟨hx, hb, hml, hown, hts⟩ (s_X1_isNumber hc) (cwV 1 hts (gV mw_23_14 mw_4_12 mw_4_13 mw_0_5 mw_47_29) rfl rfl rfl (by decide +kernel) ⟨(Nat.le_of_ble_eq_true rfl), (Nat.le_of_ble_eq_true rfl)⟩) (vV (ci := 1) (q0 := 37) hK hP hD hN rfl gA_37) rfl rfl hl.1 rfl (lv_room (Nat.le_of_ble_eq_true rfl)) dX10_write_5 ⟨(Nat.le_of_ble_eq_true rfl), (Nat.le_of_ble_eq_true rfl)⟩) hS (fun q _ h => hF q h) hF (fun r2 u t H locs ht hvm hw hB _ _ hS => ?_)
  obtain rfl : r2 = q1.1 := hw
  replace hP : va_P (dC, dI) vwCl (wA a k q1.2) H := by rw [← ht]; exact hB.1
  replace hD := hD0 (q1.2)
  clear hB hF
  refine lv_if_eq (tgt := 31) hx hb dX10_write_8 (by decide) (fun hc => ?_) (fun hc => ?_)
  · replace h := ip hc h
    refine lv_iconst (v := (-1)) hx hb dX10_write_31 (by decide) ?_
    obtain rfl := Option.some.inj h
    exact W.iret hx hb hr (fun t ht hW => ⟨⟨_, (), rfl, rfl, ⟨by rw [ht]; exact hP, va_K.moved hW.alike hK, hD⟩⟩, hS.F ht⟩) hS.2.2 dX10_write_32
  · replace h := iq hc h
    refine lv_aload_n hx hb dX10_write_11 rfl (lv_at hl 0 rfl) ?_
    refine lv_iload_n hx hb dX10_write_12 rfl (lv_at hl 2 rfl) ?_
    obtain ⟨q3, hc, h⟩ := ib h
    have hF := va_frees hD hS hA
    refine va_calli (va_runV (As := [.int p1]) (rest := []) ⟨hx, hb, hml, hown, hts⟩ (s_X10_isPlan hc) (cwV 1 hts (gV mw_23_15 mw_23_16 mw_23_17 mw_0_14 mw_52_29) rfl rfl rfl (by decide +kernel) ⟨(Nat.le_of_ble_eq_true rfl), (Nat.le_of_ble_eq_true rfl)⟩) (vV (ci := 10) (q0 := 0) hK hP hD hN rfl gA_0) rfl rfl hl.1 rfl (lv_room (Nat.le_of_ble_eq_true rfl)) dX10_write_13 ⟨(Nat.le_of_ble_eq_true rfl), (Nat.le_of_ble_eq_true rfl)⟩) hS (fun q _ h => hF q h) hF (fun r4 u t H locs ht hvm hw hB _ _ hS => ?_)
    obtain rfl : r4 = q3.1 := hw
    replace hP : va_P (dC, dI) vwCl (wA a k q3.2) H := by rw [← ht]; exact hB.1
    replace hD := hD0 (q3.2)
    clear hB hF
    refine lv_if_eq (tgt := 31) hx hb dX10_write_16 (by decide) (fun hc => ?_) (fun hc => ?_)
    · replace h := ip hc h
      refine lv_iconst (v := (-1)) hx hb dX10_write_31 (by decide) ?_
      obtain rfl := Option.some.inj h
      exact W.iret hx hb hr (fun t ht hW => ⟨⟨_, (), rfl, rfl, ⟨by rw [ht]; exact hP, va_K.moved hW.alike hK, hD⟩⟩, hS.F ht⟩) hS.2.2 dX10_write_32
    · replace h := iq hc h
      refine lv_iload_n hx hb dX10_write_19 rfl (lv_at hl 3 rfl) ?_
      refine lv_if_lt (tgt := 31) hx hb dX10_write_20 (by decide) (fun hc => ?_) (fun hc => ?_)
      · replace h := ip hc h
        refine lv_iconst (v := (-1)) hx hb dX10_write_31 (by decide) ?_
        obtain rfl := Option.some.inj h
        exact W.iret hx hb hr (fun t ht hW => ⟨⟨_, (), rfl, rfl, ⟨by rw [ht]; exact hP, va_K.moved hW.alike hK, hD⟩⟩, hS.F ht⟩) hS.2.2 dX10_write_32
      · replace h := iq hc h
        refine lv_iload_n hx hb dX10_write_23 rfl (lv_at hl 3 rfl) ?_
        refine lv_aload_n hx hb dX10_write_24 rfl (lv_at hl 0 rfl) ?_
        refine va_get (D := (dC, dI)) (ci := 10) (C := RX10) (T := TX10) (N := 16) hx hb hts inlX10 hown hK hP 0 gA_0 rfl 1 (by decide) (hts (.fieldLink RX10 13 "ShapeReader" "tapeSize" "I") mw_20_22) (fun _ h9 => h9) rfl dX10_write_25 ?_
        refine lv_icmp_le (tgt := 33) hx hb dX10_write_28 (by decide) (fun hc => ?_) (fun hc => ?_)
        · replace h := ip hc h
          refine lv_aload_n hx hb dX10_write_33 rfl (lv_at hl 0 rfl) ?_
          refine lv_iconst (v := 0) hx hb dX10_write_34 (by decide) ?_
          refine va_put (D := (dC, dI)) (ci := 10) (ty := .int) (C := RX10) (T := TX10) (N := 16) hx hb hts inlX10 tyX10 tyX10_ok nmX10 hown hK hP hD hS 0 gA_0 rfl 1 (by decide) (hts (.fieldLink RX10 13 "ShapeReader" "tapeSize" "I") mw_20_22) (fun _ h9 => h9) rfl (by decide +kernel) rfl rfl (Nat.le_of_ble_eq_true rfl) dX10_write_35 (fun H locs hP hD hS => ?_)
          replace hP := uA_0_1 hP
          replace hD := hD0 ((stI q3.2 0 1 0))
          refine lv_aload_n hx hb dX10_write_38 rfl (lv_at hl 0 rfl) ?_
          refine va_get (D := (dC, dI)) (ci := 10) (C := RX10) (T := TX10) (N := 16) hx hb hts inlX10 hown hK hP 0 gA_0 rfl 2 (by decide) (hts (.fieldLink RX10 22 "ShapeReader" "tokens" "LShapeReader$Tokens;") mw_20_27) (fun _ h9 => h9) rfl dX10_write_39 ?_
          refine lv_iload_n hx hb dX10_write_42 rfl (lv_at hl 3 rfl) ?_
          obtain ⟨q5, hc, h⟩ := ib h
          have hF := va_frees hD hS hA
          refine va_callv (va_runV (As := [.int p2]) (rest := []) ⟨hx, hb, hml, hown, hts⟩ (s_X6_begin hc) (cwV 1 hts (gV mw_22_18 mw_22_19 mw_22_20 mw_0_10 mw_51_3) rfl rfl rfl (by decide +kernel) ⟨(Nat.le_of_ble_eq_true rfl), (Nat.le_of_ble_eq_true rfl)⟩) (vV (ci := 6) (q0 := 2) hK hP hD hN rfl gA_2) rfl rfl hl.1 rfl (lv_room (Nat.le_of_ble_eq_true rfl)) dX10_write_43 ⟨(Nat.le_of_ble_eq_true rfl), (Nat.le_of_ble_eq_true rfl)⟩) hS (fun q _ h => hF q h) hF (fun u t H locs ht hvm hw hB _ _ hS => ?_)
          replace hP : va_P (dC, dI) vwCl (wA a k q5) H := by rw [← ht]; exact hB.1
          replace hD := hD0 (q5)
          clear hB hF
          refine lv_aload_n hx hb dX10_write_46 rfl (lv_at hl 0 rfl) ?_
          refine va_get (D := (dC, dI)) (ci := 10) (C := RX10) (T := TX10) (N := 16) hx hb hts inlX10 hown hK hP 0 gA_0 rfl 12 (by decide) (hts (.fieldLink RX10 88 "ShapeReader" "valueText" "LShapeReader$ValueText;") mw_22_3) (fun _ h9 => h9) rfl dX10_write_47 ?_
          refine lv_aload_n hx hb dX10_write_50 rfl (lv_at hl 0 rfl) ?_
          refine va_get (D := (dC, dI)) (ci := 10) (C := RX10) (T := TX10) (N := 16) hx hb hts inlX10 hown hK hP 0 gA_0 rfl 3 (by decide) (hts (.fieldLink RX10 29 "ShapeReader" "shapes" "LShapeReader$Shapes;") mw_21_1) (fun _ h9 => h9) rfl dX10_write_51 ?_
          refine lv_iload_n hx hb dX10_write_54 rfl (lv_at hl 2 rfl) ?_
          obtain ⟨q7, hc, h⟩ := ib h
          have hF := va_frees hD hS hA
          refine va_calli (va_runV (As := [.int p1]) (rest := [.ref (a 86)]) ⟨hx, hb, hml, hown, hts⟩ (s_X5_rootType_4 hc) (cwV 1 hts (gV mw_23_18 mw_3_6 mw_3_7 mw_0_9 mw_49_28) rfl rfl rfl (by decide +kernel) ⟨(Nat.le_of_ble_eq_true rfl), (Nat.le_of_ble_eq_true rfl)⟩) (vV (ci := 5) (q0 := 4) hK hP hD hN rfl gA_4) rfl rfl hl.1 rfl (lv_room (Nat.le_of_ble_eq_true rfl)) dX10_write_55 ⟨(Nat.le_of_ble_eq_true rfl), (Nat.le_of_ble_eq_true rfl)⟩) hS (fun q _ h => hF q h) hF (fun r8 u t H locs ht hvm hw hB _ _ hS => ?_)
          obtain rfl : r8 = q7.1 := hw
          replace hP : va_P (dC, dI) vwCl (wA a k q7.2) H := by rw [← ht]; exact hB.1
          replace hD := hD0 (q7.2)
          clear hB hF
          obtain ⟨q9, hc, h⟩ := ib h
          have hF := va_frees hD hS hA
          refine va_calli (va_runV (As := [.int q7.1]) (rest := []) ⟨hx, hb, hml, hown, hts⟩ (s_X8_parse hc) (cwV 1 hts (gV mw_23_19 mw_23_20 mw_23_21 mw_0_12 mw_52_13) rfl rfl rfl (by decide +kernel) ⟨(Nat.le_of_ble_eq_true rfl), (Nat.le_of_ble_eq_true rfl)⟩) (vV (ci := 8) (q0 := 86) hK hP hD hN rfl gA_86) rfl rfl hl.1 rfl (lv_room (Nat.le_of_ble_eq_true rfl)) dX10_write_58 ⟨(Nat.le_of_ble_eq_true rfl), (Nat.le_of_ble_eq_true rfl)⟩) hS (fun q _ h => hF q h) hF (fun r10 u t H locs ht hvm hw hB _ _ hS => ?_)
          obtain rfl : r10 = q9.1 := hw
          replace hP : va_P (dC, dI) vwCl (wA a k q9.2) H := by rw [← ht]; exact hB.1
          replace hD := hD0 (q9.2)
          clear hB hF
          refine lv_if_ne (tgt := 72) hx hb dX10_write_61 (by decide) (fun hc => ?_) (fun hc => ?_)
          · replace h := iq hc h
            refine lv_aload_n hx hb dX10_write_72 rfl (lv_at hl 0 rfl) ?_
            refine va_get (D := (dC, dI)) (ci := 10) (C := RX10) (T := TX10) (N := 16) hx hb hts inlX10 hown hK hP 0 gA_0 rfl 13 (by decide) (hts (.fieldLink RX10 95 "ShapeReader" "packer" "LShapeReader$Packer;") mw_22_8) (fun _ h9 => h9) rfl dX10_write_73 ?_
            refine lv_aload_n hx hb dX10_write_76 rfl (lv_at hl 0 rfl) ?_
            refine va_get (D := (dC, dI)) (ci := 10) (C := RX10) (T := TX10) (N := 16) hx hb hts inlX10 hown hK hP 0 gA_0 rfl 10 (by decide) (hts (.fieldLink RX10 77 "ShapeReader" "scratch" "LShapeReader$Tree;") mw_21_27) (fun _ h9 => h9) rfl dX10_write_77 ?_
            refine lv_aload_n hx hb dX10_write_80 rfl (lv_at hl 0 rfl) ?_
            refine va_get (D := (dC, dI)) (ci := 10) (C := RX10) (T := TX10) (N := 16) hx hb hts inlX10 hown hK hP 0 gA_0 rfl 3 (by decide) (hts (.fieldLink RX10 29 "ShapeReader" "shapes" "LShapeReader$Shapes;") mw_21_1) (fun _ h9 => h9) rfl dX10_write_81 ?_
            refine lv_iload_n hx hb dX10_write_84 rfl (lv_at hl 2 rfl) ?_
            obtain ⟨q11, hc, h⟩ := ib h
            have hF := va_frees hD hS hA
            refine va_calli (va_runV (As := [.int p1]) (rest := [.ref (a 62), .ref (a 87)]) ⟨hx, hb, hml, hown, hts⟩ (s_X5_rootType_4 hc) (cwV 1 hts (gV mw_23_18 mw_3_6 mw_3_7 mw_0_9 mw_49_28) rfl rfl rfl (by decide +kernel) ⟨(Nat.le_of_ble_eq_true rfl), (Nat.le_of_ble_eq_true rfl)⟩) (vV (ci := 5) (q0 := 4) hK hP hD hN rfl gA_4) rfl rfl hl.1 rfl (lv_room (Nat.le_of_ble_eq_true rfl)) dX10_write_85 ⟨(Nat.le_of_ble_eq_true rfl), (Nat.le_of_ble_eq_true rfl)⟩) hS (fun q _ h => hF q h) hF (fun r12 u t H locs ht hvm hw hB _ _ hS => ?_)
            obtain rfl : r12 = q11.1 := hw
            replace hP : va_P (dC, dI) vwCl (wA a k q11.2) H := by rw [← ht]; exact hB.1
            replace hD := hD0 (q11.2)
            clear hB hF
            obtain ⟨q13, hc, h⟩ := ib h
            have hF := va_frees hD hS hA
            refine va_callv (va_runV (As := [.ref (a 62), .int q11.1]) (rest := []) ⟨hx, hb, hml, hown, hts⟩ (s_X2_pack_62 hc) (cwV 2 hts (gV mw_23_22 mw_23_23 mw_23_24 mw_0_6 mw_48_10) rfl rfl rfl (by decide +kernel) ⟨(Nat.le_of_ble_eq_true rfl), (Nat.le_of_ble_eq_true rfl)⟩) (vV (ci := 2) (q0 := 87) hK hP hD hN rfl gA_87) rfl rfl hl.1 rfl (lv_room (Nat.le_of_ble_eq_true rfl)) dX10_write_88 ⟨(Nat.le_of_ble_eq_true rfl), (Nat.le_of_ble_eq_true rfl)⟩) hS (fun q _ h => hF q h) hF (fun u t H locs ht hvm hw hB _ _ hS => ?_)
            replace hP : va_P (dC, dI) vwCl (wA a k q13) H := by rw [← ht]; exact hB.1
            replace hD := hD0 (q13)
            clear hB hF
            refine lv_aload_n hx hb dX10_write_91 rfl (lv_at hl 0 rfl) ?_
            refine va_get (D := (dC, dI)) (ci := 10) (C := RX10) (T := TX10) (N := 16) hx hb hts inlX10 hown hK hP 0 gA_0 rfl 13 (by decide) (hts (.fieldLink RX10 95 "ShapeReader" "packer" "LShapeReader$Packer;") mw_22_8) (fun _ h9 => h9) rfl dX10_write_92 ?_
            refine va_get (D := (dC, dI)) (ci := 2) (C := RX2) (T := TX2) (N := 3) hx hb hts inlX2 hown hK hP 87 gA_87 rfl 2 (by decide) (hts (.fieldLink RX10 157 "ShapeReader$Packer" "size" "I") mw_23_25) (fun _ h9 => h9) rfl dX10_write_95 ?_
            refine lv_sipush (v := 400) hx hb dX10_write_98 (by decide) ?_
            refine lv_icmp_le (tgt := 122) hx hb dX10_write_101 (by decide) (fun hc => ?_) (fun hc => ?_)
            · replace h := ip hc h
              refine lv_aload_n hx hb dX10_write_122 rfl (lv_at hl 0 rfl) ?_
              refine va_get (D := (dC, dI)) (ci := 10) (C := RX10) (T := TX10) (N := 16) hx hb hts inlX10 hown hK hP 0 gA_0 rfl 6 (by decide) (hts (.fieldLink RX10 48 "ShapeReader" "messages" "LShapeReader$Messages;") mw_21_12) (fun _ h9 => h9) rfl dX10_write_123 ?_
              refine lv_iload_n hx hb dX10_write_126 rfl (lv_at hl 1 rfl) ?_
              refine lv_iload_n hx hb dX10_write_127 rfl (lv_at hl 2 rfl) ?_
              refine lv_aload_n hx hb dX10_write_128 rfl (lv_at hl 0 rfl) ?_
              refine va_get (D := (dC, dI)) (ci := 10) (C := RX10) (T := TX10) (N := 16) hx hb hts inlX10 hown hK hP 0 gA_0 rfl 13 (by decide) (hts (.fieldLink RX10 95 "ShapeReader" "packer" "LShapeReader$Packer;") mw_22_8) (fun _ h9 => h9) rfl dX10_write_129 ?_
              obtain ⟨q15, hc, h⟩ := ib h
              have hF := va_frees hD hS hA
              refine va_callv (va_runV (As := [.int p0, .int p1, .ref (a 87)]) (rest := []) ⟨hx, hb, hml, hown, hts⟩ (s_X1_store hc) (cwV 3 hts (gV mw_23_27 mw_23_28 mw_23_29 mw_0_5 mw_48_7) rfl rfl rfl (by decide +kernel) ⟨(Nat.le_of_ble_eq_true rfl), (Nat.le_of_ble_eq_true rfl)⟩) (vV (ci := 1) (q0 := 37) hK hP hD hN rfl gA_37) rfl rfl hl.1 rfl (lv_room (Nat.le_of_ble_eq_true rfl)) dX10_write_132 ⟨(Nat.le_of_ble_eq_true rfl), (Nat.le_of_ble_eq_true rfl)⟩) hS (fun q _ h => hF q h) hF (fun u t H locs ht hvm hw hB _ _ hS => ?_)
              replace hP : va_P (dC, dI) vwCl (wA a k q15) H := by rw [← ht]; exact hB.1
              replace hD := hD0 (q15)
              clear hB hF
              refine lv_aload_n hx hb dX10_write_135 rfl (lv_at hl 0 rfl) ?_
              refine va_get (D := (dC, dI)) (ci := 10) (C := RX10) (T := TX10) (N := 16) hx hb hts inlX10 hown hK hP 0 gA_0 rfl 13 (by decide) (hts (.fieldLink RX10 95 "ShapeReader" "packer" "LShapeReader$Packer;") mw_22_8) (fun _ h9 => h9) rfl dX10_write_136 ?_
              refine va_get (D := (dC, dI)) (ci := 2) (C := RX2) (T := TX2) (N := 3) hx hb hts inlX2 hown hK hP 87 gA_87 rfl 2 (by decide) (hts (.fieldLink RX10 157 "ShapeReader$Packer" "size" "I") mw_23_25) (fun _ h9 => h9) rfl dX10_write_139 ?_
              obtain rfl := Option.some.inj h
              exact W.iret hx hb hr (fun t ht hW => ⟨⟨_, (), rfl, rfl, ⟨by rw [ht]; exact hP, va_K.moved hW.alike hK, hD⟩⟩, hS.F ht⟩) hS.2.2 dX10_write_142
            · replace h := iq hc h
              refine lv_aload_n hx hb dX10_write_104 rfl (lv_at hl 0 rfl) ?_
              refine va_get (D := (dC, dI)) (ci := 10) (C := RX10) (T := TX10) (N := 16) hx hb hts inlX10 hown hK hP 0 gA_0 rfl 2 (by decide) (hts (.fieldLink RX10 22 "ShapeReader" "tokens" "LShapeReader$Tokens;") mw_20_27) (fun _ h9 => h9) rfl dX10_write_105 ?_
              refine lv_bipush (v := 7) hx hb dX10_write_108 (by decide) ?_
              obtain ⟨q17, hc, h⟩ := ib h
              have hF := va_frees hD hS hA
              refine va_calli (va_runV (As := [.int 7]) (rest := []) ⟨hx, hb, hml, hown, hts⟩ (s_X6_refuse hc) (cwV 1 hts (gV mw_23_26 mw_7_15 mw_7_16 mw_0_10 mw_51_4) rfl rfl rfl (by decide +kernel) ⟨(Nat.le_of_ble_eq_true rfl), (Nat.le_of_ble_eq_true rfl)⟩) (vV (ci := 6) (q0 := 2) hK hP hD hN rfl gA_2) rfl rfl hl.1 rfl (lv_room (Nat.le_of_ble_eq_true rfl)) dX10_write_110 ⟨(Nat.le_of_ble_eq_true rfl), (Nat.le_of_ble_eq_true rfl)⟩) hS (fun q _ h => hF q h) hF (fun r18 u t H locs ht hvm hw hB _ _ hS => ?_)
              obtain rfl : r18 = q17.1 := hw
              replace hP : va_P (dC, dI) vwCl (wA a k q17.2) H := by rw [← ht]; exact hB.1
              replace hD := hD0 (q17.2)
              clear hB hF
              refine lv_pop hx hb dX10_write_113 rfl ?_
              refine lv_aload_n hx hb dX10_write_114 rfl (lv_at hl 0 rfl) ?_
              refine va_get (D := (dC, dI)) (ci := 10) (C := RX10) (T := TX10) (N := 16) hx hb hts inlX10 hown hK hP 0 gA_0 rfl 2 (by decide) (hts (.fieldLink RX10 22 "ShapeReader" "tokens" "LShapeReader$Tokens;") mw_20_27) (fun _ h9 => h9) rfl dX10_write_115 ?_
              obtain ⟨q19, hc, h⟩ := ib h
              have hF := va_frees hD hS hA
              refine va_calli (va_runV (As := []) (rest := []) ⟨hx, hb, hml, hown, hts⟩ (s_X6_faultAnswer hc) (cwV 0 hts (gV mw_22_24 mw_22_25 mw_22_26 mw_0_10 mw_51_6) rfl rfl rfl (by decide +kernel) ⟨(Nat.le_of_ble_eq_true rfl), (Nat.le_of_ble_eq_true rfl)⟩) (vV (ci := 6) (q0 := 2) hK hP hD hN rfl gA_2) rfl rfl hl.1 rfl (lv_room (Nat.le_of_ble_eq_true rfl)) dX10_write_118 ⟨(Nat.le_of_ble_eq_true rfl), (Nat.le_of_ble_eq_true rfl)⟩) hS (fun q _ h => hF q h) hF (fun r20 u t H locs ht hvm hw hB _ _ hS => ?_)
              obtain rfl : r20 = q19.1 := hw
              replace hP : va_P (dC, dI) vwCl (wA a k q19.2) H := by rw [← ht]; exact hB.1
              replace hD := hD0 (q19.2)
              clear hB hF
              obtain rfl := Option.some.inj h
              exact W.iret hx hb hr (fun t ht hW => ⟨⟨_, (), rfl, rfl, ⟨by rw [ht]; exact hP, va_K.moved hW.alike hK, hD⟩⟩, hS.F ht⟩) hS.2.2 dX10_write_121
          · replace h := ip hc h
            refine lv_aload_n hx hb dX10_write_64 rfl (lv_at hl 0 rfl) ?_
            refine va_get (D := (dC, dI)) (ci := 10) (C := RX10) (T := TX10) (N := 16) hx hb hts inlX10 hown hK hP 0 gA_0 rfl 2 (by decide) (hts (.fieldLink RX10 22 "ShapeReader" "tokens" "LShapeReader$Tokens;") mw_20_27) (fun _ h9 => h9) rfl dX10_write_65 ?_
            obtain ⟨q21, hc, h⟩ := ib h
            have hF := va_frees hD hS hA
            refine va_calli (va_runV (As := []) (rest := []) ⟨hx, hb, hml, hown, hts⟩ (s_X6_faultAnswer hc) (cwV 0 hts (gV mw_22_24 mw_22_25 mw_22_26 mw_0_10 mw_51_6) rfl rfl rfl (by decide +kernel) ⟨(Nat.le_of_ble_eq_true rfl), (Nat.le_of_ble_eq_true rfl)⟩) (vV (ci := 6) (q0 := 2) hK hP hD hN rfl gA_2) rfl rfl hl.1 rfl (lv_room (Nat.le_of_ble_eq_true rfl)) dX10_write_68 ⟨(Nat.le_of_ble_eq_true rfl), (Nat.le_of_ble_eq_true rfl)⟩) hS (fun q _ h => hF q h) hF (fun r22 u t H locs ht hvm hw hB _ _ hS => ?_)
            obtain rfl : r22 = q21.1 := hw
            replace hP : va_P (dC, dI) vwCl (wA a k q21.2) H := by rw [← ht]; exact hB.1
            replace hD := hD0 (q21.2)
            clear hB hF
            obtain rfl := Option.some.inj h
            exact W.iret hx hb hr (fun t ht hW => ⟨⟨_, (), rfl, rfl, ⟨by rw [ht]; exact hP, va_K.moved hW.alike hK, hD⟩⟩, hS.F ht⟩) hS.2.2 dX10_write_71
        · replace h := iq hc h
          refine lv_iconst (v := (-1)) hx hb dX10_write_31 (by decide) ?_
          obtain rfl := Option.some.inj h
          exact W.iret hx hb hr (fun t ht hW => ⟨⟨_, (), rfl, rfl, ⟨by rw [ht]; exact hP, va_K.moved hW.alike hK, hD⟩⟩, hS.F ht⟩) hS.2.2 dX10_write_32

theorem s_X10_write {l : Launch} {dC : Nat → ClassId} {dI : Nat → Nat → Nat} {a : Nat → Nat} {k : Nat → ClassId} {sz : Nat} {p0 : Int32} {p1 : Int32} {p2 : Int32} {σ : ST} {q : Int32 × ST} (h : f_X10_write  p0 p1 p2 σ = some q) : Met l yX10_write (.code yX10_write cX10_write 4 (some .int) :: pw) ({ frames := 167, cells := 0, slots := 0, locals := 4781 } : Room) (va_Pc [.ref (a 0), .int p0, .int p1, .int p2] (vPre dC dI (wA a k σ) (tA k) sz)) (qAi dC dI a k (va_A (wA a k σ) sz) q) 0 0 (va_A (wA a k σ) sz) := metA (fun A => qAi dC dI a k A q) (plainFor_of_name (by decide)) (Nat.le_of_ble_eq_true rfl) (fun _ _ _ _ _ _ _ _ hC => b_X10_write_e hC h)
