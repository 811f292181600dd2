theorem dL_law_33 : decode cL_law 33 = .ok (.aload_n 0, 1) := by decide +kernel
theorem dL_law_34 : decode cL_law 34 = .ok (.iload 4, 2) := by decide +kernel
theorem dL_law_36 : decode cL_law 36 = .ok (.iaload, 1) := by decide +kernel
theorem dL_law_37 : decode cL_law 37 = .ok (.bipush 31, 2) := by decide +kernel
theorem dL_law_39 : decode cL_law 39 = .ok (.iand, 1) := by decide +kernel
theorem dL_law_40 : decode cL_law 40 = .ok (.tableswitch 1178 0 22 #[108, 181, 206, 255, 304, 365, 402, 470, 519, 556, 593, 654, 715, 752, 789, 814, 839, 907, 962, 1030, 1079, 1128, 1153], 108) := by decide +kernel
set_option maxRecDepth 100000 in
set_option maxHeartbeats 4000000 in
/-- a script of six ints: the one call -/
theorem law_six {p : Program} {l : Launch} {e : Env} {s : State} {m : MethodId} {below : List Frame} {meth : Method} {c : Code} {b : Nat} {xs : Nat → Int32} {A : Nat → Prop} {dC : Nat → ClassId} {dI : Nat → Nat → Nat} {h0 h1 h2 h3 h4 h5 h6 h7 h8 h9 h10 m0 k1 k2 o : Nat} {cT cM cU cN cO : ClassId} {g gt ga gd gm gw gs gr gM : Nat → Value} (C0 : lc_C p l s m meth c b xs A) {H : Heap} {locs : List Loc} {ls : Array Slot} (hK : va_K (dC, dI) vwCl [(cT, .byte), (cM, .int), (cU, .byte), (cN, .int), (cO, .long)] s) (hP : va_P (dC, dI) vwCl [(h0, .inr (10, [.ref h1, .int 0, .ref h2, .ref h3, .ref h4, .ref h5, .ref h6, (g 7), .ref h8, .ref h9, (g 10), (g 11), (g 12), (g 13), .ref h10, (g 15)])), (h1, .inl (cT, 1000, .inl (fun _ => 0))), (h2, .inr (6, [(gt 0), (gt 1), (gt 2), (gt 3), (gt 4), (gt 5), (gt 6), (gt 7), (gt 8), (gt 9), (gt 10), (gt 11), (gt 12), (gt 13)])), (h3, .inr (5, [.int 0, (ga 1), (ga 2), (ga 3), (ga 4), (ga 5), (ga 6), (ga 7), (ga 8), (ga 9), (ga 10), (ga 11), (ga 12), (ga 13), (ga 14), (ga 15), (ga 16)])), (h4, .inr (5, [(gd 0), (gd 1), (gd 2), (gd 3), (gd 4), (gd 5), (gd 6), (gd 7), (gd 8), (gd 9), (gd 10), (gd 11), (gd 12), (gd 13), (gd 14), (gd 15), (gd 16)])), (h5, .inr (3, [.ref h2, .ref h4])), (h6, .inr (1, [(gm 0), (gm 1), .ref h7])), (h7, .inl (cM, 4, .inl (fun _ => (-1)))), (h8, .inr (9, [(gw 0), .int 0, .int 0, .int 0])), (h9, .inr (7, [(gs 0), .int 0, (gs 2), (gs 3), (gs 4), (gs 5), (gs 6), (gs 7), (gs 8), (gs 9), (gs 10), (gs 11), (gs 12)])), (h10, .inr (4, [(gr 0), (gr 1), (gr 2), (gr 3), (gr 4), (gr 5), (gr 6), .int 0, (gr 8), (gr 9), (gr 10), (gr 11)])), (m0, .inr (11, (.int 0 :: .ref k1 :: .int 0 :: .int 0 :: .int 0 :: .int 0 :: .int 0 :: .long 0 :: .int 0 :: .long 0 :: .int 0 :: (gM 11) :: .int 0 :: .int 0 :: (gM 14) :: (gM 15) :: (gM 16) :: (gM 17) :: (gM 18) :: (gM 19) :: (gM 20) :: (gM 21) :: (gM 22) :: (gM 23) :: (gM 24) :: (gM 25) :: (gM 26) :: (gM 27) :: (gM 28) :: (gM 29) :: (gM 30) :: (gM 31) :: .int 0 :: .int 0 :: .int 0 :: (gM 35) :: (gM 36) :: (gM 37) :: (gM 38) :: (gM 39) :: (gM 40) :: (gM 41) :: (gM 42) :: (gM 43) :: (gM 44) :: (gM 45) :: .int 0 :: (gM 47) :: .int 0 :: .int 0 :: .ref k2 :: (gM 51) :: (gM 52) :: .int 0 :: .int 0 :: (gM 55) :: (gM 56) :: .int 0 :: (gM 58) :: (gM 59) :: (gM 60) :: .int 0 :: (gM 62) :: .int 0 :: .int 0 :: .int 0 :: .int 0 :: .int 0 :: .int 0 :: (gM 69) :: .long 0 :: .long 0 :: .int 0 :: .int 0 :: (gM 74) :: (gM 75) :: (gM 76) :: (gM 77) :: (gM 78) :: (gM 79) :: (gM 80) :: .int 0 :: .int 0 :: .int 0 :: (gM 84) :: (gM 85) :: (gM 86) :: (gM 87) :: .int 0 :: (gM 89) :: (gM 90) :: (gM 91) :: .int 0 :: .int 0 :: .int 0 :: []))), (k1, .inl (cU, 1000, .inl (fun _ => 0))), (k2, .inl (cN, 4, .inl (fun _ => (-1)))), (o, .inl (cO, 1, .inr (.inl (fun _ => 0))))] H) (hD : va_D A [(h0, .inr (10, [.ref h1, .int 0, .ref h2, .ref h3, .ref h4, .ref h5, .ref h6, (g 7), .ref h8, .ref h9, (g 10), (g 11), (g 12), (g 13), .ref h10, (g 15)])), (h1, .inl (cT, 1000, .inl (fun _ => 0))), (h2, .inr (6, [(gt 0), (gt 1), (gt 2), (gt 3), (gt 4), (gt 5), (gt 6), (gt 7), (gt 8), (gt 9), (gt 10), (gt 11), (gt 12), (gt 13)])), (h3, .inr (5, [.int 0, (ga 1), (ga 2), (ga 3), (ga 4), (ga 5), (ga 6), (ga 7), (ga 8), (ga 9), (ga 10), (ga 11), (ga 12), (ga 13), (ga 14), (ga 15), (ga 16)])), (h4, .inr (5, [(gd 0), (gd 1), (gd 2), (gd 3), (gd 4), (gd 5), (gd 6), (gd 7), (gd 8), (gd 9), (gd 10), (gd 11), (gd 12), (gd 13), (gd 14), (gd 15), (gd 16)])), (h5, .inr (3, [.ref h2, .ref h4])), (h6, .inr (1, [(gm 0), (gm 1), .ref h7])), (h7, .inl (cM, 4, .inl (fun _ => (-1)))), (h8, .inr (9, [(gw 0), .int 0, .int 0, .int 0])), (h9, .inr (7, [(gs 0), .int 0, (gs 2), (gs 3), (gs 4), (gs 5), (gs 6), (gs 7), (gs 8), (gs 9), (gs 10), (gs 11), (gs 12)])), (h10, .inr (4, [(gr 0), (gr 1), (gr 2), (gr 3), (gr 4), (gr 5), (gr 6), .int 0, (gr 8), (gr 9), (gr 10), (gr 11)])), (m0, .inr (11, (.int 0 :: .ref k1 :: .int 0 :: .int 0 :: .int 0 :: .int 0 :: .int 0 :: .long 0 :: .int 0 :: .long 0 :: .int 0 :: (gM 11) :: .int 0 :: .int 0 :: (gM 14) :: (gM 15) :: (gM 16) :: (gM 17) :: (gM 18) :: (gM 19) :: (gM 20) :: (gM 21) :: (gM 22) :: (gM 23) :: (gM 24) :: (gM 25) :: (gM 26) :: (gM 27) :: (gM 28) :: (gM 29) :: (gM 30) :: (gM 31) :: .int 0 :: .int 0 :: .int 0 :: (gM 35) :: (gM 36) :: (gM 37) :: (gM 38) :: (gM 39) :: (gM 40) :: (gM 41) :: (gM 42) :: (gM 43) :: (gM 44) :: (gM 45) :: .int 0 :: (gM 47) :: .int 0 :: .int 0 :: .ref k2 :: (gM 51) :: (gM 52) :: .int 0 :: .int 0 :: (gM 55) :: (gM 56) :: .int 0 :: (gM 58) :: (gM 59) :: (gM 60) :: .int 0 :: (gM 62) :: .int 0 :: .int 0 :: .int 0 :: .int 0 :: .int 0 :: .int 0 :: (gM 69) :: .long 0 :: .long 0 :: .int 0 :: .int 0 :: (gM 74) :: (gM 75) :: (gM 76) :: (gM 77) :: (gM 78) :: (gM 79) :: (gM 80) :: .int 0 :: .int 0 :: .int 0 :: (gM 84) :: (gM 85) :: (gM 86) :: (gM 87) :: .int 0 :: (gM 89) :: (gM 90) :: (gM 91) :: .int 0 :: .int 0 :: .int 0 :: []))), (k1, .inl (cU, 1000, .inl (fun _ => 0))), (k2, .inl (cN, 4, .inl (fun _ => (-1)))), (o, .inl (cO, 1, .inr (.inl (fun _ => 0))))]) (hS : va_S A s.heap H locs) (hl : lv_has ls 8 [(4, .int 0), (3, .ref o), (2, .ref m0), (1, .ref h0), (0, .ref b)]) : W p l e room_1 s m #[Value.ref b] below meth c H locs 152 98364 (lw_Z below #[Value.ref b] s) (F0 m 23 ls []) := by
  obtain ⟨hx, hb, hr, hml, hown, hts2, hXs, hbl, hlocks, hst, hA, hA2, hV⟩ := id C0
  have hbA : ¬ A b := fun h => Nat.not_le.mpr hbl (hA2 b h)
  refine lv_iload hx hb dL_law_23 (lv_at hl 0 rfl) ?_
  refine lv_aload_n hx hb dL_law_25 rfl (lv_at hl 4 rfl) ?_
  refine va_slen hx hb hXs hbl hbA hS dL_law_26 ?_
  refine lv_bipush (v := 6) hx hb dL_law_27 (by decide) ?_
  refine lv_isub hx hb dL_law_29 ?_
  refine lv_topi (fun k_1 ek_1 => ?_)
  obtain rfl : k_1 = 0 := ek_1.trans (by decide)
  refine lv_icmp_gt (tgt := 1224) hx hb dL_law_30 (by decide) (fun h => absurd h (by decide)) (fun _ => ?_)
  refine lv_aload_n hx hb dL_law_33 rfl (lv_at hl 4 rfl) ?_
  refine lv_iload hx hb dL_law_34 (lv_at hl 0 rfl) ?_
  refine va_sld hx hb hXs hbl hbA hS (vp_in_iff.mpr (by decide)) dL_law_36 ?_
  refine lv_bipush (v := 31) hx hb dL_law_37 (by decide) ?_
  refine lv_iand hx hb dL_law_39 ?_
  obtain ⟨j, hj, ej⟩ := pk_andE (xs (0 : Int32).toNatClampNeg) (m := 31) 5 (by decide)
  rw [ej]
  rcases (show j = 0 ∨ j = 1 ∨ j = 2 ∨ j = 3 ∨ j = 4 ∨ j = 5 ∨ j = 6 ∨ j = 7 ∨ j = 8 ∨ j = 9 ∨ j = 10 ∨ j = 11 ∨ j = 12 ∨ j = 13 ∨ j = 14 ∨ j = 15 ∨ j = 16 ∨ j = 17 ∨ j = 18 ∨ j = 19 ∨ j = 20 ∨ j = 21 ∨ j = 22 ∨ j = 23 ∨ j = 24 ∨ j = 25 ∨ j = 26 ∨ j = 27 ∨ j = 28 ∨ j = 29 ∨ j = 30 ∨ j = 31 by omega) with rfl | rfl | rfl | rfl | rfl | rfl | rfl | rfl | rfl | rfl | rfl | rfl | rfl | rfl | rfl | rfl | rfl | rfl | rfl | rfl | rfl | rfl | rfl | rfl | rfl | rfl | rfl | rfl | rfl | rfl | rfl | rfl
  · refine lv_tableIn (off := 108) (tgt := 148) hx hb dL_law_40 (by decide) (by decide) (by decide) (by decide) ?_
    exact lk_0 C0 hK hP hD hS hl
  · refine lv_tableIn (off := 181) (tgt := 221) hx hb dL_law_40 (by decide) (by decide) (by decide) (by decide) ?_
    by_cases hh : xs 1 = 0
    · exact lk_1a C0 hh hK hP hD hS hl
    · exact lk_1b C0 hh hK hP hD hS hl
  · refine lv_tableIn (off := 206) (tgt := 246) hx hb dL_law_40 (by decide) (by decide) (by decide) (by decide) ?_
    exact lk_2 C0 hK hP hD hS hl
  · refine lv_tableIn (off := 255) (tgt := 295) hx hb dL_law_40 (by decide) (by decide) (by decide) (by decide) ?_
    exact lk_3 C0 hK hP hD hS hl
  · refine lv_tableIn (off := 304) (tgt := 344) hx hb dL_law_40 (by decide) (by decide) (by decide) (by decide) ?_
    exact lk_4 C0 hK hP hD hS hl
  · refine lv_tableIn (off := 365) (tgt := 405) hx hb dL_law_40 (by decide) (by decide) (by decide) (by decide) ?_
    exact lk_5 C0 hK hP hD hS hl
  · refine lv_tableIn (off := 402) (tgt := 442) hx hb dL_law_40 (by decide) (by decide) (by decide) (by decide) ?_
    exact lk_6 C0 hK hP hD hS hl
  · refine lv_tableIn (off := 470) (tgt := 510) hx hb dL_law_40 (by decide) (by decide) (by decide) (by decide) ?_
    exact lk_7 C0 hK hP hD hS hl
  · refine lv_tableIn (off := 519) (tgt := 559) hx hb dL_law_40 (by decide) (by decide) (by decide) (by decide) ?_
    exact lk_8 C0 hK hP hD hS hl
  · refine lv_tableIn (off := 556) (tgt := 596) hx hb dL_law_40 (by decide) (by decide) (by decide) (by decide) ?_
    exact lk_9 C0 hK hP hD hS hl
  · refine lv_tableIn (off := 593) (tgt := 633) hx hb dL_law_40 (by decide) (by decide) (by decide) (by decide) ?_
    exact lk_10 C0 hK hP hD hS hl
  · refine lv_tableIn (off := 654) (tgt := 694) hx hb dL_law_40 (by decide) (by decide) (by decide) (by decide) ?_
    exact lk_11 C0 hK hP hD hS hl
  · refine lv_tableIn (off := 715) (tgt := 755) hx hb dL_law_40 (by decide) (by decide) (by decide) (by decide) ?_
    exact lk_12 C0 hK hP hD hS hl
  · refine lv_tableIn (off := 752) (tgt := 792) hx hb dL_law_40 (by decide) (by decide) (by decide) (by decide) ?_
    exact lk_13 C0 hK hP hD hS hl
  · refine lv_tableIn (off := 789) (tgt := 829) hx hb dL_law_40 (by decide) (by decide) (by decide) (by decide) ?_
    exact lk_14 C0 hK hP hD hS hl
  · refine lv_tableIn (off := 814) (tgt := 854) hx hb dL_law_40 (by decide) (by decide) (by decide) (by decide) ?_
    exact lk_15 C0 hK hP hD hS hl
  · refine lv_tableIn (off := 839) (tgt := 879) hx hb dL_law_40 (by decide) (by decide) (by decide) (by decide) ?_
    exact lk_16 C0 hK hP hD hS hl
  · refine lv_tableIn (off := 907) (tgt := 947) hx hb dL_law_40 (by decide) (by decide) (by decide) (by decide) ?_
    exact lk_17 C0 hK hP hD hS hl
  · refine lv_tableIn (off := 962) (tgt := 1002) hx hb dL_law_40 (by decide) (by decide) (by decide) (by decide) ?_
    exact lk_18 C0 hK hP hD hS hl
  · refine lv_tableIn (off := 1030) (tgt := 1070) hx hb dL_law_40 (by decide) (by decide) (by decide) (by decide) ?_
    exact lk_19 C0 hK hP hD hS hl
  · refine lv_tableIn (off := 1079) (tgt := 1119) hx hb dL_law_40 (by decide) (by decide) (by decide) (by decide) ?_
    exact lk_20 C0 hK hP hD hS hl
  · refine lv_tableIn (off := 1128) (tgt := 1168) hx hb dL_law_40 (by decide) (by decide) (by decide) (by decide) ?_
    by_cases hh : xs 1 = (-1)
    · exact lk_21a C0 hh hK hP hD hS hl
    · exact lk_21b C0 hh hK hP hD hS hl
  · refine lv_tableIn (off := 1153) (tgt := 1193) hx hb dL_law_40 (by decide) (by decide) (by decide) (by decide) ?_
    by_cases hh : (xs 1).toInt < 0 ∨ 5 < (xs 1).toInt
    · exact lk_22x C0 hh hK hP hD hS hl
    · rcases (show (xs 1).toInt = 0 ∨ (xs 1).toInt = 1 ∨ (xs 1).toInt = 2 ∨ (xs 1).toInt = 3 ∨ (xs 1).toInt = 4 ∨ (xs 1).toInt = 5 by omega) with h9 | h9 | h9 | h9 | h9 | h9
      · exact lk_22_0 C0 (Int32.toInt_inj.mp (h9.trans (by decide))) hK hP hD hS hl
      · exact lk_22_1 C0 (Int32.toInt_inj.mp (h9.trans (by decide))) hK hP hD hS hl
      · exact lk_22_2 C0 (Int32.toInt_inj.mp (h9.trans (by decide))) hK hP hD hS hl
      · exact lk_22_3 C0 (Int32.toInt_inj.mp (h9.trans (by decide))) hK hP hD hS hl
      · exact lk_22_4 C0 (Int32.toInt_inj.mp (h9.trans (by decide))) hK hP hD hS hl
      · exact lk_22_5 C0 (Int32.toInt_inj.mp (h9.trans (by decide))) hK hP hD hS hl
  · refine lv_tableOut (tgt := 1218) hx hb dL_law_40 (by decide) (by decide) ?_
    exact law_end C0 _ _ _ _ _ (Nat.le_of_ble_eq_true rfl) (Nat.le_of_ble_eq_true rfl) hS (lv_sub hl [0, 4] rfl)
  · refine lv_tableOut (tgt := 1218) hx hb dL_law_40 (by decide) (by decide) ?_
    exact law_end C0 _ _ _ _ _ (Nat.le_of_ble_eq_true rfl) (Nat.le_of_ble_eq_true rfl) hS (lv_sub hl [0, 4] rfl)
  · refine lv_tableOut (tgt := 1218) hx hb dL_law_40 (by decide) (by decide) ?_
    exact law_end C0 _ _ _ _ _ (Nat.le_of_ble_eq_true rfl) (Nat.le_of_ble_eq_true rfl) hS (lv_sub hl [0, 4] rfl)
  · refine lv_tableOut (tgt := 1218) hx hb dL_law_40 (by decide) (by decide) ?_
    exact law_end C0 _ _ _ _ _ (Nat.le_of_ble_eq_true rfl) (Nat.le_of_ble_eq_true rfl) hS (lv_sub hl [0, 4] rfl)
  · refine lv_tableOut (tgt := 1218) hx hb dL_law_40 (by decide) (by decide) ?_
    exact law_end C0 _ _ _ _ _ (Nat.le_of_ble_eq_true rfl) (Nat.le_of_ble_eq_true rfl) hS (lv_sub hl [0, 4] rfl)
  · refine lv_tableOut (tgt := 1218) hx hb dL_law_40 (by decide) (by decide) ?_
    exact law_end C0 _ _ _ _ _ (Nat.le_of_ble_eq_true rfl) (Nat.le_of_ble_eq_true rfl) hS (lv_sub hl [0, 4] rfl)
  · refine lv_tableOut (tgt := 1218) hx hb dL_law_40 (by decide) (by decide) ?_
    exact law_end C0 _ _ _ _ _ (Nat.le_of_ble_eq_true rfl) (Nat.le_of_ble_eq_true rfl) hS (lv_sub hl [0, 4] rfl)
  · refine lv_tableOut (tgt := 1218) hx hb dL_law_40 (by decide) (by decide) ?_
    exact law_end C0 _ _ _ _ _ (Nat.le_of_ble_eq_true rfl) (Nat.le_of_ble_eq_true rfl) hS (lv_sub hl [0, 4] rfl)
  · refine lv_tableOut (tgt := 1218) hx hb dL_law_40 (by decide) (by decide) ?_
    exact law_end C0 _ _ _ _ _ (Nat.le_of_ble_eq_true rfl) (Nat.le_of_ble_eq_true rfl) hS (lv_sub hl [0, 4] rfl)
