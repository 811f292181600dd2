set_option maxRecDepth 100000 in
set_option maxHeartbeats 4000000 in
/-- readers -/
theorem lk_12 {p : Program} {l : Launch} {e : Env} {s : State} {m : MethodId} {below : List Frame} {meth : Method} {c : Code} {sc L : Nat} {xs : Nat → Int32} {A : Nat → Prop} {dC : Nat → ClassId} {dI : Nat → Nat → Nat} {a b : Nat → Nat} {k k2 : Nat → ClassId} (C0 : lc_C p l s m meth c sc L xs A dC dI k k2) (hL : L ≤ 3072) {t : Nat} (ht : 6 * t + 6 ≤ L) {σ τ : ST} {qa : Int32 × ST} {qb : Int32 × ST} (ha : f_X10_readers (xs (6 * t + 1)) (xs (6 * t + 2)) σ = some qa) (hb9 : f_X11_readers (xs (6 * t + 1)) (xs (6 * t + 2)) τ = some qb) {cells slots : Nat} (hcl : cells + 0 + 0 ≤ 601024) (hsl : slots + 0 + 0 ≤ 7293034) {d0 : Drawn} (hd0 : s.drawn.sameBut d0 lw_cs) {H : Heap} {locs : List Loc} {ls : Array Slot} (hPA : va_P (dC, dI) vwCl (wA a k σ) H) (hPB : va_P (dC, dI) vwCl (wB b k2 τ) H) (hD : va_D A (wA a k σ ++ wB b k2 τ)) (hS : va_S A s.heap H locs) (hl : lv_has ls 8 [(4, .int (nI (6 * t))), (3, .ref (a 95)), (2, .ref (b 0)), (1, .ref (a 0)), (0, .ref sc)])
    (kk : ∀ (d0 : Drawn) (H : Heap) (locs : List Loc) (ls : Array Slot), s.drawn.sameBut d0 lw_cs → va_P (dC, dI) vwCl (wA a k qa.2) H → va_P (dC, dI) vwCl (wB b k2 qb.2) H → va_D A (wA a k qa.2 ++ wB b k2 qb.2) → va_S A s.heap H locs → lv_has ls 8 [(4, .int (nI (6 * t))), (3, .ref (a 95)), (2, .ref (b 0)), (1, .ref (a 0)), (0, .ref sc)] → W p l e room_1 (s.setDrawn d0) m #[Value.ref sc] below meth c H locs (cells + 0 + 0) (slots + 0 + 0) (lw_Z below #[Value.ref sc] s) (F0 m 1107 ls [])) : W p l e room_1 (s.setDrawn d0) m #[Value.ref sc] below meth c H locs (cells) (slots) (lw_Z below #[Value.ref sc] s) (F0 m 727 ls []) := by
  obtain ⟨hx, hb, hr, hml, hown, hts02, hXs0, hbl, hlocks, hst, hA, hA2, hV0, hN0, hKA0, hKB0⟩ := id C0
  have hbA : ¬ A sc := fun h => Nat.not_le.mpr hbl (hA2 sc h)
  have hts2 := dr_words hts02 d0
  have hts : ∀ w ∈ pw, w.before #[Value.ref sc] (s.setDrawn d0) = true := fun w h => hts2 w (pw_to2 h)
  have hN : nN (s.setDrawn d0) := nN.same (u := s) (U := s.setDrawn d0) rfl hN0
  have hKA : va_K (dC, dI) vwCl (tA k) (s.setDrawn d0) := va_K.moved (u := s) (U := s.setDrawn d0) (Vm.Alike.refl s.vm) hKA0
  have hKB : va_K (dC, dI) vwCl (tB k2) (s.setDrawn d0) := va_K.moved (u := s) (U := s.setDrawn d0) (Vm.Alike.refl s.vm) hKB0
  have hXs : va_X sc L xs (s.setDrawn d0) (s.setDrawn d0).heap := va_X.moved (u := s) (U := s.setDrawn d0) (Vm.Alike.refl s.vm) hXs0
  refine lv_aload_n hx hb dL_law_727 rfl (lv_at hl 3 rfl) ?_
  refine la_ld1 (s := s.setDrawn d0) hx hb hXs hbl hbA hS hL ht (lv_at hl 4 rfl) (lv_at hl 0 rfl) dL_law_728 dL_law_729 dL_law_731 dL_law_732 dL_law_733 ?_
  refine la_ld2 (s := s.setDrawn d0) hx hb hXs hbl hbA hS hL ht (lv_at hl 4 rfl) (lv_at hl 0 rfl) dL_law_734 dL_law_735 dL_law_737 dL_law_738 dL_law_739 ?_
  have hDA := va_D_left hD
  have hDB := va_D_right hD
  have hF := va_frees hDA hS hA
  refine va_calli (va_runV (As := [.int (xs (6 * t + 1)), .int (xs (6 * t + 2))]) (rest := []) ⟨hx, hb, hml, hown, hts⟩ (s_X10_readers ha) (cwV 2 hts (gV mw_44_1 mw_44_2 mw_44_3 mw_0_14 mw_53_9) rfl rfl rfl (by decide +kernel) ⟨(Nat.le_of_ble_eq_true rfl), (Nat.le_of_ble_eq_true rfl)⟩) (vV (ci := 10) (q0 := 0) hKA hPA hDA hN rfl gA_0) rfl rfl hl.1 rfl (lv_room (Nat.le_of_ble_eq_true rfl)) dL_law_740 ⟨by show cells + 0 ≤ 601024; omega, by show slots + 0 ≤ 7293034; omega⟩) hS (fun q _ h => hF q h) hF (fun r9 u t9 H1 locs ht9 hvm hw hB _ hk hS => ?_)
  obtain rfl : r9 = qa.1 := hw
  replace hPA : va_P (dC, dI) vwCl (wA a k qa.2) H1 := by rw [← ht9]; exact hB.1
  replace hPB := keepB hPB hD hk
  replace hD : va_D A (wA a k qa.2 ++ wB b k2 τ) := wAB_D hD
  clear hB hF hk hvm
  refine lv_pop hx hb dL_law_743 rfl ?_
  refine lv_aload_n hx hb dL_law_744 rfl (lv_at hl 2 rfl) ?_
  refine la_ld1 (s := s.setDrawn d0) hx hb hXs hbl hbA hS hL ht (lv_at hl 4 rfl) (lv_at hl 0 rfl) dL_law_745 dL_law_746 dL_law_748 dL_law_749 dL_law_750 ?_
  refine la_ld2 (s := s.setDrawn d0) hx hb hXs hbl hbA hS hL ht (lv_at hl 4 rfl) (lv_at hl 0 rfl) dL_law_751 dL_law_752 dL_law_754 dL_law_755 dL_law_756 ?_
  replace hDA := va_D_left hD
  replace hDB := va_D_right hD
  have hF := va_frees hDB hS hA
  refine va_calli (va_runV (As := [.int (xs (6 * t + 1)), .int (xs (6 * t + 2))]) (rest := []) ⟨hx, hb, hml, hown, hts⟩ (s_X11_readers hb9) (cwV 2 hts (gV mw_44_4 mw_44_5 mw_44_6 mw_0_15 mw_56_21) rfl rfl rfl (by decide +kernel) ⟨(Nat.le_of_ble_eq_true rfl), (Nat.le_of_ble_eq_true rfl)⟩) (vV (ci := 11) (q0 := 0) hKB hPB hDB hN rfl gB_0) rfl rfl hl.1 rfl (lv_room (Nat.le_of_ble_eq_true rfl)) dL_law_757 ⟨by show (cells + 0) + 0 ≤ 601024; omega, by show (slots + 0) + 0 ≤ 7293034; omega⟩) hS (fun q _ h => hF q h) hF (fun r8 u t9 H1 locs ht9 hvm hw hB _ hk hS => ?_)
  obtain rfl : r8 = qb.1 := hw
  replace hPB : va_P (dC, dI) vwCl (wB b k2 qb.2) H1 := by rw [← ht9]; exact hB.1
  replace hPA := keepA hPA hD hk
  replace hD : va_D A (wA a k qa.2 ++ wB b k2 qb.2) := wAB_D hD
  refine lv_pop hx hb dL_law_760 rfl ?_
  refine lv_goto (tgt := 1107) hx hb dL_law_761 (by decide) ?_
  exact kk d0 H1 locs _ hd0 hPA hPB hD hS (lv_sub hl [0, 1, 2, 3, 4] rfl)

set_option maxRecDepth 100000 in
set_option maxHeartbeats 4000000 in
/-- read -/
theorem lk_13 {p : Program} {l : Launch} {e : Env} {s : State} {m : MethodId} {below : List Frame} {meth : Method} {c : Code} {sc L : Nat} {xs : Nat → Int32} {A : Nat → Prop} {dC : Nat → ClassId} {dI : Nat → Nat → Nat} {a b : Nat → Nat} {k k2 : Nat → ClassId} (C0 : lc_C p l s m meth c sc L xs A dC dI k k2) (hL : L ≤ 3072) {t : Nat} (ht : 6 * t + 6 ≤ L) {σ τ : ST} {qa : Int32 × ST} {qb : Int32 × ST} (ha : f_X10_read (xs (6 * t + 1)) (xs (6 * t + 2)) σ = some qa) (hb9 : f_X11_read (xs (6 * t + 1)) (xs (6 * t + 2)) τ = some qb) {cells slots : Nat} (hcl : cells + 0 + 0 ≤ 601024) (hsl : slots + 0 + 0 ≤ 7293034) {d0 : Drawn} (hd0 : s.drawn.sameBut d0 lw_cs) {H : Heap} {locs : List Loc} {ls : Array Slot} (hPA : va_P (dC, dI) vwCl (wA a k σ) H) (hPB : va_P (dC, dI) vwCl (wB b k2 τ) H) (hD : va_D A (wA a k σ ++ wB b k2 τ)) (hS : va_S A s.heap H locs) (hl : lv_has ls 8 [(4, .int (nI (6 * t))), (3, .ref (a 95)), (2, .ref (b 0)), (1, .ref (a 0)), (0, .ref sc)])
    (kk : ∀ (d0 : Drawn) (H : Heap) (locs : List Loc) (ls : Array Slot), s.drawn.sameBut d0 lw_cs → va_P (dC, dI) vwCl (wA a k qa.2) H → va_P (dC, dI) vwCl (wB b k2 qb.2) H → va_D A (wA a k qa.2 ++ wB b k2 qb.2) → va_S A s.heap H locs → lv_has ls 8 [(4, .int (nI (6 * t))), (3, .ref (a 95)), (2, .ref (b 0)), (1, .ref (a 0)), (0, .ref sc)] → W p l e room_1 (s.setDrawn d0) m #[Value.ref sc] below meth c H locs (cells + 0 + 0) (slots + 0 + 0) (lw_Z below #[Value.ref sc] s) (F0 m 1107 ls [])) : W p l e room_1 (s.setDrawn d0) m #[Value.ref sc] below meth c H locs (cells) (slots) (lw_Z below #[Value.ref sc] s) (F0 m 764 ls []) := by
  obtain ⟨hx, hb, hr, hml, hown, hts02, hXs0, hbl, hlocks, hst, hA, hA2, hV0, hN0, hKA0, hKB0⟩ := id C0
  have hbA : ¬ A sc := fun h => Nat.not_le.mpr hbl (hA2 sc h)
  have hts2 := dr_words hts02 d0
  have hts : ∀ w ∈ pw, w.before #[Value.ref sc] (s.setDrawn d0) = true := fun w h => hts2 w (pw_to2 h)
  have hN : nN (s.setDrawn d0) := nN.same (u := s) (U := s.setDrawn d0) rfl hN0
  have hKA : va_K (dC, dI) vwCl (tA k) (s.setDrawn d0) := va_K.moved (u := s) (U := s.setDrawn d0) (Vm.Alike.refl s.vm) hKA0
  have hKB : va_K (dC, dI) vwCl (tB k2) (s.setDrawn d0) := va_K.moved (u := s) (U := s.setDrawn d0) (Vm.Alike.refl s.vm) hKB0
  have hXs : va_X sc L xs (s.setDrawn d0) (s.setDrawn d0).heap := va_X.moved (u := s) (U := s.setDrawn d0) (Vm.Alike.refl s.vm) hXs0
  refine lv_aload_n hx hb dL_law_764 rfl (lv_at hl 3 rfl) ?_
  refine la_ld1 (s := s.setDrawn d0) hx hb hXs hbl hbA hS hL ht (lv_at hl 4 rfl) (lv_at hl 0 rfl) dL_law_765 dL_law_766 dL_law_768 dL_law_769 dL_law_770 ?_
  refine la_ld2 (s := s.setDrawn d0) hx hb hXs hbl hbA hS hL ht (lv_at hl 4 rfl) (lv_at hl 0 rfl) dL_law_771 dL_law_772 dL_law_774 dL_law_775 dL_law_776 ?_
  have hDA := va_D_left hD
  have hDB := va_D_right hD
  have hF := va_frees hDA hS hA
  refine va_calli (va_runV (As := [.int (xs (6 * t + 1)), .int (xs (6 * t + 2))]) (rest := []) ⟨hx, hb, hml, hown, hts⟩ (s_X10_read ha) (cwV 2 hts (gV mw_44_7 mw_44_8 mw_44_9 mw_0_14 mw_53_10) rfl rfl rfl (by decide +kernel) ⟨(Nat.le_of_ble_eq_true rfl), (Nat.le_of_ble_eq_true rfl)⟩) (vV (ci := 10) (q0 := 0) hKA hPA hDA hN rfl gA_0) rfl rfl hl.1 rfl (lv_room (Nat.le_of_ble_eq_true rfl)) dL_law_777 ⟨by show cells + 0 ≤ 601024; omega, by show slots + 0 ≤ 7293034; omega⟩) hS (fun q _ h => hF q h) hF (fun r9 u t9 H1 locs ht9 hvm hw hB _ hk hS => ?_)
  obtain rfl : r9 = qa.1 := hw
  replace hPA : va_P (dC, dI) vwCl (wA a k qa.2) H1 := by rw [← ht9]; exact hB.1
  replace hPB := keepB hPB hD hk
  replace hD : va_D A (wA a k qa.2 ++ wB b k2 τ) := wAB_D hD
  clear hB hF hk hvm
  refine lv_pop hx hb dL_law_780 rfl ?_
  refine lv_aload_n hx hb dL_law_781 rfl (lv_at hl 2 rfl) ?_
  refine la_ld1 (s := s.setDrawn d0) hx hb hXs hbl hbA hS hL ht (lv_at hl 4 rfl) (lv_at hl 0 rfl) dL_law_782 dL_law_783 dL_law_785 dL_law_786 dL_law_787 ?_
  refine la_ld2 (s := s.setDrawn d0) hx hb hXs hbl hbA hS hL ht (lv_at hl 4 rfl) (lv_at hl 0 rfl) dL_law_788 dL_law_789 dL_law_791 dL_law_792 dL_law_793 ?_
  replace hDA := va_D_left hD
  replace hDB := va_D_right hD
  have hF := va_frees hDB hS hA
  refine va_calliD hd0 (va_runV_D (As := [.int (xs (6 * t + 1)), .int (xs (6 * t + 2))]) (rest := []) ⟨hx, hb, hml, hown, hts⟩ (s_X11_read hb9) (cwV 2 hts (gV mw_44_10 mw_44_11 mw_44_12 mw_0_15 mw_57_6) rfl rfl rfl (by decide +kernel) ⟨(Nat.le_of_ble_eq_true rfl), (Nat.le_of_ble_eq_true rfl)⟩) (vV (ci := 11) (q0 := 0) hKB hPB hDB hN rfl gB_0) rfl rfl hl.1 rfl (lv_room (Nat.le_of_ble_eq_true rfl)) dL_law_794 ⟨by show (cells + 0) + 0 ≤ 601024; omega, by show (slots + 0) + 0 ≤ 7293034; omega⟩) hS (fun q _ h => hF q h) hF (fun r8 u t9 H1 locs ht9 hvm hw hB _ hk hS d0 hd0 => ?_)
  obtain rfl : r8 = qb.1 := hw
  replace hPB : va_P (dC, dI) vwCl (wB b k2 qb.2) H1 := by rw [← ht9]; exact hB.1
  replace hPA := keepA hPA hD hk
  replace hD : va_D A (wA a k qa.2 ++ wB b k2 qb.2) := wAB_D hD
  refine lv_pop hx hb dL_law_797 rfl ?_
  refine lv_goto (tgt := 1107) hx hb dL_law_798 (by decide) ?_
  exact kk d0 H1 locs _ hd0 hPA hPB hD hS (lv_sub hl [0, 1, 2, 3, 4] rfl)

set_option maxRecDepth 100000 in
set_option maxHeartbeats 4000000 in
/-- failure -/
theorem lk_14 {p : Program} {l : Launch} {e : Env} {s : State} {m : MethodId} {below : List Frame} {meth : Method} {c : Code} {sc L : Nat} {xs : Nat → Int32} {A : Nat → Prop} {dC : Nat → ClassId} {dI : Nat → Nat → Nat} {a b : Nat → Nat} {k k2 : Nat → ClassId} (C0 : lc_C p l s m meth c sc L xs A dC dI k k2) (hL : L ≤ 3072) {t : Nat} (ht : 6 * t + 6 ≤ L) {σ τ : ST} {qa : Int32 × ST} {qb : Int32 × ST} (ha : f_X10_failure (xs (6 * t + 1)) σ = some qa) (hb9 : f_X11_failure (xs (6 * t + 1)) τ = some qb) {cells slots : Nat} (hcl : cells + 0 + 0 ≤ 601024) (hsl : slots + 0 + 0 ≤ 7293034) {d0 : Drawn} (hd0 : s.drawn.sameBut d0 lw_cs) {H : Heap} {locs : List Loc} {ls : Array Slot} (hPA : va_P (dC, dI) vwCl (wA a k σ) H) (hPB : va_P (dC, dI) vwCl (wB b k2 τ) H) (hD : va_D A (wA a k σ ++ wB b k2 τ)) (hS : va_S A s.heap H locs) (hl : lv_has ls 8 [(4, .int (nI (6 * t))), (3, .ref (a 95)), (2, .ref (b 0)), (1, .ref (a 0)), (0, .ref sc)])
    (kk : ∀ (d0 : Drawn) (H : Heap) (locs : List Loc) (ls : Array Slot), s.drawn.sameBut d0 lw_cs → va_P (dC, dI) vwCl (wA a k qa.2) H → va_P (dC, dI) vwCl (wB b k2 qb.2) H → va_D A (wA a k qa.2 ++ wB b k2 qb.2) → va_S A s.heap H locs → lv_has ls 8 [(4, .int (nI (6 * t))), (3, .ref (a 95)), (2, .ref (b 0)), (1, .ref (a 0)), (0, .ref sc)] → W p l e room_1 (s.setDrawn d0) m #[Value.ref sc] below meth c H locs (cells + 0 + 0) (slots + 0 + 0) (lw_Z below #[Value.ref sc] s) (F0 m 1107 ls [])) : W p l e room_1 (s.setDrawn d0) m #[Value.ref sc] below meth c H locs (cells) (slots) (lw_Z below #[Value.ref sc] s) (F0 m 801 ls []) := by
  obtain ⟨hx, hb, hr, hml, hown, hts02, hXs0, hbl, hlocks, hst, hA, hA2, hV0, hN0, hKA0, hKB0⟩ := id C0
  have hbA : ¬ A sc := fun h => Nat.not_le.mpr hbl (hA2 sc h)
  have hts2 := dr_words hts02 d0
  have hts : ∀ w ∈ pw, w.before #[Value.ref sc] (s.setDrawn d0) = true := fun w h => hts2 w (pw_to2 h)
  have hN : nN (s.setDrawn d0) := nN.same (u := s) (U := s.setDrawn d0) rfl hN0
  have hKA : va_K (dC, dI) vwCl (tA k) (s.setDrawn d0) := va_K.moved (u := s) (U := s.setDrawn d0) (Vm.Alike.refl s.vm) hKA0
  have hKB : va_K (dC, dI) vwCl (tB k2) (s.setDrawn d0) := va_K.moved (u := s) (U := s.setDrawn d0) (Vm.Alike.refl s.vm) hKB0
  have hXs : va_X sc L xs (s.setDrawn d0) (s.setDrawn d0).heap := va_X.moved (u := s) (U := s.setDrawn d0) (Vm.Alike.refl s.vm) hXs0
  refine lv_aload_n hx hb dL_law_801 rfl (lv_at hl 3 rfl) ?_
  refine la_ld1 (s := s.setDrawn d0) hx hb hXs hbl hbA hS hL ht (lv_at hl 4 rfl) (lv_at hl 0 rfl) dL_law_802 dL_law_803 dL_law_805 dL_law_806 dL_law_807 ?_
  have hDA := va_D_left hD
  have hDB := va_D_right hD
  have hF := va_frees hDA hS hA
  refine va_calli (va_runV (As := [.int (xs (6 * t + 1))]) (rest := []) ⟨hx, hb, hml, hown, hts⟩ (s_X10_failure ha) (cwV 1 hts (gV mw_44_13 mw_44_14 mw_44_15 mw_0_14 mw_53_11) rfl rfl rfl (by decide +kernel) ⟨(Nat.le_of_ble_eq_true rfl), (Nat.le_of_ble_eq_true rfl)⟩) (vV (ci := 10) (q0 := 0) hKA hPA hDA hN rfl gA_0) rfl rfl hl.1 rfl (lv_room (Nat.le_of_ble_eq_true rfl)) dL_law_808 ⟨by show cells + 0 ≤ 601024; omega, by show slots + 0 ≤ 7293034; omega⟩) hS (fun q _ h => hF q h) hF (fun r9 u t9 H1 locs ht9 hvm hw hB _ hk hS => ?_)
  obtain rfl : r9 = qa.1 := hw
  replace hPA : va_P (dC, dI) vwCl (wA a k qa.2) H1 := by rw [← ht9]; exact hB.1
  replace hPB := keepB hPB hD hk
  replace hD : va_D A (wA a k qa.2 ++ wB b k2 τ) := wAB_D hD
  clear hB hF hk hvm
  refine lv_pop hx hb dL_law_811 rfl ?_
  refine lv_aload_n hx hb dL_law_812 rfl (lv_at hl 2 rfl) ?_
  refine la_ld1 (s := s.setDrawn d0) hx hb hXs hbl hbA hS hL ht (lv_at hl 4 rfl) (lv_at hl 0 rfl) dL_law_813 dL_law_814 dL_law_816 dL_law_817 dL_law_818 ?_
  replace hDA := va_D_left hD
  replace hDB := va_D_right hD
  have hF := va_frees hDB hS hA
  refine va_calli (va_runV (As := [.int (xs (6 * t + 1))]) (rest := []) ⟨hx, hb, hml, hown, hts⟩ (s_X11_failure hb9) (cwV 1 hts (gV mw_44_16 mw_44_17 mw_44_18 mw_0_15 mw_57_7) rfl rfl rfl (by decide +kernel) ⟨(Nat.le_of_ble_eq_true rfl), (Nat.le_of_ble_eq_true rfl)⟩) (vV (ci := 11) (q0 := 0) hKB hPB hDB hN rfl gB_0) rfl rfl hl.1 rfl (lv_room (Nat.le_of_ble_eq_true rfl)) dL_law_819 ⟨by show (cells + 0) + 0 ≤ 601024; omega, by show (slots + 0) + 0 ≤ 7293034; omega⟩) hS (fun q _ h => hF q h) hF (fun r8 u t9 H1 locs ht9 hvm hw hB _ hk hS => ?_)
  obtain rfl : r8 = qb.1 := hw
  replace hPB : va_P (dC, dI) vwCl (wB b k2 qb.2) H1 := by rw [← ht9]; exact hB.1
  replace hPA := keepA hPA hD hk
  replace hD : va_D A (wA a k qa.2 ++ wB b k2 qb.2) := wAB_D hD
  refine lv_pop hx hb dL_law_822 rfl ?_
  refine lv_goto (tgt := 1107) hx hb dL_law_823 (by decide) ?_
  exact kk d0 H1 locs _ hd0 hPA hPB hD hS (lv_sub hl [0, 1, 2, 3, 4] rfl)

set_option maxRecDepth 100000 in
set_option maxHeartbeats 4000000 in
/-- failureStep -/
theorem lk_15 {p : Program} {l : Launch} {e : Env} {s : State} {m : MethodId} {below : List Frame} {meth : Method} {c : Code} {sc L : Nat} {xs : Nat → Int32} {A : Nat → Prop} {dC : Nat → ClassId} {dI : Nat → Nat → Nat} {a b : Nat → Nat} {k k2 : Nat → ClassId} (C0 : lc_C p l s m meth c sc L xs A dC dI k k2) (hL : L ≤ 3072) {t : Nat} (ht : 6 * t + 6 ≤ L) {σ τ : ST} {qa : Int32 × ST} {qb : Int32 × ST} (ha : f_X10_failureStep (xs (6 * t + 1)) σ = some qa) (hb9 : f_X11_failureStep (xs (6 * t + 1)) τ = some qb) {cells slots : Nat} (hcl : cells + 0 + 0 ≤ 601024) (hsl : slots + 0 + 0 ≤ 7293034) {d0 : Drawn} (hd0 : s.drawn.sameBut d0 lw_cs) {H : Heap} {locs : List Loc} {ls : Array Slot} (hPA : va_P (dC, dI) vwCl (wA a k σ) H) (hPB : va_P (dC, dI) vwCl (wB b k2 τ) H) (hD : va_D A (wA a k σ ++ wB b k2 τ)) (hS : va_S A s.heap H locs) (hl : lv_has ls 8 [(4, .int (nI (6 * t))), (3, .ref (a 95)), (2, .ref (b 0)), (1, .ref (a 0)), (0, .ref sc)])
    (kk : ∀ (d0 : Drawn) (H : Heap) (locs : List Loc) (ls : Array Slot), s.drawn.sameBut d0 lw_cs → va_P (dC, dI) vwCl (wA a k qa.2) H → va_P (dC, dI) vwCl (wB b k2 qb.2) H → va_D A (wA a k qa.2 ++ wB b k2 qb.2) → va_S A s.heap H locs → lv_has ls 8 [(4, .int (nI (6 * t))), (3, .ref (a 95)), (2, .ref (b 0)), (1, .ref (a 0)), (0, .ref sc)] → W p l e room_1 (s.setDrawn d0) m #[Value.ref sc] below meth c H locs (cells + 0 + 0) (slots + 0 + 0) (lw_Z below #[Value.ref sc] s) (F0 m 1107 ls [])) : W p l e room_1 (s.setDrawn d0) m #[Value.ref sc] below meth c H locs (cells) (slots) (lw_Z below #[Value.ref sc] s) (F0 m 826 ls []) := by
  obtain ⟨hx, hb, hr, hml, hown, hts02, hXs0, hbl, hlocks, hst, hA, hA2, hV0, hN0, hKA0, hKB0⟩ := id C0
  have hbA : ¬ A sc := fun h => Nat.not_le.mpr hbl (hA2 sc h)
  have hts2 := dr_words hts02 d0
  have hts : ∀ w ∈ pw, w.before #[Value.ref sc] (s.setDrawn d0) = true := fun w h => hts2 w (pw_to2 h)
  have hN : nN (s.setDrawn d0) := nN.same (u := s) (U := s.setDrawn d0) rfl hN0
  have hKA : va_K (dC, dI) vwCl (tA k) (s.setDrawn d0) := va_K.moved (u := s) (U := s.setDrawn d0) (Vm.Alike.refl s.vm) hKA0
  have hKB : va_K (dC, dI) vwCl (tB k2) (s.setDrawn d0) := va_K.moved (u := s) (U := s.setDrawn d0) (Vm.Alike.refl s.vm) hKB0
  have hXs : va_X sc L xs (s.setDrawn d0) (s.setDrawn d0).heap := va_X.moved (u := s) (U := s.setDrawn d0) (Vm.Alike.refl s.vm) hXs0
  refine lv_aload_n hx hb dL_law_826 rfl (lv_at hl 3 rfl) ?_
  refine la_ld1 (s := s.setDrawn d0) hx hb hXs hbl hbA hS hL ht (lv_at hl 4 rfl) (lv_at hl 0 rfl) dL_law_827 dL_law_828 dL_law_830 dL_law_831 dL_law_832 ?_
  have hDA := va_D_left hD
  have hDB := va_D_right hD
  have hF := va_frees hDA hS hA
  refine va_calli (va_runV (As := [.int (xs (6 * t + 1))]) (rest := []) ⟨hx, hb, hml, hown, hts⟩ (s_X10_failureStep ha) (cwV 1 hts (gV mw_44_19 mw_44_20 mw_44_21 mw_0_14 mw_53_12) rfl rfl rfl (by decide +kernel) ⟨(Nat.le_of_ble_eq_true rfl), (Nat.le_of_ble_eq_true rfl)⟩) (vV (ci := 10) (q0 := 0) hKA hPA hDA hN rfl gA_0) rfl rfl hl.1 rfl (lv_room (Nat.le_of_ble_eq_true rfl)) dL_law_833 ⟨by show cells + 0 ≤ 601024; omega, by show slots + 0 ≤ 7293034; omega⟩) hS (fun q _ h => hF q h) hF (fun r9 u t9 H1 locs ht9 hvm hw hB _ hk hS => ?_)
  obtain rfl : r9 = qa.1 := hw
  replace hPA : va_P (dC, dI) vwCl (wA a k qa.2) H1 := by rw [← ht9]; exact hB.1
  replace hPB := keepB hPB hD hk
  replace hD : va_D A (wA a k qa.2 ++ wB b k2 τ) := wAB_D hD
  clear hB hF hk hvm
  refine lv_pop hx hb dL_law_836 rfl ?_
  refine lv_aload_n hx hb dL_law_837 rfl (lv_at hl 2 rfl) ?_
  refine la_ld1 (s := s.setDrawn d0) hx hb hXs hbl hbA hS hL ht (lv_at hl 4 rfl) (lv_at hl 0 rfl) dL_law_838 dL_law_839 dL_law_841 dL_law_842 dL_law_843 ?_
  replace hDA := va_D_left hD
  replace hDB := va_D_right hD
  have hF := va_frees hDB hS hA
  refine va_calli (va_runV (As := [.int (xs (6 * t + 1))]) (rest := []) ⟨hx, hb, hml, hown, hts⟩ (s_X11_failureStep hb9) (cwV 1 hts (gV mw_44_22 mw_44_23 mw_44_24 mw_0_15 mw_57_8) rfl rfl rfl (by decide +kernel) ⟨(Nat.le_of_ble_eq_true rfl), (Nat.le_of_ble_eq_true rfl)⟩) (vV (ci := 11) (q0 := 0) hKB hPB hDB hN rfl gB_0) rfl rfl hl.1 rfl (lv_room (Nat.le_of_ble_eq_true rfl)) dL_law_844 ⟨by show (cells + 0) + 0 ≤ 601024; omega, by show (slots + 0) + 0 ≤ 7293034; omega⟩) hS (fun q _ h => hF q h) hF (fun r8 u t9 H1 locs ht9 hvm hw hB _ hk hS => ?_)
  obtain rfl : r8 = qb.1 := hw
  replace hPB : va_P (dC, dI) vwCl (wB b k2 qb.2) H1 := by rw [← ht9]; exact hB.1
  replace hPA := keepA hPA hD hk
  replace hD : va_D A (wA a k qa.2 ++ wB b k2 qb.2) := wAB_D hD
  refine lv_pop hx hb dL_law_847 rfl ?_
  refine lv_goto (tgt := 1107) hx hb dL_law_848 (by decide) ?_
  exact kk d0 H1 locs _ hd0 hPA hPB hD hS (lv_sub hl [0, 1, 2, 3, 4] rfl)

set_option maxRecDepth 100000 in
set_option maxHeartbeats 4000000 in
/-- node -/
theorem lk_16 {p : Program} {l : Launch} {e : Env} {s : State} {m : MethodId} {below : List Frame} {meth : Method} {c : Code} {sc L : Nat} {xs : Nat → Int32} {A : Nat → Prop} {dC : Nat → ClassId} {dI : Nat → Nat → Nat} {a b : Nat → Nat} {k k2 : Nat → ClassId} (C0 : lc_C p l s m meth c sc L xs A dC dI k k2) (hL : L ≤ 3072) {t : Nat} (ht : 6 * t + 6 ≤ L) {σ τ : ST} {qa : Int32 × ST} {qb : Int32 × ST} (ha : f_L_node (xs (6 * t + 1)) (xs (6 * t + 2)) σ = some qa) (hb9 : f_X11_node (xs (6 * t + 1)) (xs (6 * t + 2)) τ = some qb) {cells slots : Nat} (hcl : cells + 1 + 0 ≤ 601024) (hsl : slots + 6 + 0 ≤ 7293034) {d0 : Drawn} (hd0 : s.drawn.sameBut d0 lw_cs) {H : Heap} {locs : List Loc} {ls : Array Slot} (hPA : va_P (dC, dI) vwCl (wA a k σ) H) (hPB : va_P (dC, dI) vwCl (wB b k2 τ) H) (hD : va_D A (wA a k σ ++ wB b k2 τ)) (hS : va_S A s.heap H locs) (hl : lv_has ls 8 [(4, .int (nI (6 * t))), (3, .ref (a 95)), (2, .ref (b 0)), (1, .ref (a 0)), (0, .ref sc)])
    (kk : ∀ (d0 : Drawn) (H : Heap) (locs : List Loc) (ls : Array Slot), s.drawn.sameBut d0 lw_cs → va_P (dC, dI) vwCl (wA a k qa.2) H → va_P (dC, dI) vwCl (wB b k2 qb.2) H → va_D A (wA a k qa.2 ++ wB b k2 qb.2) → va_S A s.heap H locs → lv_has ls 8 [(4, .int (nI (6 * t))), (3, .ref (a 95)), (2, .ref (b 0)), (1, .ref (a 0)), (0, .ref sc)] → W p l e room_1 (s.setDrawn d0) m #[Value.ref sc] below meth c H locs (cells + 1 + 0) (slots + 6 + 0) (lw_Z below #[Value.ref sc] s) (F0 m 1107 ls [])) : W p l e room_1 (s.setDrawn d0) m #[Value.ref sc] below meth c H locs (cells) (slots) (lw_Z below #[Value.ref sc] s) (F0 m 851 ls []) := by
  obtain ⟨hx, hb, hr, hml, hown, hts02, hXs0, hbl, hlocks, hst, hA, hA2, hV0, hN0, hKA0, hKB0⟩ := id C0
  have hbA : ¬ A sc := fun h => Nat.not_le.mpr hbl (hA2 sc h)
  have hts2 := dr_words hts02 d0
  have hts : ∀ w ∈ pw, w.before #[Value.ref sc] (s.setDrawn d0) = true := fun w h => hts2 w (pw_to2 h)
  have hN : nN (s.setDrawn d0) := nN.same (u := s) (U := s.setDrawn d0) rfl hN0
  have hKA : va_K (dC, dI) vwCl (tA k) (s.setDrawn d0) := va_K.moved (u := s) (U := s.setDrawn d0) (Vm.Alike.refl s.vm) hKA0
  have hKB : va_K (dC, dI) vwCl (tB k2) (s.setDrawn d0) := va_K.moved (u := s) (U := s.setDrawn d0) (Vm.Alike.refl s.vm) hKB0
  have hXs : va_X sc L xs (s.setDrawn d0) (s.setDrawn d0).heap := va_X.moved (u := s) (U := s.setDrawn d0) (Vm.Alike.refl s.vm) hXs0
  refine lv_aload_n hx hb dL_law_851 rfl (lv_at hl 3 rfl) ?_
  refine la_ld1 (s := s.setDrawn d0) hx hb hXs hbl hbA hS hL ht (lv_at hl 4 rfl) (lv_at hl 0 rfl) dL_law_852 dL_law_853 dL_law_855 dL_law_856 dL_law_857 ?_
  refine la_ld2 (s := s.setDrawn d0) hx hb hXs hbl hbA hS hL ht (lv_at hl 4 rfl) (lv_at hl 0 rfl) dL_law_858 dL_law_859 dL_law_861 dL_law_862 dL_law_863 ?_
  have hDA := va_D_left hD
  have hDB := va_D_right hD
  have hF := va_frees hDA hS hA
  refine lv_aload_n hx hb dL_law_864 rfl (lv_at hl 1 rfl) ?_
  have hV : vt A (s.setDrawn d0) (s.setDrawn d0).heap := hV0.drawn
  refine vx_calli (vx_runSX (As := [.ref (a 0), .int (xs (6 * t + 1)), .int (xs (6 * t + 2)), .ref (a 95)]) (rest := []) ⟨hx, hb, hml, hown, hts2⟩ (s_L_node hst ha) (vx_cwSW 4 hts2 (gSW2 mw_44_25 mw_44_26 (pw_to2 mw_42_27) mw_58_6) rfl rfl rfl (by decide +kernel) ⟨(Nat.le_of_ble_eq_true rfl), (Nat.le_of_ble_eq_true rfl)⟩) (vST hKA hPA hDA hN hV hS hF) rfl rfl hl.1 rfl (lv_room (Nat.le_of_ble_eq_true rfl)) dL_law_865 ⟨by show cells + 1 ≤ 601024; omega, by show slots + 6 ≤ 7293034; omega⟩) hS (fun q _ h => hF q h) hF (fun q _ h => hF q h) (fun E ce q9 u t9 H1 locs ht9 hvm hw hB _ _ hS h91 h92 h93 => hw.elim) (fun r9 u t9 H1 locs ht9 hvm hw hB _ hk hS => ?_)
  obtain rfl : r9 = qa.1 := hw
  replace hPA : va_P (dC, dI) vwCl (wA a k qa.2) H1 := by rw [← ht9]; exact hB.1
  replace hPB := keepB hPB hD hk
  replace hD : va_D A (wA a k qa.2 ++ wB b k2 τ) := wAB_D hD
  clear hB hF hk hvm
  refine lv_istore (lv' := [(5, .int qa.1), (4, .int (nI (6 * t))), (3, .ref (a 95)), (2, .ref (b 0)), (1, .ref (a 0)), (0, .ref sc)]) hx hb dL_law_868 hl (by decide) rfl (fun ls hl => ?_)
  refine lv_aload_n hx hb dL_law_870 rfl (lv_at hl 3 rfl) ?_
  refine la_ld1 (s := s.setDrawn d0) hx hb hXs hbl hbA hS hL ht (lv_at hl 5 rfl) (lv_at hl 1 rfl) dL_law_871 dL_law_872 dL_law_874 dL_law_875 dL_law_876 ?_
  refine la_ld2 (s := s.setDrawn d0) hx hb hXs hbl hbA hS hL ht (lv_at hl 5 rfl) (lv_at hl 1 rfl) dL_law_877 dL_law_878 dL_law_880 dL_law_881 dL_law_882 ?_
  replace hDA := va_D_left hD
  replace hDB := va_D_right hD
  have hF := va_frees hDB hS hA
  refine va_calli (va_runV (As := [.int (xs (6 * t + 1)), .int (xs (6 * t + 2))]) (rest := []) ⟨hx, hb, hml, hown, hts⟩ (s_X11_node hb9) (cwV 2 hts (gV mw_44_27 mw_44_28 mw_44_29 mw_0_15 mw_57_9) rfl rfl rfl (by decide +kernel) ⟨(Nat.le_of_ble_eq_true rfl), (Nat.le_of_ble_eq_true rfl)⟩) (vV (ci := 11) (q0 := 0) hKB hPB hDB hN rfl gB_0) rfl rfl hl.1 rfl (lv_room (Nat.le_of_ble_eq_true rfl)) dL_law_883 ⟨by show (cells + 1) + 0 ≤ 601024; omega, by show (slots + 6) + 0 ≤ 7293034; omega⟩) hS (fun q _ h => hF q h) hF (fun r8 u t9 H1 locs ht9 hvm hw hB _ hk hS => ?_)
  obtain rfl : r8 = qb.1 := hw
  replace hPB : va_P (dC, dI) vwCl (wB b k2 qb.2) H1 := by rw [← ht9]; exact hB.1
  replace hPA := keepA hPA hD hk
  replace hD : va_D A (wA a k qa.2 ++ wB b k2 qb.2) := wAB_D hD
  refine lv_istore (lv' := [(6, .int qb.1), (5, .int qa.1), (4, .int (nI (6 * t))), (3, .ref (a 95)), (2, .ref (b 0)), (1, .ref (a 0)), (0, .ref sc)]) hx hb dL_law_886 hl (by decide) rfl (fun ls hl => ?_)
  refine lv_goto (tgt := 1107) hx hb dL_law_888 (by decide) ?_
  exact kk d0 H1 locs _ hd0 hPA hPB hD hS (lv_sub hl [2, 3, 4, 5, 6] rfl)

set_option maxRecDepth 100000 in
set_option maxHeartbeats 4000000 in
/-- value -/
theorem lk_17 {p : Program} {l : Launch} {e : Env} {s : State} {m : MethodId} {below : List Frame} {meth : Method} {c : Code} {sc L : Nat} {xs : Nat → Int32} {A : Nat → Prop} {dC : Nat → ClassId} {dI : Nat → Nat → Nat} {a b : Nat → Nat} {k k2 : Nat → ClassId} (C0 : lc_C p l s m meth c sc L xs A dC dI k k2) (hL : L ≤ 3072) {t : Nat} (ht : 6 * t + 6 ≤ L) {σ τ : ST} {qa : Int32 × ST} {qb : Int64 × ST} (ha : f_L_value (xs (6 * t + 1)) σ = some qa) (hb9 : f_X11_value_ (xs (6 * t + 1)) τ = some qb) {cells slots : Nat} (hcl : cells + 1 + 0 ≤ 601024) (hsl : slots + 6 + 0 ≤ 7293034) {d0 : Drawn} (hd0 : s.drawn.sameBut d0 lw_cs) {H : Heap} {locs : List Loc} {ls : Array Slot} (hPA : va_P (dC, dI) vwCl (wA a k σ) H) (hPB : va_P (dC, dI) vwCl (wB b k2 τ) H) (hD : va_D A (wA a k σ ++ wB b k2 τ)) (hS : va_S A s.heap H locs) (hl : lv_has ls 8 [(4, .int (nI (6 * t))), (3, .ref (a 95)), (2, .ref (b 0)), (1, .ref (a 0)), (0, .ref sc)])
    (kk : ∀ (d0 : Drawn) (H : Heap) (locs : List Loc) (ls : Array Slot), s.drawn.sameBut d0 lw_cs → va_P (dC, dI) vwCl (wA a k qa.2) H → va_P (dC, dI) vwCl (wB b k2 qb.2) H → va_D A (wA a k qa.2 ++ wB b k2 qb.2) → va_S A s.heap H locs → lv_has ls 8 [(4, .int (nI (6 * t))), (3, .ref (a 95)), (2, .ref (b 0)), (1, .ref (a 0)), (0, .ref sc)] → W p l e room_1 (s.setDrawn d0) m #[Value.ref sc] below meth c H locs (cells + 1 + 0) (slots + 6 + 0) (lw_Z below #[Value.ref sc] s) (F0 m 1107 ls [])) : W p l e room_1 (s.setDrawn d0) m #[Value.ref sc] below meth c H locs (cells) (slots) (lw_Z below #[Value.ref sc] s) (F0 m 891 ls []) := by
  obtain ⟨hx, hb, hr, hml, hown, hts02, hXs0, hbl, hlocks, hst, hA, hA2, hV0, hN0, hKA0, hKB0⟩ := id C0
  have hbA : ¬ A sc := fun h => Nat.not_le.mpr hbl (hA2 sc h)
  have hts2 := dr_words hts02 d0
  have hts : ∀ w ∈ pw, w.before #[Value.ref sc] (s.setDrawn d0) = true := fun w h => hts2 w (pw_to2 h)
  have hN : nN (s.setDrawn d0) := nN.same (u := s) (U := s.setDrawn d0) rfl hN0
  have hKA : va_K (dC, dI) vwCl (tA k) (s.setDrawn d0) := va_K.moved (u := s) (U := s.setDrawn d0) (Vm.Alike.refl s.vm) hKA0
  have hKB : va_K (dC, dI) vwCl (tB k2) (s.setDrawn d0) := va_K.moved (u := s) (U := s.setDrawn d0) (Vm.Alike.refl s.vm) hKB0
  have hXs : va_X sc L xs (s.setDrawn d0) (s.setDrawn d0).heap := va_X.moved (u := s) (U := s.setDrawn d0) (Vm.Alike.refl s.vm) hXs0
  refine lv_aload_n hx hb dL_law_891 rfl (lv_at hl 3 rfl) ?_
  refine la_ld1 (s := s.setDrawn d0) hx hb hXs hbl hbA hS hL ht (lv_at hl 4 rfl) (lv_at hl 0 rfl) dL_law_892 dL_law_893 dL_law_895 dL_law_896 dL_law_897 ?_
  have hDA := va_D_left hD
  have hDB := va_D_right hD
  have hF := va_frees hDA hS hA
  refine lv_aload_n hx hb dL_law_898 rfl (lv_at hl 1 rfl) ?_
  have hV : vt A (s.setDrawn d0) (s.setDrawn d0).heap := hV0.drawn
  refine vx_calli (vx_runSX (As := [.ref (a 0), .int (xs (6 * t + 1)), .ref (a 95)]) (rest := []) ⟨hx, hb, hml, hown, hts2⟩ (s_L_value hst ha) (vx_cwSW 3 hts2 (gSW2 mw_45_0 mw_45_1 (pw_to2 mw_42_27) mw_58_7) rfl rfl rfl (by decide +kernel) ⟨(Nat.le_of_ble_eq_true rfl), (Nat.le_of_ble_eq_true rfl)⟩) (vST hKA hPA hDA hN hV hS hF) rfl rfl hl.1 rfl (lv_room (Nat.le_of_ble_eq_true rfl)) dL_law_899 ⟨by show cells + 1 ≤ 601024; omega, by show slots + 6 ≤ 7293034; omega⟩) hS (fun q _ h => hF q h) hF (fun q _ h => hF q h) (fun E ce q9 u t9 H1 locs ht9 hvm hw hB _ _ hS h91 h92 h93 => hw.elim) (fun r9 u t9 H1 locs ht9 hvm hw hB _ hk hS => ?_)
  obtain rfl : r9 = qa.1 := hw
  replace hPA : va_P (dC, dI) vwCl (wA a k qa.2) H1 := by rw [← ht9]; exact hB.1
  replace hPB := keepB hPB hD hk
  replace hD : va_D A (wA a k qa.2 ++ wB b k2 τ) := wAB_D hD
  clear hB hF hk hvm
  refine lv_istore (lv' := [(5, .int qa.1), (4, .int (nI (6 * t))), (3, .ref (a 95)), (2, .ref (b 0)), (1, .ref (a 0)), (0, .ref sc)]) hx hb dL_law_902 hl (by decide) rfl (fun ls hl => ?_)
  refine lv_aload_n hx hb dL_law_904 rfl (lv_at hl 3 rfl) ?_
  refine la_ld1 (s := s.setDrawn d0) hx hb hXs hbl hbA hS hL ht (lv_at hl 5 rfl) (lv_at hl 1 rfl) dL_law_905 dL_law_906 dL_law_908 dL_law_909 dL_law_910 ?_
  replace hDA := va_D_left hD
  replace hDB := va_D_right hD
  have hF := va_frees hDB hS hA
  refine va_calll (va_runV (As := [.int (xs (6 * t + 1))]) (rest := []) ⟨hx, hb, hml, hown, hts⟩ (s_X11_value_ hb9) (cwV 1 hts (gV mw_45_2 mw_45_3 mw_45_4 mw_0_15 mw_57_10) rfl rfl rfl (by decide +kernel) ⟨(Nat.le_of_ble_eq_true rfl), (Nat.le_of_ble_eq_true rfl)⟩) (vV (ci := 11) (q0 := 0) hKB hPB hDB hN rfl gB_0) rfl rfl hl.1 rfl (lv_room (Nat.le_of_ble_eq_true rfl)) dL_law_911 ⟨by show (cells + 1) + 0 ≤ 601024; omega, by show (slots + 6) + 0 ≤ 7293034; omega⟩) hS (fun q _ h => hF q h) hF (fun r8 u t9 H1 locs ht9 hvm hw hB _ hk hS => ?_)
  obtain rfl : r8 = qb.1 := hw
  replace hPB : va_P (dC, dI) vwCl (wB b k2 qb.2) H1 := by rw [← ht9]; exact hB.1
  replace hPA := keepA hPA hD hk
  replace hD : va_D A (wA a k qa.2 ++ wB b k2 qb.2) := wAB_D hD
  refine lv_lstore (lv' := [(6, .long qb.1), (5, .int qa.1), (4, .int (nI (6 * t))), (3, .ref (a 95)), (2, .ref (b 0)), (1, .ref (a 0)), (0, .ref sc)]) hx hb dL_law_914 hl (by decide) rfl (fun ls hl => ?_)
  refine lv_goto (tgt := 1107) hx hb dL_law_916 (by decide) ?_
  exact kk d0 H1 locs _ hd0 hPA hPB hD hS (lv_sub hl [2, 3, 4, 5, 6] rfl)

set_option maxRecDepth 100000 in
set_option maxHeartbeats 4000000 in
/-- letter -/
theorem lk_18 {p : Program} {l : Launch} {e : Env} {s : State} {m : MethodId} {below : List Frame} {meth : Method} {c : Code} {sc L : Nat} {xs : Nat → Int32} {A : Nat → Prop} {dC : Nat → ClassId} {dI : Nat → Nat → Nat} {a b : Nat → Nat} {k k2 : Nat → ClassId} (C0 : lc_C p l s m meth c sc L xs A dC dI k k2) (hL : L ≤ 3072) {t : Nat} (ht : 6 * t + 6 ≤ L) {σ τ : ST} {qa : Int32 × ST} {qb : Int32 × ST} (ha : f_L_letter (xs (6 * t + 1)) (xs (6 * t + 2)) σ = some qa) (hb9 : f_X11_letter (xs (6 * t + 1)) (xs (6 * t + 2)) τ = some qb) {cells slots : Nat} (hcl : cells + 1 + 0 ≤ 601024) (hsl : slots + 6 + 0 ≤ 7293034) {d0 : Drawn} (hd0 : s.drawn.sameBut d0 lw_cs) {H : Heap} {locs : List Loc} {ls : Array Slot} (hPA : va_P (dC, dI) vwCl (wA a k σ) H) (hPB : va_P (dC, dI) vwCl (wB b k2 τ) H) (hD : va_D A (wA a k σ ++ wB b k2 τ)) (hS : va_S A s.heap H locs) (hl : lv_has ls 8 [(4, .int (nI (6 * t))), (3, .ref (a 95)), (2, .ref (b 0)), (1, .ref (a 0)), (0, .ref sc)])
    (kk : ∀ (d0 : Drawn) (H : Heap) (locs : List Loc) (ls : Array Slot), s.drawn.sameBut d0 lw_cs → va_P (dC, dI) vwCl (wA a k qa.2) H → va_P (dC, dI) vwCl (wB b k2 qb.2) H → va_D A (wA a k qa.2 ++ wB b k2 qb.2) → va_S A s.heap H locs → lv_has ls 8 [(4, .int (nI (6 * t))), (3, .ref (a 95)), (2, .ref (b 0)), (1, .ref (a 0)), (0, .ref sc)] → W p l e room_1 (s.setDrawn d0) m #[Value.ref sc] below meth c H locs (cells + 1 + 0) (slots + 6 + 0) (lw_Z below #[Value.ref sc] s) (F0 m 1107 ls [])) : W p l e room_1 (s.setDrawn d0) m #[Value.ref sc] below meth c H locs (cells) (slots) (lw_Z below #[Value.ref sc] s) (F0 m 919 ls []) := by
  obtain ⟨hx, hb, hr, hml, hown, hts02, hXs0, hbl, hlocks, hst, hA, hA2, hV0, hN0, hKA0, hKB0⟩ := id C0
  have hbA : ¬ A sc := fun h => Nat.not_le.mpr hbl (hA2 sc h)
  have hts2 := dr_words hts02 d0
  have hts : ∀ w ∈ pw, w.before #[Value.ref sc] (s.setDrawn d0) = true := fun w h => hts2 w (pw_to2 h)
  have hN : nN (s.setDrawn d0) := nN.same (u := s) (U := s.setDrawn d0) rfl hN0
  have hKA : va_K (dC, dI) vwCl (tA k) (s.setDrawn d0) := va_K.moved (u := s) (U := s.setDrawn d0) (Vm.Alike.refl s.vm) hKA0
  have hKB : va_K (dC, dI) vwCl (tB k2) (s.setDrawn d0) := va_K.moved (u := s) (U := s.setDrawn d0) (Vm.Alike.refl s.vm) hKB0
  have hXs : va_X sc L xs (s.setDrawn d0) (s.setDrawn d0).heap := va_X.moved (u := s) (U := s.setDrawn d0) (Vm.Alike.refl s.vm) hXs0
  refine lv_aload_n hx hb dL_law_919 rfl (lv_at hl 3 rfl) ?_
  refine la_ld1 (s := s.setDrawn d0) hx hb hXs hbl hbA hS hL ht (lv_at hl 4 rfl) (lv_at hl 0 rfl) dL_law_920 dL_law_921 dL_law_923 dL_law_924 dL_law_925 ?_
  refine la_ld2 (s := s.setDrawn d0) hx hb hXs hbl hbA hS hL ht (lv_at hl 4 rfl) (lv_at hl 0 rfl) dL_law_926 dL_law_927 dL_law_929 dL_law_930 dL_law_931 ?_
  have hDA := va_D_left hD
  have hDB := va_D_right hD
  have hF := va_frees hDA hS hA
  refine lv_aload_n hx hb dL_law_932 rfl (lv_at hl 1 rfl) ?_
  have hV : vt A (s.setDrawn d0) (s.setDrawn d0).heap := hV0.drawn
  refine vx_calli (vx_runSX (As := [.ref (a 0), .int (xs (6 * t + 1)), .int (xs (6 * t + 2)), .ref (a 95)]) (rest := []) ⟨hx, hb, hml, hown, hts2⟩ (s_L_letter hst ha) (vx_cwSW 4 hts2 (gSW2 mw_45_5 mw_45_6 (pw_to2 mw_42_27) mw_58_8) rfl rfl rfl (by decide +kernel) ⟨(Nat.le_of_ble_eq_true rfl), (Nat.le_of_ble_eq_true rfl)⟩) (vST hKA hPA hDA hN hV hS hF) rfl rfl hl.1 rfl (lv_room (Nat.le_of_ble_eq_true rfl)) dL_law_933 ⟨by show cells + 1 ≤ 601024; omega, by show slots + 6 ≤ 7293034; omega⟩) hS (fun q _ h => hF q h) hF (fun q _ h => hF q h) (fun E ce q9 u t9 H1 locs ht9 hvm hw hB _ _ hS h91 h92 h93 => hw.elim) (fun r9 u t9 H1 locs ht9 hvm hw hB _ hk hS => ?_)
  obtain rfl : r9 = qa.1 := hw
  replace hPA : va_P (dC, dI) vwCl (wA a k qa.2) H1 := by rw [← ht9]; exact hB.1
  replace hPB := keepB hPB hD hk
  replace hD : va_D A (wA a k qa.2 ++ wB b k2 τ) := wAB_D hD
  clear hB hF hk hvm
  refine lv_istore (lv' := [(5, .int qa.1), (4, .int (nI (6 * t))), (3, .ref (a 95)), (2, .ref (b 0)), (1, .ref (a 0)), (0, .ref sc)]) hx hb dL_law_936 hl (by decide) rfl (fun ls hl => ?_)
  refine lv_aload_n hx hb dL_law_938 rfl (lv_at hl 3 rfl) ?_
  refine la_ld1 (s := s.setDrawn d0) hx hb hXs hbl hbA hS hL ht (lv_at hl 5 rfl) (lv_at hl 1 rfl) dL_law_939 dL_law_940 dL_law_942 dL_law_943 dL_law_944 ?_
  refine la_ld2 (s := s.setDrawn d0) hx hb hXs hbl hbA hS hL ht (lv_at hl 5 rfl) (lv_at hl 1 rfl) dL_law_945 dL_law_946 dL_law_948 dL_law_949 dL_law_950 ?_
  replace hDA := va_D_left hD
  replace hDB := va_D_right hD
  have hF := va_frees hDB hS hA
  refine va_calli (va_runV (As := [.int (xs (6 * t + 1)), .int (xs (6 * t + 2))]) (rest := []) ⟨hx, hb, hml, hown, hts⟩ (s_X11_letter hb9) (cwV 2 hts (gV mw_45_7 mw_45_8 mw_45_9 mw_0_15 mw_57_11) rfl rfl rfl (by decide +kernel) ⟨(Nat.le_of_ble_eq_true rfl), (Nat.le_of_ble_eq_true rfl)⟩) (vV (ci := 11) (q0 := 0) hKB hPB hDB hN rfl gB_0) rfl rfl hl.1 rfl (lv_room (Nat.le_of_ble_eq_true rfl)) dL_law_951 ⟨by show (cells + 1) + 0 ≤ 601024; omega, by show (slots + 6) + 0 ≤ 7293034; omega⟩) hS (fun q _ h => hF q h) hF (fun r8 u t9 H1 locs ht9 hvm hw hB _ hk hS => ?_)
  obtain rfl : r8 = qb.1 := hw
  replace hPB : va_P (dC, dI) vwCl (wB b k2 qb.2) H1 := by rw [← ht9]; exact hB.1
  replace hPA := keepA hPA hD hk
  replace hD : va_D A (wA a k qa.2 ++ wB b k2 qb.2) := wAB_D hD
  refine lv_istore (lv' := [(6, .int qb.1), (5, .int qa.1), (4, .int (nI (6 * t))), (3, .ref (a 95)), (2, .ref (b 0)), (1, .ref (a 0)), (0, .ref sc)]) hx hb dL_law_954 hl (by decide) rfl (fun ls hl => ?_)
  refine lv_goto (tgt := 1107) hx hb dL_law_956 (by decide) ?_
  exact kk d0 H1 locs _ hd0 hPA hPB hD hS (lv_sub hl [2, 3, 4, 5, 6] rfl)

set_option maxRecDepth 100000 in
set_option maxHeartbeats 4000000 in
/-- convert -/
theorem lk_19 {p : Program} {l : Launch} {e : Env} {s : State} {m : MethodId} {below : List Frame} {meth : Method} {c : Code} {sc L : Nat} {xs : Nat → Int32} {A : Nat → Prop} {dC : Nat → ClassId} {dI : Nat → Nat → Nat} {a b : Nat → Nat} {k k2 : Nat → ClassId} (C0 : lc_C p l s m meth c sc L xs A dC dI k k2) (hL : L ≤ 3072) {t : Nat} (ht : 6 * t + 6 ≤ L) {σ τ : ST} {qa : Int32 × ST} {qb : Int32 × ST} (ha : f_X10_convert (xs (6 * t + 1)) (xs (6 * t + 2)) (xs (6 * t + 3)) σ = some qa) (hb9 : f_X11_convert (xs (6 * t + 1)) (xs (6 * t + 2)) (xs (6 * t + 3)) τ = some qb) {cells slots : Nat} (hcl : cells + 0 + 0 ≤ 601024) (hsl : slots + 0 + 0 ≤ 7293034) {d0 : Drawn} (hd0 : s.drawn.sameBut d0 lw_cs) {H : Heap} {locs : List Loc} {ls : Array Slot} (hPA : va_P (dC, dI) vwCl (wA a k σ) H) (hPB : va_P (dC, dI) vwCl (wB b k2 τ) H) (hD : va_D A (wA a k σ ++ wB b k2 τ)) (hS : va_S A s.heap H locs) (hl : lv_has ls 8 [(4, .int (nI (6 * t))), (3, .ref (a 95)), (2, .ref (b 0)), (1, .ref (a 0)), (0, .ref sc)])
    (kk : ∀ (d0 : Drawn) (H : Heap) (locs : List Loc) (ls : Array Slot), s.drawn.sameBut d0 lw_cs → va_P (dC, dI) vwCl (wA a k qa.2) H → va_P (dC, dI) vwCl (wB b k2 qb.2) H → va_D A (wA a k qa.2 ++ wB b k2 qb.2) → va_S A s.heap H locs → lv_has ls 8 [(4, .int (nI (6 * t))), (3, .ref (a 95)), (2, .ref (b 0)), (1, .ref (a 0)), (0, .ref sc)] → W p l e room_1 (s.setDrawn d0) m #[Value.ref sc] below meth c H locs (cells + 0 + 0) (slots + 0 + 0) (lw_Z below #[Value.ref sc] s) (F0 m 1107 ls [])) : W p l e room_1 (s.setDrawn d0) m #[Value.ref sc] below meth c H locs (cells) (slots) (lw_Z below #[Value.ref sc] s) (F0 m 959 ls []) := by
  obtain ⟨hx, hb, hr, hml, hown, hts02, hXs0, hbl, hlocks, hst, hA, hA2, hV0, hN0, hKA0, hKB0⟩ := id C0
  have hbA : ¬ A sc := fun h => Nat.not_le.mpr hbl (hA2 sc h)
  have hts2 := dr_words hts02 d0
  have hts : ∀ w ∈ pw, w.before #[Value.ref sc] (s.setDrawn d0) = true := fun w h => hts2 w (pw_to2 h)
  have hN : nN (s.setDrawn d0) := nN.same (u := s) (U := s.setDrawn d0) rfl hN0
  have hKA : va_K (dC, dI) vwCl (tA k) (s.setDrawn d0) := va_K.moved (u := s) (U := s.setDrawn d0) (Vm.Alike.refl s.vm) hKA0
  have hKB : va_K (dC, dI) vwCl (tB k2) (s.setDrawn d0) := va_K.moved (u := s) (U := s.setDrawn d0) (Vm.Alike.refl s.vm) hKB0
  have hXs : va_X sc L xs (s.setDrawn d0) (s.setDrawn d0).heap := va_X.moved (u := s) (U := s.setDrawn d0) (Vm.Alike.refl s.vm) hXs0
  refine lv_aload_n hx hb dL_law_959 rfl (lv_at hl 3 rfl) ?_
  refine la_ld1 (s := s.setDrawn d0) hx hb hXs hbl hbA hS hL ht (lv_at hl 4 rfl) (lv_at hl 0 rfl) dL_law_960 dL_law_961 dL_law_963 dL_law_964 dL_law_965 ?_
  refine la_ld2 (s := s.setDrawn d0) hx hb hXs hbl hbA hS hL ht (lv_at hl 4 rfl) (lv_at hl 0 rfl) dL_law_966 dL_law_967 dL_law_969 dL_law_970 dL_law_971 ?_
  refine la_ld3 (s := s.setDrawn d0) hx hb hXs hbl hbA hS hL ht (lv_at hl 4 rfl) (lv_at hl 0 rfl) dL_law_972 dL_law_973 dL_law_975 dL_law_976 dL_law_977 ?_
  have hDA := va_D_left hD
  have hDB := va_D_right hD
  have hF := va_frees hDA hS hA
  refine va_calli (va_runV (As := [.int (xs (6 * t + 1)), .int (xs (6 * t + 2)), .int (xs (6 * t + 3))]) (rest := []) ⟨hx, hb, hml, hown, hts⟩ (s_X10_convert ha) (cwV 3 hts (gV mw_45_10 mw_45_11 mw_45_12 mw_0_14 mw_53_16) rfl rfl rfl (by decide +kernel) ⟨(Nat.le_of_ble_eq_true rfl), (Nat.le_of_ble_eq_true rfl)⟩) (vV (ci := 10) (q0 := 0) hKA hPA hDA hN rfl gA_0) rfl rfl hl.1 rfl (lv_room (Nat.le_of_ble_eq_true rfl)) dL_law_978 ⟨by show cells + 0 ≤ 601024; omega, by show slots + 0 ≤ 7293034; omega⟩) hS (fun q _ h => hF q h) hF (fun r9 u t9 H1 locs ht9 hvm hw hB _ hk hS => ?_)
  obtain rfl : r9 = qa.1 := hw
  replace hPA : va_P (dC, dI) vwCl (wA a k qa.2) H1 := by rw [← ht9]; exact hB.1
  replace hPB := keepB hPB hD hk
  replace hD : va_D A (wA a k qa.2 ++ wB b k2 τ) := wAB_D hD
  clear hB hF hk hvm
  refine lv_pop hx hb dL_law_981 rfl ?_
  refine lv_aload_n hx hb dL_law_982 rfl (lv_at hl 2 rfl) ?_
  refine la_ld1 (s := s.setDrawn d0) hx hb hXs hbl hbA hS hL ht (lv_at hl 4 rfl) (lv_at hl 0 rfl) dL_law_983 dL_law_984 dL_law_986 dL_law_987 dL_law_988 ?_
  refine la_ld2 (s := s.setDrawn d0) hx hb hXs hbl hbA hS hL ht (lv_at hl 4 rfl) (lv_at hl 0 rfl) dL_law_989 dL_law_990 dL_law_992 dL_law_993 dL_law_994 ?_
  refine la_ld3 (s := s.setDrawn d0) hx hb hXs hbl hbA hS hL ht (lv_at hl 4 rfl) (lv_at hl 0 rfl) dL_law_995 dL_law_996 dL_law_998 dL_law_999 dL_law_1000 ?_
  replace hDA := va_D_left hD
  replace hDB := va_D_right hD
  have hF := va_frees hDB hS hA
  refine va_calliD hd0 (va_runV_D (As := [.int (xs (6 * t + 1)), .int (xs (6 * t + 2)), .int (xs (6 * t + 3))]) (rest := []) ⟨hx, hb, hml, hown, hts⟩ (s_X11_convert hb9) (cwV 3 hts (gV mw_45_13 mw_45_14 mw_45_15 mw_0_15 mw_57_12) rfl rfl rfl (by decide +kernel) ⟨(Nat.le_of_ble_eq_true rfl), (Nat.le_of_ble_eq_true rfl)⟩) (vV (ci := 11) (q0 := 0) hKB hPB hDB hN rfl gB_0) rfl rfl hl.1 rfl (lv_room (Nat.le_of_ble_eq_true rfl)) dL_law_1001 ⟨by show (cells + 0) + 0 ≤ 601024; omega, by show (slots + 0) + 0 ≤ 7293034; omega⟩) hS (fun q _ h => hF q h) hF (fun r8 u t9 H1 locs ht9 hvm hw hB _ hk hS d0 hd0 => ?_)
  obtain rfl : r8 = qb.1 := hw
  replace hPB : va_P (dC, dI) vwCl (wB b k2 qb.2) H1 := by rw [← ht9]; exact hB.1
  replace hPA := keepA hPA hD hk
  replace hD : va_D A (wA a k qa.2 ++ wB b k2 qb.2) := wAB_D hD
  refine lv_pop hx hb dL_law_1004 rfl ?_
  refine lv_goto (tgt := 1107) hx hb dL_law_1005 (by decide) ?_
  exact kk d0 H1 locs _ hd0 hPA hPB hD hS (lv_sub hl [0, 1, 2, 3, 4] rfl)

set_option maxRecDepth 100000 in
set_option maxHeartbeats 4000000 in
/-- alike -/
theorem lk_20 {p : Program} {l : Launch} {e : Env} {s : State} {m : MethodId} {below : List Frame} {meth : Method} {c : Code} {sc L : Nat} {xs : Nat → Int32} {A : Nat → Prop} {dC : Nat → ClassId} {dI : Nat → Nat → Nat} {a b : Nat → Nat} {k k2 : Nat → ClassId} (C0 : lc_C p l s m meth c sc L xs A dC dI k k2) (hL : L ≤ 3072) {t : Nat} (ht : 6 * t + 6 ≤ L) {σ τ : ST} {qa : Int32 × ST} {qb : Int32 × ST} (ha : f_X10_alike (xs (6 * t + 1)) (xs (6 * t + 2)) (xs (6 * t + 3)) σ = some qa) (hb9 : f_X11_alike (xs (6 * t + 1)) (xs (6 * t + 2)) (xs (6 * t + 3)) τ = some qb) {cells slots : Nat} (hcl : cells + 0 + 0 ≤ 601024) (hsl : slots + 0 + 0 ≤ 7293034) {d0 : Drawn} (hd0 : s.drawn.sameBut d0 lw_cs) {H : Heap} {locs : List Loc} {ls : Array Slot} (hPA : va_P (dC, dI) vwCl (wA a k σ) H) (hPB : va_P (dC, dI) vwCl (wB b k2 τ) H) (hD : va_D A (wA a k σ ++ wB b k2 τ)) (hS : va_S A s.heap H locs) (hl : lv_has ls 8 [(4, .int (nI (6 * t))), (3, .ref (a 95)), (2, .ref (b 0)), (1, .ref (a 0)), (0, .ref sc)])
    (kk : ∀ (d0 : Drawn) (H : Heap) (locs : List Loc) (ls : Array Slot), s.drawn.sameBut d0 lw_cs → va_P (dC, dI) vwCl (wA a k qa.2) H → va_P (dC, dI) vwCl (wB b k2 qb.2) H → va_D A (wA a k qa.2 ++ wB b k2 qb.2) → va_S A s.heap H locs → lv_has ls 8 [(4, .int (nI (6 * t))), (3, .ref (a 95)), (2, .ref (b 0)), (1, .ref (a 0)), (0, .ref sc)] → W p l e room_1 (s.setDrawn d0) m #[Value.ref sc] below meth c H locs (cells + 0 + 0) (slots + 0 + 0) (lw_Z below #[Value.ref sc] s) (F0 m 1107 ls [])) : W p l e room_1 (s.setDrawn d0) m #[Value.ref sc] below meth c H locs (cells) (slots) (lw_Z below #[Value.ref sc] s) (F0 m 1008 ls []) := by
  obtain ⟨hx, hb, hr, hml, hown, hts02, hXs0, hbl, hlocks, hst, hA, hA2, hV0, hN0, hKA0, hKB0⟩ := id C0
  have hbA : ¬ A sc := fun h => Nat.not_le.mpr hbl (hA2 sc h)
  have hts2 := dr_words hts02 d0
  have hts : ∀ w ∈ pw, w.before #[Value.ref sc] (s.setDrawn d0) = true := fun w h => hts2 w (pw_to2 h)
  have hN : nN (s.setDrawn d0) := nN.same (u := s) (U := s.setDrawn d0) rfl hN0
  have hKA : va_K (dC, dI) vwCl (tA k) (s.setDrawn d0) := va_K.moved (u := s) (U := s.setDrawn d0) (Vm.Alike.refl s.vm) hKA0
  have hKB : va_K (dC, dI) vwCl (tB k2) (s.setDrawn d0) := va_K.moved (u := s) (U := s.setDrawn d0) (Vm.Alike.refl s.vm) hKB0
  have hXs : va_X sc L xs (s.setDrawn d0) (s.setDrawn d0).heap := va_X.moved (u := s) (U := s.setDrawn d0) (Vm.Alike.refl s.vm) hXs0
  refine lv_aload_n hx hb dL_law_1008 rfl (lv_at hl 3 rfl) ?_
  refine la_ld1 (s := s.setDrawn d0) hx hb hXs hbl hbA hS hL ht (lv_at hl 4 rfl) (lv_at hl 0 rfl) dL_law_1009 dL_law_1010 dL_law_1012 dL_law_1013 dL_law_1014 ?_
  refine la_ld2 (s := s.setDrawn d0) hx hb hXs hbl hbA hS hL ht (lv_at hl 4 rfl) (lv_at hl 0 rfl) dL_law_1015 dL_law_1016 dL_law_1018 dL_law_1019 dL_law_1020 ?_
  refine la_ld3 (s := s.setDrawn d0) hx hb hXs hbl hbA hS hL ht (lv_at hl 4 rfl) (lv_at hl 0 rfl) dL_law_1021 dL_law_1022 dL_law_1024 dL_law_1025 dL_law_1026 ?_
  have hDA := va_D_left hD
  have hDB := va_D_right hD
  have hF := va_frees hDA hS hA
  refine va_calli (va_runV (As := [.int (xs (6 * t + 1)), .int (xs (6 * t + 2)), .int (xs (6 * t + 3))]) (rest := []) ⟨hx, hb, hml, hown, hts⟩ (s_X10_alike ha) (cwV 3 hts (gV mw_45_16 mw_45_17 mw_45_18 mw_0_14 mw_53_17) rfl rfl rfl (by decide +kernel) ⟨(Nat.le_of_ble_eq_true rfl), (Nat.le_of_ble_eq_true rfl)⟩) (vV (ci := 10) (q0 := 0) hKA hPA hDA hN rfl gA_0) rfl rfl hl.1 rfl (lv_room (Nat.le_of_ble_eq_true rfl)) dL_law_1027 ⟨by show cells + 0 ≤ 601024; omega, by show slots + 0 ≤ 7293034; omega⟩) hS (fun q _ h => hF q h) hF (fun r9 u t9 H1 locs ht9 hvm hw hB _ hk hS => ?_)
  obtain rfl : r9 = qa.1 := hw
  replace hPA : va_P (dC, dI) vwCl (wA a k qa.2) H1 := by rw [← ht9]; exact hB.1
  replace hPB := keepB hPB hD hk
  replace hD : va_D A (wA a k qa.2 ++ wB b k2 τ) := wAB_D hD
  clear hB hF hk hvm
  refine lv_pop hx hb dL_law_1030 rfl ?_
  refine lv_aload_n hx hb dL_law_1031 rfl (lv_at hl 2 rfl) ?_
  refine la_ld1 (s := s.setDrawn d0) hx hb hXs hbl hbA hS hL ht (lv_at hl 4 rfl) (lv_at hl 0 rfl) dL_law_1032 dL_law_1033 dL_law_1035 dL_law_1036 dL_law_1037 ?_
  refine la_ld2 (s := s.setDrawn d0) hx hb hXs hbl hbA hS hL ht (lv_at hl 4 rfl) (lv_at hl 0 rfl) dL_law_1038 dL_law_1039 dL_law_1041 dL_law_1042 dL_law_1043 ?_
  refine la_ld3 (s := s.setDrawn d0) hx hb hXs hbl hbA hS hL ht (lv_at hl 4 rfl) (lv_at hl 0 rfl) dL_law_1044 dL_law_1045 dL_law_1047 dL_law_1048 dL_law_1049 ?_
  replace hDA := va_D_left hD
  replace hDB := va_D_right hD
  have hF := va_frees hDB hS hA
  refine va_calliD hd0 (va_runV_D (As := [.int (xs (6 * t + 1)), .int (xs (6 * t + 2)), .int (xs (6 * t + 3))]) (rest := []) ⟨hx, hb, hml, hown, hts⟩ (s_X11_alike hb9) (cwV 3 hts (gV mw_45_19 mw_45_20 mw_45_21 mw_0_15 mw_57_14) rfl rfl rfl (by decide +kernel) ⟨(Nat.le_of_ble_eq_true rfl), (Nat.le_of_ble_eq_true rfl)⟩) (vV (ci := 11) (q0 := 0) hKB hPB hDB hN rfl gB_0) rfl rfl hl.1 rfl (lv_room (Nat.le_of_ble_eq_true rfl)) dL_law_1050 ⟨by show (cells + 0) + 0 ≤ 601024; omega, by show (slots + 0) + 0 ≤ 7293034; omega⟩) hS (fun q _ h => hF q h) hF (fun r8 u t9 H1 locs ht9 hvm hw hB _ hk hS d0 hd0 => ?_)
  obtain rfl : r8 = qb.1 := hw
  replace hPB : va_P (dC, dI) vwCl (wB b k2 qb.2) H1 := by rw [← ht9]; exact hB.1
  replace hPA := keepA hPA hD hk
  replace hD : va_D A (wA a k qa.2 ++ wB b k2 qb.2) := wAB_D hD
  refine lv_pop hx hb dL_law_1053 rfl ?_
  refine lv_goto (tgt := 1107) hx hb dL_law_1054 (by decide) ?_
  exact kk d0 H1 locs _ hd0 hPA hPB hD hS (lv_sub hl [0, 1, 2, 3, 4] rfl)

set_option maxRecDepth 100000 in
set_option maxHeartbeats 4000000 in
/-- kept -/
theorem lk_21 {p : Program} {l : Launch} {e : Env} {s : State} {m : MethodId} {below : List Frame} {meth : Method} {c : Code} {sc L : Nat} {xs : Nat → Int32} {A : Nat → Prop} {dC : Nat → ClassId} {dI : Nat → Nat → Nat} {a b : Nat → Nat} {k k2 : Nat → ClassId} (C0 : lc_C p l s m meth c sc L xs A dC dI k k2) (hL : L ≤ 3072) {t : Nat} (ht : 6 * t + 6 ≤ L) {σ τ : ST} {qa : Int32 × ST} {qb : Int32 × ST} (ha : f_X10_kept (xs (6 * t + 1)) σ = some qa) (hb9 : f_X11_kept (xs (6 * t + 1)) τ = some qb) {cells slots : Nat} (hcl : cells + 0 + 0 ≤ 601024) (hsl : slots + 0 + 0 ≤ 7293034) {d0 : Drawn} (hd0 : s.drawn.sameBut d0 lw_cs) {H : Heap} {locs : List Loc} {ls : Array Slot} (hPA : va_P (dC, dI) vwCl (wA a k σ) H) (hPB : va_P (dC, dI) vwCl (wB b k2 τ) H) (hD : va_D A (wA a k σ ++ wB b k2 τ)) (hS : va_S A s.heap H locs) (hl : lv_has ls 8 [(4, .int (nI (6 * t))), (3, .ref (a 95)), (2, .ref (b 0)), (1, .ref (a 0)), (0, .ref sc)])
    (kk : ∀ (d0 : Drawn) (H : Heap) (locs : List Loc) (ls : Array Slot), s.drawn.sameBut d0 lw_cs → va_P (dC, dI) vwCl (wA a k qa.2) H → va_P (dC, dI) vwCl (wB b k2 qb.2) H → va_D A (wA a k qa.2 ++ wB b k2 qb.2) → va_S A s.heap H locs → lv_has ls 8 [(4, .int (nI (6 * t))), (3, .ref (a 95)), (2, .ref (b 0)), (1, .ref (a 0)), (0, .ref sc)] → W p l e room_1 (s.setDrawn d0) m #[Value.ref sc] below meth c H locs (cells + 0 + 0) (slots + 0 + 0) (lw_Z below #[Value.ref sc] s) (F0 m 1107 ls [])) : W p l e room_1 (s.setDrawn d0) m #[Value.ref sc] below meth c H locs (cells) (slots) (lw_Z below #[Value.ref sc] s) (F0 m 1057 ls []) := by
  obtain ⟨hx, hb, hr, hml, hown, hts02, hXs0, hbl, hlocks, hst, hA, hA2, hV0, hN0, hKA0, hKB0⟩ := id C0
  have hbA : ¬ A sc := fun h => Nat.not_le.mpr hbl (hA2 sc h)
  have hts2 := dr_words hts02 d0
  have hts : ∀ w ∈ pw, w.before #[Value.ref sc] (s.setDrawn d0) = true := fun w h => hts2 w (pw_to2 h)
  have hN : nN (s.setDrawn d0) := nN.same (u := s) (U := s.setDrawn d0) rfl hN0
  have hKA : va_K (dC, dI) vwCl (tA k) (s.setDrawn d0) := va_K.moved (u := s) (U := s.setDrawn d0) (Vm.Alike.refl s.vm) hKA0
  have hKB : va_K (dC, dI) vwCl (tB k2) (s.setDrawn d0) := va_K.moved (u := s) (U := s.setDrawn d0) (Vm.Alike.refl s.vm) hKB0
  have hXs : va_X sc L xs (s.setDrawn d0) (s.setDrawn d0).heap := va_X.moved (u := s) (U := s.setDrawn d0) (Vm.Alike.refl s.vm) hXs0
  refine lv_aload_n hx hb dL_law_1057 rfl (lv_at hl 3 rfl) ?_
  refine la_ld1 (s := s.setDrawn d0) hx hb hXs hbl hbA hS hL ht (lv_at hl 4 rfl) (lv_at hl 0 rfl) dL_law_1058 dL_law_1059 dL_law_1061 dL_law_1062 dL_law_1063 ?_
  have hDA := va_D_left hD
  have hDB := va_D_right hD
  have hF := va_frees hDA hS hA
  refine va_calli (va_runV (As := [.int (xs (6 * t + 1))]) (rest := []) ⟨hx, hb, hml, hown, hts⟩ (s_X10_kept ha) (cwV 1 hts (gV mw_45_22 mw_45_23 mw_45_24 mw_0_14 mw_53_18) rfl rfl rfl (by decide +kernel) ⟨(Nat.le_of_ble_eq_true rfl), (Nat.le_of_ble_eq_true rfl)⟩) (vV (ci := 10) (q0 := 0) hKA hPA hDA hN rfl gA_0) rfl rfl hl.1 rfl (lv_room (Nat.le_of_ble_eq_true rfl)) dL_law_1064 ⟨by show cells + 0 ≤ 601024; omega, by show slots + 0 ≤ 7293034; omega⟩) hS (fun q _ h => hF q h) hF (fun r9 u t9 H1 locs ht9 hvm hw hB _ hk hS => ?_)
  obtain rfl : r9 = qa.1 := hw
  replace hPA : va_P (dC, dI) vwCl (wA a k qa.2) H1 := by rw [← ht9]; exact hB.1
  replace hPB := keepB hPB hD hk
  replace hD : va_D A (wA a k qa.2 ++ wB b k2 τ) := wAB_D hD
  clear hB hF hk hvm
  refine lv_pop hx hb dL_law_1067 rfl ?_
  refine lv_aload_n hx hb dL_law_1068 rfl (lv_at hl 2 rfl) ?_
  refine la_ld1 (s := s.setDrawn d0) hx hb hXs hbl hbA hS hL ht (lv_at hl 4 rfl) (lv_at hl 0 rfl) dL_law_1069 dL_law_1070 dL_law_1072 dL_law_1073 dL_law_1074 ?_
  replace hDA := va_D_left hD
  replace hDB := va_D_right hD
  have hF := va_frees hDB hS hA
  refine va_calli (va_runV (As := [.int (xs (6 * t + 1))]) (rest := []) ⟨hx, hb, hml, hown, hts⟩ (s_X11_kept hb9) (cwV 1 hts (gV mw_45_25 mw_45_26 mw_45_27 mw_0_15 mw_57_16) rfl rfl rfl (by decide +kernel) ⟨(Nat.le_of_ble_eq_true rfl), (Nat.le_of_ble_eq_true rfl)⟩) (vV (ci := 11) (q0 := 0) hKB hPB hDB hN rfl gB_0) rfl rfl hl.1 rfl (lv_room (Nat.le_of_ble_eq_true rfl)) dL_law_1075 ⟨by show (cells + 0) + 0 ≤ 601024; omega, by show (slots + 0) + 0 ≤ 7293034; omega⟩) hS (fun q _ h => hF q h) hF (fun r8 u t9 H1 locs ht9 hvm hw hB _ hk hS => ?_)
  obtain rfl : r8 = qb.1 := hw
  replace hPB : va_P (dC, dI) vwCl (wB b k2 qb.2) H1 := by rw [← ht9]; exact hB.1
  replace hPA := keepA hPA hD hk
  replace hD : va_D A (wA a k qa.2 ++ wB b k2 qb.2) := wAB_D hD
  refine lv_pop hx hb dL_law_1078 rfl ?_
  refine lv_goto (tgt := 1107) hx hb dL_law_1079 (by decide) ?_
  exact kk d0 H1 locs _ hd0 hPA hPB hD hS (lv_sub hl [0, 1, 2, 3, 4] rfl)

set_option maxRecDepth 100000 in
set_option maxHeartbeats 4000000 in
/-- count -/
theorem lk_22 {p : Program} {l : Launch} {e : Env} {s : State} {m : MethodId} {below : List Frame} {meth : Method} {c : Code} {sc L : Nat} {xs : Nat → Int32} {A : Nat → Prop} {dC : Nat → ClassId} {dI : Nat → Nat → Nat} {a b : Nat → Nat} {k k2 : Nat → ClassId} (C0 : lc_C p l s m meth c sc L xs A dC dI k k2) (hL : L ≤ 3072) {t : Nat} (ht : 6 * t + 6 ≤ L) {σ τ : ST} {qa : Int32 × ST} {qb : Int32 × ST} (ha : f_X10_count (xs (6 * t + 1)) σ = some qa) (hb9 : f_X11_count (xs (6 * t + 1)) τ = some qb) (hq : qa.1 = qb.1) {cells slots : Nat} (hcl : cells + 0 + 0 ≤ 601024) (hsl : slots + 0 + 0 ≤ 7293034) {d0 : Drawn} (hd0 : s.drawn.sameBut d0 lw_cs) {H : Heap} {locs : List Loc} {ls : Array Slot} (hPA : va_P (dC, dI) vwCl (wA a k σ) H) (hPB : va_P (dC, dI) vwCl (wB b k2 τ) H) (hD : va_D A (wA a k σ ++ wB b k2 τ)) (hS : va_S A s.heap H locs) (hl : lv_has ls 8 [(4, .int (nI (6 * t))), (3, .ref (a 95)), (2, .ref (b 0)), (1, .ref (a 0)), (0, .ref sc)])
    (kk : ∀ (d0 : Drawn) (H : Heap) (locs : List Loc) (ls : Array Slot), s.drawn.sameBut d0 lw_cs → va_P (dC, dI) vwCl (wA a k qa.2) H → va_P (dC, dI) vwCl (wB b k2 qb.2) H → va_D A (wA a k qa.2 ++ wB b k2 qb.2) → va_S A s.heap H locs → lv_has ls 8 [(4, .int (nI (6 * t))), (3, .ref (a 95)), (2, .ref (b 0)), (1, .ref (a 0)), (0, .ref sc)] → W p l e room_1 (s.setDrawn d0) m #[Value.ref sc] below meth c H locs (cells + 0 + 0) (slots + 0 + 0) (lw_Z below #[Value.ref sc] s) (F0 m 1107 ls [])) : W p l e room_1 (s.setDrawn d0) m #[Value.ref sc] below meth c H locs (cells) (slots) (lw_Z below #[Value.ref sc] s) (F0 m 1082 ls []) := by
  obtain ⟨hx, hb, hr, hml, hown, hts02, hXs0, hbl, hlocks, hst, hA, hA2, hV0, hN0, hKA0, hKB0⟩ := id C0
  have hbA : ¬ A sc := fun h => Nat.not_le.mpr hbl (hA2 sc h)
  have hts2 := dr_words hts02 d0
  have hts : ∀ w ∈ pw, w.before #[Value.ref sc] (s.setDrawn d0) = true := fun w h => hts2 w (pw_to2 h)
  have hN : nN (s.setDrawn d0) := nN.same (u := s) (U := s.setDrawn d0) rfl hN0
  have hKA : va_K (dC, dI) vwCl (tA k) (s.setDrawn d0) := va_K.moved (u := s) (U := s.setDrawn d0) (Vm.Alike.refl s.vm) hKA0
  have hKB : va_K (dC, dI) vwCl (tB k2) (s.setDrawn d0) := va_K.moved (u := s) (U := s.setDrawn d0) (Vm.Alike.refl s.vm) hKB0
  have hXs : va_X sc L xs (s.setDrawn d0) (s.setDrawn d0).heap := va_X.moved (u := s) (U := s.setDrawn d0) (Vm.Alike.refl s.vm) hXs0
  refine lv_aload_n hx hb dL_law_1082 rfl (lv_at hl 3 rfl) ?_
  refine la_ld1 (s := s.setDrawn d0) hx hb hXs hbl hbA hS hL ht (lv_at hl 4 rfl) (lv_at hl 0 rfl) dL_law_1083 dL_law_1084 dL_law_1086 dL_law_1087 dL_law_1088 ?_
  have hDA := va_D_left hD
  have hDB := va_D_right hD
  have hF := va_frees hDA hS hA
  refine va_calli (va_runV (As := [.int (xs (6 * t + 1))]) (rest := []) ⟨hx, hb, hml, hown, hts⟩ (s_X10_count ha) (cwV 1 hts (gV mw_45_28 mw_45_29 mw_46_0 mw_0_14 mw_53_19) rfl rfl rfl (by decide +kernel) ⟨(Nat.le_of_ble_eq_true rfl), (Nat.le_of_ble_eq_true rfl)⟩) (vV (ci := 10) (q0 := 0) hKA hPA hDA hN rfl gA_0) rfl rfl hl.1 rfl (lv_room (Nat.le_of_ble_eq_true rfl)) dL_law_1089 ⟨by show cells + 0 ≤ 601024; omega, by show slots + 0 ≤ 7293034; omega⟩) hS (fun q _ h => hF q h) hF (fun r9 u t9 H1 locs ht9 hvm hw hB _ hk hS => ?_)
  obtain rfl : r9 = qa.1 := hw
  replace hPA : va_P (dC, dI) vwCl (wA a k qa.2) H1 := by rw [← ht9]; exact hB.1
  replace hPB := keepB hPB hD hk
  replace hD : va_D A (wA a k qa.2 ++ wB b k2 τ) := wAB_D hD
  clear hB hF hk hvm
  refine lv_aload_n hx hb dL_law_1092 rfl (lv_at hl 2 rfl) ?_
  refine la_ld1 (s := s.setDrawn d0) hx hb hXs hbl hbA hS hL ht (lv_at hl 4 rfl) (lv_at hl 0 rfl) dL_law_1093 dL_law_1094 dL_law_1096 dL_law_1097 dL_law_1098 ?_
  replace hDA := va_D_left hD
  replace hDB := va_D_right hD
  have hF := va_frees hDB hS hA
  refine va_calli (va_runV (As := [.int (xs (6 * t + 1))]) (rest := [.int qa.1]) ⟨hx, hb, hml, hown, hts⟩ (s_X11_count hb9) (cwV 1 hts (gV mw_46_1 mw_46_2 mw_46_3 mw_0_15 mw_57_18) rfl rfl rfl (by decide +kernel) ⟨(Nat.le_of_ble_eq_true rfl), (Nat.le_of_ble_eq_true rfl)⟩) (vV (ci := 11) (q0 := 0) hKB hPB hDB hN rfl gB_0) rfl rfl hl.1 rfl (lv_room (Nat.le_of_ble_eq_true rfl)) dL_law_1099 ⟨by show (cells + 0) + 0 ≤ 601024; omega, by show (slots + 0) + 0 ≤ 7293034; omega⟩) hS (fun q _ h => hF q h) hF (fun r8 u t9 H1 locs ht9 hvm hw hB _ hk hS => ?_)
  obtain rfl : r8 = qb.1 := hw
  replace hPB : va_P (dC, dI) vwCl (wB b k2 qb.2) H1 := by rw [← ht9]; exact hB.1
  replace hPA := keepA hPA hD hk
  replace hD : va_D A (wA a k qa.2 ++ wB b k2 qb.2) := wAB_D hD
  refine lv_icmp_eq (tgt := 1107) hx hb dL_law_1102 (by decide) (fun _ => ?_) (fun h => absurd hq h)
  exact kk d0 H1 locs _ hd0 hPA hPB hD hS (lv_sub hl [0, 1, 2, 3, 4] rfl)
/-- what a call answers and does, by its number: the class -/
def fA (j : Nat) (pr : Nat → Int32) (σ : ST) : Option (Int32 × ST) := match j with
  | 0 => f_X10_feed (pr 1) (pr 2) (pr 3) (pr 4) (pr 5) σ
  | 1 => f_X10_plans (pr 1) σ
  | 2 => f_X10_write (pr 1) (pr 2) (pr 3) σ
  | 3 => f_X10_record (pr 1) (pr 2) (pr 3) σ
  | 4 => f_X10_field (pr 1) (pr 2) (pr 3) (pr 4) σ
  | 5 => f_X10_message (pr 1) (pr 2) σ
  | 6 => f_L_byteAt (pr 1) (pr 2) σ
  | 7 => f_X10_spoil (pr 1) (pr 2) (pr 3) σ
  | 8 => f_X10_cut (pr 1) (pr 2) σ
  | 9 => f_X10_matches (pr 1) (pr 2) σ
  | 10 => f_X10_miss (pr 1) (pr 2) (pr 3) (pr 4) σ
  | 11 => f_X10_missStep (pr 1) (pr 2) (pr 3) (pr 4) σ
  | 12 => f_X10_readers (pr 1) (pr 2) σ
  | 13 => f_X10_read (pr 1) (pr 2) σ
  | 14 => f_X10_failure (pr 1) σ
  | 15 => f_X10_failureStep (pr 1) σ
  | 16 => f_L_node (pr 1) (pr 2) σ
  | 17 => f_L_value (pr 1) σ
  | 18 => f_L_letter (pr 1) (pr 2) σ
  | 19 => f_X10_convert (pr 1) (pr 2) (pr 3) σ
  | 20 => f_X10_alike (pr 1) (pr 2) (pr 3) σ
  | 21 => f_X10_kept (pr 1) σ
  | 22 => f_X10_count (pr 1) σ
  | _ => some (0, σ)
/-- what a call answers and does, by its number: the reference -/
def fB (j : Nat) (pr : Nat → Int32) (τ : ST) : Option ((Int32 × ST) × Nat) := match j with
  | 0 => (f_X11_feed (pr 1) (pr 2) (pr 3) (pr 4) (pr 5) τ).bind fun q => some ((q.1, q.2), 0)
  | 1 => f_X11_plans (pr 1) τ
  | 2 => f_X11_write (pr 1) (pr 2) (pr 3) τ
  | 3 => (f_X11_record_ (pr 1) (pr 2) (pr 3) τ).bind fun q => some ((q.1, q.2), 0)
  | 4 => (f_X11_field_ (pr 1) (pr 2) (pr 3) (pr 4) τ).bind fun q => some ((q.1, q.2), 0)
  | 5 => (f_X11_message (pr 1) (pr 2) τ).bind fun q => some ((q.1, q.2), 0)
  | 6 => (f_X11_byteAt_ (pr 1) (pr 2) τ).bind fun q => some ((q.1, q.2), 0)
  | 7 => (f_X11_spoil (pr 1) (pr 2) (pr 3) τ).bind fun q => some ((q.1, q.2), 0)
  | 8 => (f_X11_cut (pr 1) (pr 2) τ).bind fun q => some ((q.1, q.2), 0)
  | 9 => (f_X11_matches (pr 1) (pr 2) τ).bind fun q => some ((q.1, q.2), 0)
  | 10 => (f_X11_miss (pr 1) (pr 2) (pr 3) (pr 4) τ).bind fun q => some ((q.1, q.2), 0)
  | 11 => (f_X11_missStep (pr 1) (pr 2) (pr 3) (pr 4) τ).bind fun q => some ((q.1, q.2), 0)
  | 12 => (f_X11_readers (pr 1) (pr 2) τ).bind fun q => some ((q.1, q.2), 0)
  | 13 => (f_X11_read (pr 1) (pr 2) τ).bind fun q => some ((q.1, q.2), 0)
  | 14 => (f_X11_failure (pr 1) τ).bind fun q => some ((q.1, q.2), 0)
  | 15 => (f_X11_failureStep (pr 1) τ).bind fun q => some ((q.1, q.2), 0)
  | 16 => (f_X11_node (pr 1) (pr 2) τ).bind fun q => some ((q.1, q.2), 0)
  | 17 => (f_X11_value_ (pr 1) τ).bind fun q => some ((0, q.2), 0)
  | 18 => (f_X11_letter (pr 1) (pr 2) τ).bind fun q => some ((q.1, q.2), 0)
  | 19 => (f_X11_convert (pr 1) (pr 2) (pr 3) τ).bind fun q => some ((q.1, q.2), 0)
  | 20 => (f_X11_alike (pr 1) (pr 2) (pr 3) τ).bind fun q => some ((q.1, q.2), 0)
  | 21 => (f_X11_kept (pr 1) τ).bind fun q => some ((q.1, q.2), 0)
  | 22 => (f_X11_count (pr 1) τ).bind fun q => some ((q.1, q.2), 0)
  | _ => some ((0, τ), 0)
