theorem dL_law_0 : decode cL_law 0 = .ok (.new 8, 3) := by decide +kernel
theorem dL_law_3 : decode cL_law 3 = .ok (.dup, 1) := by decide +kernel
theorem dL_law_4 : decode cL_law 4 = .ok (.invokespecial 25, 3) := by decide +kernel
theorem dL_law_7 : decode cL_law 7 = .ok (.astore_n 1, 1) := by decide +kernel
theorem dL_law_8 : decode cL_law 8 = .ok (.new 26, 3) := by decide +kernel
theorem dL_law_11 : decode cL_law 11 = .ok (.dup, 1) := by decide +kernel
theorem dL_law_12 : decode cL_law 12 = .ok (.invokespecial 28, 3) := by decide +kernel
theorem dL_law_15 : decode cL_law 15 = .ok (.astore_n 2, 1) := by decide +kernel
theorem dL_law_16 : decode cL_law 16 = .ok (.iconst 1, 1) := by decide +kernel
theorem dL_law_17 : decode cL_law 17 = .ok (.newarray .long, 2) := by decide +kernel
theorem dL_law_19 : decode cL_law 19 = .ok (.astore_n 3, 1) := by decide +kernel
theorem dL_law_20 : decode cL_law 20 = .ok (.iconst 0, 1) := by decide +kernel
theorem dL_law_21 : decode cL_law 21 = .ok (.istore 4, 2) := by decide +kernel
theorem dL_law_23 : decode cL_law 23 = .ok (.iload 4, 2) := by decide +kernel
theorem dL_law_25 : decode cL_law 25 = .ok (.aload_n 0, 1) := by decide +kernel
theorem dL_law_26 : decode cL_law 26 = .ok (.arraylength, 1) := by decide +kernel
theorem dL_law_27 : decode cL_law 27 = .ok (.bipush 6, 2) := by decide +kernel
theorem dL_law_29 : decode cL_law 29 = .ok (.isub, 1) := by decide +kernel
theorem dL_law_30 : decode cL_law 30 = .ok (.if_icmp .gt 1083, 3) := by decide +kernel
theorem dL_law_33 : decode cL_law 33 = .ok (.aload_n 0, 1) := by decide +kernel
theorem dL_law_34 : decode cL_law 34 = .ok (.iload 4, 2) := by decide +kernel
theorem dL_law_36 : decode cL_law 36 = .ok (.iaload, 1) := by decide +kernel
theorem dL_law_37 : decode cL_law 37 = .ok (.bipush 31, 2) := by decide +kernel
theorem dL_law_39 : decode cL_law 39 = .ok (.iand, 1) := by decide +kernel
theorem dL_law_40 : decode cL_law 40 = .ok (.tableswitch 1067 0 22 #[108, 181, 206, 255, 304, 365, 402, 442, 491, 528, 565, 626, 687, 724, 761, 786, 811, 851, 879, 919, 968, 1017, 1042], 108) := by decide +kernel
theorem dL_law_1107 : decode cL_law 1107 = .ok (.iinc 4 6, 3) := by decide +kernel
theorem dL_law_1110 : decode cL_law 1110 = .ok (.goto (-1087), 3) := by decide +kernel
theorem law_guard {p : Program} {l : Launch} {e : Env} {s : State} {m : MethodId} {below : List Frame} {meth : Method} {c : Code} {sc L : Nat} {xs : Nat → Int32} {A : Nat → Prop} {dC : Nat → ClassId} {dI : Nat → Nat → Nat} {a b : Nat → Nat} {k k2 : Nat → ClassId} (C0 : lc_C p l s m meth c sc L xs A dC dI k k2) (hL : L ≤ 3072) {t cells slots : Nat} (ht : t ≤ 512) {d0 : Drawn} {H : Heap} {locs : List Loc} {ls : Array Slot} (hS : va_S A s.heap H locs) (hl : lv_has ls 8 [(4, .int (nI (6 * t))), (3, .ref (a 95)), (2, .ref (b 0)), (1, .ref (a 0)), (0, .ref sc)])
    (ke : L < 6 * t + 6 → W p l e room_1 (s.setDrawn d0) m #[Value.ref sc] below meth c H locs (cells) (slots) (lw_Z below #[Value.ref sc] s) (F0 m 1113 ls [])) (kb : 6 * t + 6 ≤ L → W p l e room_1 (s.setDrawn d0) m #[Value.ref sc] below meth c H locs (cells) (slots) (lw_Z below #[Value.ref sc] s) (F0 m 33 ls [])) : W p l e room_1 (s.setDrawn d0) m #[Value.ref sc] below meth c H locs (cells) (slots) (lw_Z below #[Value.ref sc] s) (F0 m 23 ls []) := by
  obtain ⟨hx, hb, hr, hml, hown, hts02, hXs0, hbl, hlocks, hst, hA, hA2, hV0, hN0, hKA0, hKB0⟩ := id C0
  have hbA : ¬ A sc := fun h => Nat.not_le.mpr hbl (hA2 sc h)
  have hXs : va_X sc L xs (s.setDrawn d0) (s.setDrawn d0).heap := va_X.moved (u := s) (U := s.setDrawn d0) (Vm.Alike.refl s.vm) hXs0
  have e0 : (Int32.ofNat L).toInt = (L : Int) := nI_toInt (n := L) (by omega)
  have e1 : (6 : Int32).toInt = 6 := by decide
  have e2 : (nI (6 * t)).toInt = ((6 * t : Nat) : Int) := nI_toInt (by omega)
  have e3 : (Int32.ofNat L - 6).toInt = (L : Int) - 6 := by rw [il_subE (by rw [e0, e1]; omega) (by rw [e0, e1]; omega), e0, e1]
  refine lv_iload hx hb dL_law_23 (lv_at hl 0 rfl) ?_
  refine lv_aload_n hx hb dL_law_25 rfl (lv_at hl 4 rfl) ?_
  refine va_slen hx hb hXs hbl hbA hS dL_law_26 ?_
  refine lv_bipush (v := 6) hx hb dL_law_27 (by decide) ?_
  refine lv_isub hx hb dL_law_29 ?_
  refine lv_icmp_gt (tgt := 1113) hx hb dL_law_30 (by decide) (fun hc => ke ?_) (fun hc => kb ?_)
  · have h1 := il_lt hc
    rw [e3, e2] at h1
    omega
  · have h1 := il_nlt hc
    rw [e3, e2] at h1
    omega
theorem law_next {p : Program} {l : Launch} {e : Env} {s : State} {m : MethodId} {below : List Frame} {meth : Method} {c : Code} {sc L : Nat} {xs : Nat → Int32} {A : Nat → Prop} {dC : Nat → ClassId} {dI : Nat → Nat → Nat} {a b : Nat → Nat} {k k2 : Nat → ClassId} (C0 : lc_C p l s m meth c sc L xs A dC dI k k2) {t cells slots : Nat} {d0 : Drawn} {H : Heap} {locs : List Loc} {ls : Array Slot} (hl : lv_has ls 8 [(4, .int (nI (6 * t))), (3, .ref (a 95)), (2, .ref (b 0)), (1, .ref (a 0)), (0, .ref sc)]) (kk : ∀ ls : Array Slot, lv_has ls 8 [(4, .int (nI (6 * (t + 1)))), (3, .ref (a 95)), (2, .ref (b 0)), (1, .ref (a 0)), (0, .ref sc)] → W p l e room_1 (s.setDrawn d0) m #[Value.ref sc] below meth c H locs (cells) (slots) (lw_Z below #[Value.ref sc] s) (F0 m 23 ls [])) : W p l e room_1 (s.setDrawn d0) m #[Value.ref sc] below meth c H locs (cells) (slots) (lw_Z below #[Value.ref sc] s) (F0 m 1107 ls []) := by
  obtain ⟨hx, hb, hr, hml, hown, hts02, hXs0, hbl, hlocks, hst, hA, hA2, hV0, hN0, hKA0, hKB0⟩ := id C0
  have e1 : nI (6 * t) + Int32.ofInt 6 = nI (6 * (t + 1)) := nI_add (6 * t) 6
  refine lv_iinc (v := nI (6 * (t + 1))) (lv' := [(4, .int (nI (6 * (t + 1)))), (3, .ref (a 95)), (2, .ref (b 0)), (1, .ref (a 0)), (0, .ref sc)]) hx hb dL_law_1107 hl (k := 0) rfl e1 (by decide) rfl (fun ls hl => ?_)
  refine lv_goto (tgt := 23) hx hb dL_law_1110 (by decide) ?_
  exact kk ls hl
set_option maxRecDepth 100000 in
set_option maxHeartbeats 8000000 in
/-- THE LAW'S LOOP: an invariant of the pure functions carries it to its end -/
theorem law_loop {p : Program} {l : Launch} {e : Env} {s : State} {m : MethodId} {below : List Frame} {meth : Method} {c : Code} {sc L : Nat} {xs : Nat → Int32} {A : Nat → Prop} {dC : Nat → ClassId} {dI : Nat → Nat → Nat} {a b : Nat → Nat} {k k2 : Nat → ClassId} (C0 : lc_C p l s m meth c sc L xs A dC dI k k2) (hL : L ≤ 3072) (Inv : Nat → ST → ST → Nat → Prop) (hI : ∀ (n : Nat) (σ τ : ST) (κ : Nat), Inv n σ τ κ → n < 512 → ∀ (j : Nat) (pr : Nat → Int32), j < 32 → ∃ (qa : Int32 × ST) (qb : (Int32 × ST) × Nat), fA j pr σ = some qa ∧ fB j pr τ = some qb ∧ (j = 22 → qa.1 = qb.1.1) ∧ Inv (n + 1) qa.2 qb.1.2 (κ + qb.2)) (hB : ∀ (n : Nat) (σ τ : ST) (κ : Nat), Inv n σ τ κ → κ ≤ 500000) : ∀ (n t : Nat) (σ τ : ST) (κ : Nat) (d0 : Drawn) (H : Heap) (locs : List Loc) (ls : Array Slot), L < 6 * t + 6 * n + 6 → t ≤ 512 → Inv t σ τ κ → s.drawn.sameBut d0 lw_cs → va_P (dC, dI) vwCl (wA a k σ) H → va_P (dC, dI) vwCl (wB b k2 τ) H → va_D A (wA a k σ ++ wB b k2 τ) → va_S A s.heap H locs → lv_has ls 8 [(4, .int (nI (6 * t))), (3, .ref (a 95)), (2, .ref (b 0)), (1, .ref (a 0)), (0, .ref sc)] → W p l e room_1 (s.setDrawn d0) m #[Value.ref sc] below meth c H locs (200 + t + κ) (100000 + 6 * t + 6 * κ) (lw_Z below #[Value.ref sc] s) (F0 m 23 ls []) := by
  intro n
  induction n with
  | zero =>
    intro t σ τ κ d0 H locs ls hn ht hi hd0 hPA hPB hD hS hl
    have hκ := hB _ _ _ _ hi
    exact law_guard C0 hL ht hS hl (fun _ => law_end C0 hd0 H locs _ _ ls (by omega) (by omega) hS) (fun h => by omega)
  | succ n ih =>
    intro t σ τ κ d0 H locs ls hn ht hi hd0 hPA hPB hD hS hl
    have hκ := hB _ _ _ _ hi
    refine law_guard C0 hL ht hS hl (fun _ => law_end C0 hd0 H locs _ _ ls (by omega) (by omega) hS) (fun hge => ?_)
    obtain ⟨hx, hb, hr, hml, hown, hts02, hXs0, hbl, hlocks, hst, hA, hA2, hV0, hN0, hKA0, hKB0⟩ := id C0
    have hbA : ¬ A sc := fun h => Nat.not_le.mpr hbl (hA2 sc h)
    have hXs : va_X sc L xs (s.setDrawn d0) (s.setDrawn d0).heap := va_X.moved (u := s) (U := s.setDrawn d0) (Vm.Alike.refl s.vm) hXs0
    refine lv_aload_n hx hb dL_law_33 rfl (lv_at hl 4 rfl) ?_
    refine lv_iload hx hb dL_law_34 (lv_at hl 0 rfl) ?_
    refine va_sld hx hb hXs hbl hbA hS (vp_in_nI (by omega) (by omega)) dL_law_36 ?_
    refine lv_bipush (v := 31) hx hb dL_law_37 (by decide) ?_
    refine lv_iand hx hb dL_law_39 ?_
    obtain ⟨j, hj, ej⟩ := pk_andE (xs (nI (6 * t)).toNatClampNeg) (m := 31) 5 (by decide)
    rw [ej]
    have hj : j < 32 := hj
    obtain ⟨qa, qb, ha, hb9, hq, hi2⟩ := hI t σ τ κ hi (by omega) j (fun q => xs (6 * t + q)) hj
    have hκ2 := hB _ _ _ _ hi2
    have fin : ∀ (cl sl : Nat) (d0 : Drawn) (H : Heap) (locs : List Loc) (ls : Array Slot), cl ≤ 200 + (t + 1) + (κ + qb.2) → sl ≤ 100000 + 6 * (t + 1) + 6 * (κ + qb.2) → s.drawn.sameBut d0 lw_cs → va_P (dC, dI) vwCl (wA a k qa.2) H → va_P (dC, dI) vwCl (wB b k2 qb.1.2) H → va_D A (wA a k qa.2 ++ wB b k2 qb.1.2) → va_S A s.heap H locs → lv_has ls 8 [(4, .int (nI (6 * t))), (3, .ref (a 95)), (2, .ref (b 0)), (1, .ref (a 0)), (0, .ref sc)] → W p l e room_1 (s.setDrawn d0) m #[Value.ref sc] below meth c H locs (cl) (sl) (lw_Z below #[Value.ref sc] s) (F0 m 1107 ls []) := by
      intro cl sl d0 H locs ls h1 h2 hd0 hPA hPB hD hS hl
      refine W.widen (k := 200 + (t + 1) + (κ + qb.2)) (n := 100000 + 6 * (t + 1) + 6 * (κ + qb.2)) h1 h2 ?_
      exact law_next C0 hl (fun ls hl => ih (t + 1) _ _ _ d0 H locs ls (by omega) (by omega) hi2 hd0 hPA hPB hD hS hl)
    clear ih hI
    rcases (show j = 0 ∨ j = 1 ∨ j = 2 ∨ j = 3 ∨ j = 4 ∨ j = 5 ∨ j = 6 ∨ j = 7 ∨ j = 8 ∨ j = 9 ∨ j = 10 ∨ j = 11 ∨ j = 12 ∨ j = 13 ∨ j = 14 ∨ j = 15 ∨ j = 16 ∨ j = 17 ∨ j = 18 ∨ j = 19 ∨ j = 20 ∨ j = 21 ∨ j = 22 ∨ 23 ≤ j by omega) with rfl | rfl | rfl | rfl | rfl | rfl | rfl | rfl | rfl | rfl | rfl | rfl | rfl | rfl | rfl | rfl | rfl | rfl | rfl | rfl | rfl | rfl | rfl | h23
    · refine lv_tableIn (off := 108) (tgt := 148) hx hb dL_law_40 (by decide) (by decide) (by decide) (by decide) ?_
      obtain ⟨q9, hq9, h9⟩ := ib hb9
      obtain rfl := Option.some.inj h9
      exact lk_0 C0 hL hge ha hq9 (by omega) (by omega) hd0 hPA hPB hD hS hl (fun d0 H locs ls hd0 hPA hPB hD hS hl => fin _ _ d0 H locs ls (by omega) (by omega) hd0 hPA hPB hD hS hl)
    · refine lv_tableIn (off := 181) (tgt := 221) hx hb dL_law_40 (by decide) (by decide) (by decide) (by decide) ?_
      exact lk_1 C0 hL hge ha hb9 (by omega) (by omega) hd0 hPA hPB hD hS hl (fun d0 H locs ls hd0 hPA hPB hD hS hl => fin _ _ d0 H locs ls (by omega) (by omega) hd0 hPA hPB hD hS hl)
    · refine lv_tableIn (off := 206) (tgt := 246) hx hb dL_law_40 (by decide) (by decide) (by decide) (by decide) ?_
      exact lk_2 C0 hL hge ha hb9 (by omega) (by omega) hd0 hPA hPB hD hS hl (fun d0 H locs ls hd0 hPA hPB hD hS hl => fin _ _ d0 H locs ls (by omega) (by omega) hd0 hPA hPB hD hS hl)
    · refine lv_tableIn (off := 255) (tgt := 295) hx hb dL_law_40 (by decide) (by decide) (by decide) (by decide) ?_
      obtain ⟨q9, hq9, h9⟩ := ib hb9
      obtain rfl := Option.some.inj h9
      exact lk_3 C0 hL hge ha hq9 (by omega) (by omega) hd0 hPA hPB hD hS hl (fun d0 H locs ls hd0 hPA hPB hD hS hl => fin _ _ d0 H locs ls (by omega) (by omega) hd0 hPA hPB hD hS hl)
    · refine lv_tableIn (off := 304) (tgt := 344) hx hb dL_law_40 (by decide) (by decide) (by decide) (by decide) ?_
      obtain ⟨q9, hq9, h9⟩ := ib hb9
      obtain rfl := Option.some.inj h9
      exact lk_4 C0 hL hge ha hq9 (by omega) (by omega) hd0 hPA hPB hD hS hl (fun d0 H locs ls hd0 hPA hPB hD hS hl => fin _ _ d0 H locs ls (by omega) (by omega) hd0 hPA hPB hD hS hl)
    · refine lv_tableIn (off := 365) (tgt := 405) hx hb dL_law_40 (by decide) (by decide) (by decide) (by decide) ?_
      obtain ⟨q9, hq9, h9⟩ := ib hb9
      obtain rfl := Option.some.inj h9
      exact lk_5 C0 hL hge ha hq9 (by omega) (by omega) hd0 hPA hPB hD hS hl (fun d0 H locs ls hd0 hPA hPB hD hS hl => fin _ _ d0 H locs ls (by omega) (by omega) hd0 hPA hPB hD hS hl)
    · refine lv_tableIn (off := 402) (tgt := 442) hx hb dL_law_40 (by decide) (by decide) (by decide) (by decide) ?_
      obtain ⟨q9, hq9, h9⟩ := ib hb9
      obtain rfl := Option.some.inj h9
      exact lk_6 C0 hL hge ha hq9 (by omega) (by omega) hd0 hPA hPB hD hS hl (fun d0 H locs ls hd0 hPA hPB hD hS hl => fin _ _ d0 H locs ls (by omega) (by omega) hd0 hPA hPB hD hS hl)
    · refine lv_tableIn (off := 442) (tgt := 482) hx hb dL_law_40 (by decide) (by decide) (by decide) (by decide) ?_
      obtain ⟨q9, hq9, h9⟩ := ib hb9
      obtain rfl := Option.some.inj h9
      exact lk_7 C0 hL hge ha hq9 (by omega) (by omega) hd0 hPA hPB hD hS hl (fun d0 H locs ls hd0 hPA hPB hD hS hl => fin _ _ d0 H locs ls (by omega) (by omega) hd0 hPA hPB hD hS hl)
    · refine lv_tableIn (off := 491) (tgt := 531) hx hb dL_law_40 (by decide) (by decide) (by decide) (by decide) ?_
      obtain ⟨q9, hq9, h9⟩ := ib hb9
      obtain rfl := Option.some.inj h9
      exact lk_8 C0 hL hge ha hq9 (by omega) (by omega) hd0 hPA hPB hD hS hl (fun d0 H locs ls hd0 hPA hPB hD hS hl => fin _ _ d0 H locs ls (by omega) (by omega) hd0 hPA hPB hD hS hl)
    · refine lv_tableIn (off := 528) (tgt := 568) hx hb dL_law_40 (by decide) (by decide) (by decide) (by decide) ?_
      obtain ⟨q9, hq9, h9⟩ := ib hb9
      obtain rfl := Option.some.inj h9
      exact lk_9 C0 hL hge ha hq9 (by omega) (by omega) hd0 hPA hPB hD hS hl (fun d0 H locs ls hd0 hPA hPB hD hS hl => fin _ _ d0 H locs ls (by omega) (by omega) hd0 hPA hPB hD hS hl)
    · refine lv_tableIn (off := 565) (tgt := 605) hx hb dL_law_40 (by decide) (by decide) (by decide) (by decide) ?_
      obtain ⟨q9, hq9, h9⟩ := ib hb9
      obtain rfl := Option.some.inj h9
      exact lk_10 C0 hL hge ha hq9 (by omega) (by omega) hd0 hPA hPB hD hS hl (fun d0 H locs ls hd0 hPA hPB hD hS hl => fin _ _ d0 H locs ls (by omega) (by omega) hd0 hPA hPB hD hS hl)
    · refine lv_tableIn (off := 626) (tgt := 666) hx hb dL_law_40 (by decide) (by decide) (by decide) (by decide) ?_
      obtain ⟨q9, hq9, h9⟩ := ib hb9
      obtain rfl := Option.some.inj h9
      exact lk_11 C0 hL hge ha hq9 (by omega) (by omega) hd0 hPA hPB hD hS hl (fun d0 H locs ls hd0 hPA hPB hD hS hl => fin _ _ d0 H locs ls (by omega) (by omega) hd0 hPA hPB hD hS hl)
    · refine lv_tableIn (off := 687) (tgt := 727) hx hb dL_law_40 (by decide) (by decide) (by decide) (by decide) ?_
      obtain ⟨q9, hq9, h9⟩ := ib hb9
      obtain rfl := Option.some.inj h9
      exact lk_12 C0 hL hge ha hq9 (by omega) (by omega) hd0 hPA hPB hD hS hl (fun d0 H locs ls hd0 hPA hPB hD hS hl => fin _ _ d0 H locs ls (by omega) (by omega) hd0 hPA hPB hD hS hl)
    · refine lv_tableIn (off := 724) (tgt := 764) hx hb dL_law_40 (by decide) (by decide) (by decide) (by decide) ?_
      obtain ⟨q9, hq9, h9⟩ := ib hb9
      obtain rfl := Option.some.inj h9
      exact lk_13 C0 hL hge ha hq9 (by omega) (by omega) hd0 hPA hPB hD hS hl (fun d0 H locs ls hd0 hPA hPB hD hS hl => fin _ _ d0 H locs ls (by omega) (by omega) hd0 hPA hPB hD hS hl)
    · refine lv_tableIn (off := 761) (tgt := 801) hx hb dL_law_40 (by decide) (by decide) (by decide) (by decide) ?_
      obtain ⟨q9, hq9, h9⟩ := ib hb9
      obtain rfl := Option.some.inj h9
      exact lk_14 C0 hL hge ha hq9 (by omega) (by omega) hd0 hPA hPB hD hS hl (fun d0 H locs ls hd0 hPA hPB hD hS hl => fin _ _ d0 H locs ls (by omega) (by omega) hd0 hPA hPB hD hS hl)
    · refine lv_tableIn (off := 786) (tgt := 826) hx hb dL_law_40 (by decide) (by decide) (by decide) (by decide) ?_
      obtain ⟨q9, hq9, h9⟩ := ib hb9
      obtain rfl := Option.some.inj h9
      exact lk_15 C0 hL hge ha hq9 (by omega) (by omega) hd0 hPA hPB hD hS hl (fun d0 H locs ls hd0 hPA hPB hD hS hl => fin _ _ d0 H locs ls (by omega) (by omega) hd0 hPA hPB hD hS hl)
    · refine lv_tableIn (off := 811) (tgt := 851) hx hb dL_law_40 (by decide) (by decide) (by decide) (by decide) ?_
      obtain ⟨q9, hq9, h9⟩ := ib hb9
      obtain rfl := Option.some.inj h9
      exact lk_16 C0 hL hge ha hq9 (by omega) (by omega) hd0 hPA hPB hD hS hl (fun d0 H locs ls hd0 hPA hPB hD hS hl => fin _ _ d0 H locs ls (by omega) (by omega) hd0 hPA hPB hD hS hl)
    · refine lv_tableIn (off := 851) (tgt := 891) hx hb dL_law_40 (by decide) (by decide) (by decide) (by decide) ?_
      obtain ⟨q9, hq9, h9⟩ := ib hb9
      obtain rfl := Option.some.inj h9
      exact lk_17 C0 hL hge ha hq9 (by omega) (by omega) hd0 hPA hPB hD hS hl (fun d0 H locs ls hd0 hPA hPB hD hS hl => fin _ _ d0 H locs ls (by omega) (by omega) hd0 hPA hPB hD hS hl)
    · refine lv_tableIn (off := 879) (tgt := 919) hx hb dL_law_40 (by decide) (by decide) (by decide) (by decide) ?_
      obtain ⟨q9, hq9, h9⟩ := ib hb9
      obtain rfl := Option.some.inj h9
      exact lk_18 C0 hL hge ha hq9 (by omega) (by omega) hd0 hPA hPB hD hS hl (fun d0 H locs ls hd0 hPA hPB hD hS hl => fin _ _ d0 H locs ls (by omega) (by omega) hd0 hPA hPB hD hS hl)
    · refine lv_tableIn (off := 919) (tgt := 959) hx hb dL_law_40 (by decide) (by decide) (by decide) (by decide) ?_
      obtain ⟨q9, hq9, h9⟩ := ib hb9
      obtain rfl := Option.some.inj h9
      exact lk_19 C0 hL hge ha hq9 (by omega) (by omega) hd0 hPA hPB hD hS hl (fun d0 H locs ls hd0 hPA hPB hD hS hl => fin _ _ d0 H locs ls (by omega) (by omega) hd0 hPA hPB hD hS hl)
    · refine lv_tableIn (off := 968) (tgt := 1008) hx hb dL_law_40 (by decide) (by decide) (by decide) (by decide) ?_
      obtain ⟨q9, hq9, h9⟩ := ib hb9
      obtain rfl := Option.some.inj h9
      exact lk_20 C0 hL hge ha hq9 (by omega) (by omega) hd0 hPA hPB hD hS hl (fun d0 H locs ls hd0 hPA hPB hD hS hl => fin _ _ d0 H locs ls (by omega) (by omega) hd0 hPA hPB hD hS hl)
    · refine lv_tableIn (off := 1017) (tgt := 1057) hx hb dL_law_40 (by decide) (by decide) (by decide) (by decide) ?_
      obtain ⟨q9, hq9, h9⟩ := ib hb9
      obtain rfl := Option.some.inj h9
      exact lk_21 C0 hL hge ha hq9 (by omega) (by omega) hd0 hPA hPB hD hS hl (fun d0 H locs ls hd0 hPA hPB hD hS hl => fin _ _ d0 H locs ls (by omega) (by omega) hd0 hPA hPB hD hS hl)
    · refine lv_tableIn (off := 1042) (tgt := 1082) hx hb dL_law_40 (by decide) (by decide) (by decide) (by decide) ?_
      obtain ⟨q9, hq9, h9⟩ := ib hb9
      obtain rfl := Option.some.inj h9
      exact lk_22 C0 hL hge ha hq9 (hq rfl) (by omega) (by omega) hd0 hPA hPB hD hS hl (fun d0 H locs ls hd0 hPA hPB hD hS hl => fin _ _ d0 H locs ls (by omega) (by omega) hd0 hPA hPB hD hS hl)
    · have e1 : fA j (fun q => xs (6 * t + q)) σ = some (0, σ) := by
        obtain ⟨i, rfl⟩ : ∃ i, j = i + 23 := ⟨j - 23, by omega⟩
        rfl
      have e2 : fB j (fun q => xs (6 * t + q)) τ = some ((0, τ), 0) := by
        obtain ⟨i, rfl⟩ : ∃ i, j = i + 23 := ⟨j - 23, by omega⟩
        rfl
      rw [e1] at ha
      rw [e2] at hb9
      obtain rfl := Option.some.inj ha
      obtain rfl := Option.some.inj hb9
      refine lv_tableOut (tgt := 1107) hx hb dL_law_40 (by rw [nI_toInt (by omega)]; omega) (by decide) ?_
      exact fin _ _ d0 H locs ls (by omega) (by omega) hd0 hPA hPB hD hS hl
theorem va_D_swap {A : Nat → Prop} {wa wb wc : va_W} (h : va_D A ((wa ++ wb) ++ wc)) : va_D A ((wa ++ wc) ++ wb) := by
  have ha := va_D_left (va_D_left h)
  have hb := va_D_right (va_D_left h)
  have hc := va_D_right h
  refine va_D.app (va_D.app ha hc (fun i j x y hx hy e => ?_)) hb (fun i j x y hx hy e => ?_)
  · exact va_D_apart h (i := i) (by rw [List.getElem?_append_left (List.getElem?_eq_some_iff.mp hx).1]; exact hx) hy e
  · rcases Nat.lt_or_ge i wa.length with hi | hi
    · rw [List.getElem?_append_left hi] at hx
      exact va_D_apart (va_D_left h) hx hy e
    · rw [List.getElem?_append_right hi] at hx
      exact va_D_apart h (i := wa.length + j) (by rw [List.getElem?_append_right (Nat.le_add_right _ _), Nat.add_sub_cancel_left]; exact hy) hx e.symm
theorem text_in : ∀ j, j < 72 → Cond.eq (.elem (.field (.string "ShapeReader$Tokens" 58) "java/lang/String" "value" "[B") (.int (Int32.ofNat j))) (.int (law_bytes.getD j 0)) ∈ flatC (Jvm.Cond.and given_1 narrow_1) := by decide +kernel

/-- the String constant of Tokens, at the start -/
theorem law_text {s : State} {b : Nat} {A : Nat → Prop} (hts : ∀ w ∈ lw_tbl, w.before #[Value.ref b] s = true) (hgv : (Jvm.Cond.and given_1 narrow_1).before #[Value.ref b] s = true) (hA : ∀ a : Nat, a < s.heap.size → ¬ A a) : ∃ q v : Nat, vk_R RX6 58 "plan record was else list either or none flag int long real text yes no " q s ∧ sx q v A s s.heap := by
  have hs := flat_of_before _ hgv
  obtain ⟨a, c, cA, kA, q1, q2, q3, q4, q5, q6, -⟩ := Cond.exactly_spec (args := #[Value.ref b]) (first := s) (o := none) (s := s) (idx := []) (t := .string "ShapeReader$Tokens" 58) (cls := "java/lang/String") (hs _ (by decide +kernel))
  obtain ⟨t, ht, hT⟩ := va_Tof (args := #[Value.ref b]) (s := s) (tm := .field (.string "ShapeReader$Tokens" 58) "java/lang/String" "value" "[B") (ty := .byte) (N := 72) (f := fun j => .int (law_bytes.getD j 0)) (A := A) (by decide) (hs _ (by decide +kernel)) (va_eqt (hs (Cond.eq (.length (.field (.string "ShapeReader$Tokens" 58) "java/lang/String" "value" "[B")) (.int 72)) (by decide +kernel))) (fun j hj => va_eqt (hs (Cond.eq (.elem (.field (.string "ShapeReader$Tokens" 58) "java/lang/String" "value" "[B") (.int (Int32.ofNat j))) (.int (law_bytes.getD j 0))) (text_in j hj))) hA
  refine ⟨a, t, vk_R.of (hts (.stringRef RX6 58 "plan record was else list either or none flag int long real text yes no ") (tin_1 (List.mem_of_getElem? (i := 41) (by decide +kernel)))) q1, ⟨cA, q3, q5, by rw [q6]; exact q2, hA a (Array.getElem?_eq_some_iff.mp q3).1⟩, vk_OFof q1 (va_eqt (hs (Cond.eq (.field (.string "ShapeReader$Tokens" 58) "java/lang/String" "coder" "B") (.int 0)) (by decide +kernel))) hA, vk_OFof q1 ht hA, hT, ?_, ?_⟩
  · exact va_Zof (hts (.laysStatic "java/lang/String" "COMPACT_STRINGS" "Z") (tin_1 (List.mem_of_getElem? (i := 51) (by decide +kernel)))) (hts (.initialized "java/lang/String") (tin_1 (List.mem_of_getElem? (i := 3) (by decide +kernel)))) (va_eqt (hs (Cond.eq (.static "java/lang/String" "COMPACT_STRINGS" "Z") (.int 1)) (by decide +kernel))) hA
  · exact va_Zqof (hts (.laysStatic "jdk/internal/util/Preconditions" "SIOOBE_FORMATTER" "Ljava/util/function/BiFunction;") (tin_1 (List.mem_of_getElem? (i := 67) (by decide +kernel)))) (hts (.initialized "jdk/internal/util/Preconditions") (tin_1 (List.mem_of_getElem? (i := 5) (by decide +kernel)))) (hs (Cond.isRef (.static "jdk/internal/util/Preconditions" "SIOOBE_FORMATTER" "Ljava/util/function/BiFunction;")) (by decide +kernel)) hA

theorem nW_in : ∀ w ∈ nW, w ∈ lw_tbl := by decide +kernel
theorem nW_ot : ∀ w ∈ nW, w.onTables = true := by decide +kernel
set_option maxRecDepth 100000 in
set_option maxHeartbeats 8000000 in
/-- THE LAW, from its entry, over an invariant of the pure functions -/
theorem law_pure (Inv : Nat → ST → ST → Nat → Prop) (hI : ∀ (n : Nat) (σ τ : ST) (κ : Nat), Inv n σ τ κ → n < 512 → ∀ (j : Nat) (pr : Nat → Int32), j < 32 → ∃ (qa : Int32 × ST) (qb : (Int32 × ST) × Nat), fA j pr σ = some qa ∧ fB j pr τ = some qb ∧ (j = 22 → qa.1 = qb.1.1) ∧ Inv (n + 1) qa.2 qb.1.2 (κ + qb.2)) (hB : ∀ (n : Nat) (σ τ : ST) (κ : Nat), Inv n σ τ κ → κ ≤ 500000) (h0 : Inv 0 s0A s0B 0) {p : Program} {e : Env} {s : State} {m : MethodId} {below : List Frame} {meth : Method} {c : Code} (l : Launch) (hflags : l.flags = flags0) {b L : Nat} {xs : Nat → Int32} (hL : L ≤ 3072) (C0 : lw_At p s m meth c b L xs) : W p l e room_1 s m #[Value.ref b] below meth c s.heap [] 0 0 (lw_Z below #[Value.ref b] s) (entryFrame m ([Value.ref b] : List Value).toArray 8) := by
  obtain ⟨hx, hb, hr, hml, hown, hts0, hXs, hbl, hlocks, hgv⟩ := id C0
  have hts2 : ∀ w ∈ pw2, w.before #[Value.ref b] s = true := fun w h => hts0 w (pw2_in w h)
  have hts : ∀ w ∈ pw, w.before #[Value.ref b] s = true := fun w h => hts2 w (pw_to2 h)
  have hst : l.stackTraces = false := by unfold Launch.stackTraces; rw [hflags]; decide +kernel
  obtain ⟨A, hA, hA2⟩ : ∃ A : Nat → Prop, (∀ q : Nat, s.heap.size ≤ q → A q) ∧ (∀ q : Nat, A q → s.heap.size ≤ q) := ⟨fun q => s.heap.size ≤ q, fun _ h => h, fun _ h => h⟩
  have hAn : ∀ a : Nat, a < s.heap.size → ¬ A a := fun a h h2 => Nat.not_le.mpr h (hA2 a h2)
  have hs := flat_of_before _ hgv
  have hV : vt A s s.heap := ⟨fun w h => va_Nw.of (pB_ot w h) (hts0 w (pB_in w h)), vx_Zqof (hts0 (.laysStatic Bundle.tN "UNASSIGNED_STACK" Bundle.steD) (tin_6 (List.mem_of_getElem? (i := 166) (by decide +kernel)))) (hts0 (.initialized Bundle.tN) (tin_1 (List.mem_of_getElem? (i := 23) (by decide +kernel)))) (hs _ (by decide +kernel)) hAn, vx_Zqof (hts0 (.laysStatic Bundle.tN "SUPPRESSED_SENTINEL" Bundle.listD) (tin_6 (List.mem_of_getElem? (i := 168) (by decide +kernel)))) (hts0 (.initialized Bundle.tN) (tin_1 (List.mem_of_getElem? (i := 23) (by decide +kernel)))) (hs _ (by decide +kernel)) hAn⟩
  obtain ⟨q, v, hR, hX⟩ := law_text (A := A) hts0 hgv hAn
  have hN : nN s := fun w hw => va_Nw.of (nW_ot w hw) (hts0 w (nW_in w hw))
  obtain ⟨y0, iS0, hKn0⟩ := u_known (C := RX0) (T := TX0) (N := 13) (n := 13) hts inlX0 (hts (.instantiable RX0 13) mw_21_14)
  obtain ⟨y1, iS1, hKn1⟩ := u_known (C := RX1) (T := TX1) (N := 3) (n := 3) hts inlX1 (hts (.instantiable RX1 3) mw_21_9)
  obtain ⟨y2, iS2, hKn2⟩ := u_known (C := RX2) (T := TX2) (N := 3) (n := 3) hts inlX2 (hts (.instantiable RX2 3) mw_22_5)
  obtain ⟨y3, iS3, hKn3⟩ := u_known (C := RX3) (T := TX3) (N := 2) (n := 2) hts inlX3 (hts (.instantiable RX3 2) mw_21_4)
  obtain ⟨y4, iS4, hKn4⟩ := u_known (C := RX4) (T := TX4) (N := 12) (n := 12) hts inlX4 (hts (.instantiable RX4 12) mw_22_10)
  obtain ⟨y5, iS5, hKn5⟩ := u_known (C := RX5) (T := TX5) (N := 17) (n := 17) hts inlX5 (hts (.instantiable RX5 17) mw_20_29)
  obtain ⟨y6, iS6, hKn6⟩ := u_known (C := RX6) (T := TX6) (N := 14) (n := 14) hts inlX6 (hts (.instantiable RX6 14) mw_20_24)
  obtain ⟨y7, iS7, hKn7⟩ := u_known (C := RX7) (T := TX7) (N := 13) (n := 13) hts inlX7 (hts (.instantiable RX7 13) mw_21_23)
  obtain ⟨y8, iS8, hKn8⟩ := u_known (C := RX8) (T := TX8) (N := 3) (n := 3) hts inlX8 (hts (.instantiable RX8 3) mw_22_0)
  obtain ⟨y9, iS9, hKn9⟩ := u_known (C := RX9) (T := TX9) (N := 4) (n := 4) hts inlX9 (hts (.instantiable RX9 4) mw_21_19)
  obtain ⟨y10, iS10, hKn10⟩ := u_known (C := RX10) (T := TX10) (N := 16) (n := 16) hts inlX10 (hts (.instantiable RX10 16) mw_41_12)
  obtain ⟨y11, iS11, hKn11⟩ := u_known (C := RX11) (T := TX11) (N := 95) (n := 95) hts inlX11 (hts (.instantiable RX11 95) mw_41_16)
  obtain ⟨dC, dI, hKc⟩ : ∃ (dC : Nat → ClassId) (dI : Nat → Nat → Nat), ∀ (k : Nat) (q : vw_C), vwCl[k]? = some q → u_Kn s q.1 q.2.1 q.2.2 (dC k) (dI k) := by
    refine ⟨fun k => (if k = 0 then y0 else (if k = 1 then y1 else (if k = 2 then y2 else (if k = 3 then y3 else (if k = 4 then y4 else (if k = 5 then y5 else (if k = 6 then y6 else (if k = 7 then y7 else (if k = 8 then y8 else (if k = 9 then y9 else (if k = 10 then y10 else y11))))))))))), fun k => (if k = 0 then iS0 else (if k = 1 then iS1 else (if k = 2 then iS2 else (if k = 3 then iS3 else (if k = 4 then iS4 else (if k = 5 then iS5 else (if k = 6 then iS6 else (if k = 7 then iS7 else (if k = 8 then iS8 else (if k = 9 then iS9 else (if k = 10 then iS10 else iS11))))))))))), ?_⟩
    intro k q hq
    match k, hq with
    | 0, hq => cases hq; exact hKn0
    | 1, hq => cases hq; exact hKn1
    | 2, hq => cases hq; exact hKn2
    | 3, hq => cases hq; exact hKn3
    | 4, hq => cases hq; exact hKn4
    | 5, hq => cases hq; exact hKn5
    | 6, hq => cases hq; exact hKn6
    | 7, hq => cases hq; exact hKn7
    | 8, hq => cases hq; exact hKn8
    | 9, hq => cases hq; exact hKn9
    | 10, hq => cases hq; exact hKn10
    | 11, hq => cases hq; exact hKn11
    | k + 12, hq => simp [vwCl] at hq
  have hS : va_S A s.heap s.heap [] := va_S.rf
  have hK : va_K (dC, dI) vwCl [] s := ⟨hKc, fun k q h => by simp at h⟩
  have hP : va_P (dC, dI) vwCl [] s.heap := fun k q h => by simp at h
  have hD : va_D A [] := ⟨fun i j p q h => by simp at h, fun k q h => by simp at h⟩
  have hl := lv_entry ([.ref b]) (n := 8) (Nat.le_of_ble_eq_true rfl)
  rw [lg_entry_eq]
  generalize (lg_sl ([.ref b]) ++ List.replicate (8 - (lg_sl ([.ref b])).length) Slot.unset).toArray = ls at hl ⊢
  have hl : lv_has ls 8 [(0, .ref b)] := hl
  refine va_new (ci := 10) (fs := [.null, .int 0, .null, .null, .null, .null, .null, .null, .null, .null, .null, .null, .null, .null, .null, .null]) (C := RX10) (T := TX10) (N := 16) hx hb hts inlX10 tyX10 tyX10_ok hown (hts (.classLink RL 8 RX10) mw_41_11) (hts (.instantiable RX10 16) mw_41_12) (hts (.initialized RX10) mw_0_14) hK hP hD hS hA rfl (vd_X10) (Nat.le_of_ble_eq_true rfl) (Nat.le_of_ble_eq_true rfl) dL_law_0 (fun q_1 H hP hD hS => ?_)
  have hP : va_P (dC, dI) vwCl [(q_1, .inr (10, [.null, .int 0, .null, .null, .null, .null, .null, .null, .null, .null, .null, .null, .null, .null, .null, .null]))] H := hP
  have hD : va_D A [(q_1, .inr (10, [.null, .int 0, .null, .null, .null, .null, .null, .null, .null, .null, .null, .null, .null, .null, .null, .null]))] := hD
  refine W.widen (k := 1) (n := 16) (Nat.le_of_ble_eq_true rfl) (Nat.le_of_ble_eq_true rfl) ?_
  refine lv_dup hx hb dL_law_3 rfl ?_
  have hFc := va_frees hD hS hA
  refine va_callv (va_runI (As := []) (rest := [.ref q_1]) ⟨hx, hb, hml, hown, hts⟩ (c_j10 l dC dI q_1 q v H.size) (cwI 0 hts (gI mw_52_24) rfl rfl rfl (hts (.initialized RX10) mw_0_14) (hts (.methodLink RL 25 yX10_init) mw_41_13) (hts (.instanceMethod yX10_init) mw_41_14) rfl (by decide +kernel) ⟨(Nat.le_of_ble_eq_true rfl), (Nat.le_of_ble_eq_true rfl)⟩) (vSR hK hP hD hN hR hX hS hFc) rfl rfl hl.1 rfl (lv_room (Nat.le_of_ble_eq_true rfl)) dL_law_4 ⟨(Nat.le_of_ble_eq_true rfl), (Nat.le_of_ble_eq_true rfl)⟩) hS (fun q _ h => hFc q h) hFc (fun u t H1 locs ht hvm hw hB hz1 hk1 hS => ?_)
  obtain ⟨a0, k0, ha0, hPA, hKA, hDA⟩ := hB
  rw [ht] at hPA
  replace hKA := va_K.moved hvm.symm hKA
  replace hDA : va_D A ((wA a0 k0 s0A).take 95) := hDA.weaken (fun _ _ _ h => hFc _ h)
  clear hP hD hFc
  refine W.widen (k := 95) (n := 24164) (Nat.le_of_ble_eq_true rfl) (Nat.le_of_ble_eq_true rfl) ?_
  refine lv_astore_n (lv' := [(1, .ref q_1), (0, .ref b)]) hx hb dL_law_7 rfl hl (by decide) rfl (fun ls hl => ?_)
  refine va_new (ws := (wA a0 k0 s0A).take 95) (ci := 11) (fs := (.int 0 :: .null :: .int 0 :: .int 0 :: .int 0 :: .int 0 :: .int 0 :: .long 0 :: .int 0 :: .long 0 :: .int 0 :: (.double 0) :: .int 0 :: .int 0 :: .null :: .null :: .null :: .null :: .null :: .null :: .null :: .null :: .null :: .null :: .null :: .null :: .null :: .null :: .null :: .null :: .null :: .null :: .int 0 :: .int 0 :: .int 0 :: .null :: .null :: .null :: .null :: .null :: .null :: .null :: .null :: .null :: .null :: .null :: .int 0 :: .null :: .int 0 :: .int 0 :: .null :: .null :: .null :: .int 0 :: .int 0 :: .null :: .null :: .int 0 :: .null :: .null :: .null :: .int 0 :: .null :: .int 0 :: .int 0 :: .int 0 :: .int 0 :: .int 0 :: .int 0 :: .null :: .long 0 :: .long 0 :: .int 0 :: .int 0 :: .null :: .null :: .null :: .null :: .null :: .null :: .null :: .int 0 :: .int 0 :: .int 0 :: .null :: .null :: .null :: .null :: .int 0 :: .null :: .null :: .null :: .int 0 :: .int 0 :: .int 0 :: [])) (C := RX11) (T := TX11) (N := 95) hx hb hts inlX11 tyX11 tyX11_ok hown (hts (.classLink RL 26 RX11) mw_41_15) (hts (.instantiable RX11 95) mw_41_16) (hts (.initialized RX11) mw_0_15) hKA hPA hDA hS hA rfl (vd_X11) (Nat.le_of_ble_eq_true rfl) (Nat.le_of_ble_eq_true rfl) dL_law_8 (fun q_2 H hP hD hS => ?_)
  replace hP : va_P (dC, dI) vwCl ((wA a0 k0 s0A).take 95 ++ [(q_2, .inr (11, (.int 0 :: .null :: .int 0 :: .int 0 :: .int 0 :: .int 0 :: .int 0 :: .long 0 :: .int 0 :: .long 0 :: .int 0 :: (.double 0) :: .int 0 :: .int 0 :: .null :: .null :: .null :: .null :: .null :: .null :: .null :: .null :: .null :: .null :: .null :: .null :: .null :: .null :: .null :: .null :: .null :: .null :: .int 0 :: .int 0 :: .int 0 :: .null :: .null :: .null :: .null :: .null :: .null :: .null :: .null :: .null :: .null :: .null :: .int 0 :: .null :: .int 0 :: .int 0 :: .null :: .null :: .null :: .int 0 :: .int 0 :: .null :: .null :: .int 0 :: .null :: .null :: .null :: .int 0 :: .null :: .int 0 :: .int 0 :: .int 0 :: .int 0 :: .int 0 :: .int 0 :: .null :: .long 0 :: .long 0 :: .int 0 :: .int 0 :: .null :: .null :: .null :: .null :: .null :: .null :: .null :: .int 0 :: .int 0 :: .int 0 :: .null :: .null :: .null :: .null :: .int 0 :: .null :: .null :: .null :: .int 0 :: .int 0 :: .int 0 :: [])))]) H := hP
  replace hD : va_D A ((wA a0 k0 s0A).take 95 ++ [(q_2, .inr (11, (.int 0 :: .null :: .int 0 :: .int 0 :: .int 0 :: .int 0 :: .int 0 :: .long 0 :: .int 0 :: .long 0 :: .int 0 :: (.double 0) :: .int 0 :: .int 0 :: .null :: .null :: .null :: .null :: .null :: .null :: .null :: .null :: .null :: .null :: .null :: .null :: .null :: .null :: .null :: .null :: .null :: .null :: .int 0 :: .int 0 :: .int 0 :: .null :: .null :: .null :: .null :: .null :: .null :: .null :: .null :: .null :: .null :: .null :: .int 0 :: .null :: .int 0 :: .int 0 :: .null :: .null :: .null :: .int 0 :: .int 0 :: .null :: .null :: .int 0 :: .null :: .null :: .null :: .int 0 :: .null :: .int 0 :: .int 0 :: .int 0 :: .int 0 :: .int 0 :: .int 0 :: .null :: .long 0 :: .long 0 :: .int 0 :: .int 0 :: .null :: .null :: .null :: .null :: .null :: .null :: .null :: .int 0 :: .int 0 :: .int 0 :: .null :: .null :: .null :: .null :: .int 0 :: .null :: .null :: .null :: .int 0 :: .int 0 :: .int 0 :: [])))]) := hD
  have hPm : va_P (dC, dI) vwCl [(q_2, .inr (11, (.int 0 :: .null :: .int 0 :: .int 0 :: .int 0 :: .int 0 :: .int 0 :: .long 0 :: .int 0 :: .long 0 :: .int 0 :: (.double 0) :: .int 0 :: .int 0 :: .null :: .null :: .null :: .null :: .null :: .null :: .null :: .null :: .null :: .null :: .null :: .null :: .null :: .null :: .null :: .null :: .null :: .null :: .int 0 :: .int 0 :: .int 0 :: .null :: .null :: .null :: .null :: .null :: .null :: .null :: .null :: .null :: .null :: .null :: .int 0 :: .null :: .int 0 :: .int 0 :: .null :: .null :: .null :: .int 0 :: .int 0 :: .null :: .null :: .int 0 :: .null :: .null :: .null :: .int 0 :: .null :: .int 0 :: .int 0 :: .int 0 :: .int 0 :: .int 0 :: .int 0 :: .null :: .long 0 :: .long 0 :: .int 0 :: .int 0 :: .null :: .null :: .null :: .null :: .null :: .null :: .null :: .int 0 :: .int 0 :: .int 0 :: .null :: .null :: .null :: .null :: .int 0 :: .null :: .null :: .null :: .int 0 :: .int 0 :: .int 0 :: [])))] H := fun i p hp => by
    cases i with
    | zero => exact hP 95 p hp
    | succ i => cases hp
  have hPA : va_P (dC, dI) vwCl ((wA a0 k0 s0A).take 95) H := fun i p hp => hP i p (by rw [List.getElem?_append_left (List.getElem?_eq_some_iff.mp hp).1]; exact hp)
  have hDm := va_D_right hD
  have hFc := va_frees hDm hS hA
  have hKm : va_K (dC, dI) vwCl [] s := hKA.sub [] rfl
  refine W.widen (k := 96) (n := 24259) (Nat.le_of_ble_eq_true rfl) (Nat.le_of_ble_eq_true rfl) ?_
  refine lv_dup hx hb dL_law_11 rfl ?_
  refine va_callv (va_runI (As := []) (rest := [.ref q_2]) ⟨hx, hb, hml, hown, hts⟩ (c_j11 l dC dI q_2 H.size) (cwI 0 hts (gI mw_53_25) rfl rfl rfl (hts (.initialized RX11) mw_0_15) (hts (.methodLink RL 28 yX11_init) mw_41_17) (hts (.instanceMethod yX11_init) mw_41_18) rfl (by decide +kernel) ⟨(Nat.le_of_ble_eq_true rfl), (Nat.le_of_ble_eq_true rfl)⟩) (vS hKm hPm hDm hN) rfl rfl hl.1 rfl (lv_room (Nat.le_of_ble_eq_true rfl)) dL_law_12 ⟨(Nat.le_of_ble_eq_true rfl), (Nat.le_of_ble_eq_true rfl)⟩) hS (fun q _ h => hFc q h) hFc (fun u t H1 locs ht hvm hw hB hz1 hk1 hS => ?_)
  obtain ⟨b0, k2, hb0, hPB, hKB, hDB⟩ := hB
  rw [ht] at hPB
  replace hKB := va_K.moved hvm.symm hKB
  have hPA1 := keepA hPA hD hk1
  have hsz : ∀ (i : Nat) (p : Nat × va_E), ((wA a0 k0 s0A).take 95)[i]? = some p → p.1 < H.size ∧ ¬ va_A [(q_2, .inr (11, (.int 0 :: .null :: .int 0 :: .int 0 :: .int 0 :: .int 0 :: .int 0 :: .long 0 :: .int 0 :: .long 0 :: .int 0 :: (.double 0) :: .int 0 :: .int 0 :: .null :: .null :: .null :: .null :: .null :: .null :: .null :: .null :: .null :: .null :: .null :: .null :: .null :: .null :: .null :: .null :: .null :: .null :: .int 0 :: .int 0 :: .int 0 :: .null :: .null :: .null :: .null :: .null :: .null :: .null :: .null :: .null :: .null :: .null :: .int 0 :: .null :: .int 0 :: .int 0 :: .null :: .null :: .null :: .int 0 :: .int 0 :: .null :: .null :: .int 0 :: .null :: .null :: .null :: .int 0 :: .null :: .int 0 :: .int 0 :: .int 0 :: .int 0 :: .int 0 :: .int 0 :: .null :: .long 0 :: .long 0 :: .int 0 :: .int 0 :: .null :: .null :: .null :: .null :: .null :: .null :: .null :: .int 0 :: .int 0 :: .int 0 :: .null :: .null :: .null :: .null :: .int 0 :: .null :: .null :: .null :: .int 0 :: .int 0 :: .int 0 :: [])))] H.size p.1 := fun i p hp => ⟨(hPA i p hp).lt, fun h => by
    rcases h with ⟨j, e, h⟩ | h
    · exact va_D_apart hD hp h rfl
    · have := (hPA i p hp).lt; omega⟩
  have hDAB : va_D A ((wA a0 k0 s0A).take 95 ++ wB b0 k2 s0B) := va_D.app hDA (hDB.weaken (fun _ _ _ h => hFc _ h)) (fun i j x y hx9 hy9 hxy => (hsz i x hx9).2 (by rw [hxy]; exact hDB.2 j y hy9))
  clear hP hPm hPA hD hDm hFc hsz
  refine W.widen (k := 151) (n := 98363) (Nat.le_of_ble_eq_true rfl) (Nat.le_of_ble_eq_true rfl) ?_
  refine lv_astore_n (lv' := [(2, .ref q_2), (1, .ref q_1), (0, .ref b)]) hx hb dL_law_15 rfl hl (by decide) rfl (fun ls hl => ?_)
  refine lv_iconst (v := 1) hx hb dL_law_16 (by decide) ?_
  have hPAB : va_P (dC, dI) vwCl ((wA a0 k0 s0A).take 95 ++ wB b0 k2 s0B) H1 := va_P.app hPA1 hPB
  have hKAB : va_K (dC, dI) vwCl ((tA k0).take 80 ++ tB k2) s := hKA.app hKB
  refine va_newa (atype := .long) hx hb (hts (.arrayClass .long) mw_0_2) (ty := .long) rfl hKAB hPAB hDAB hS hA (n := 1) (N' := 1) (a0 := (1, .inr (.inl (fun _ => 0)))) (fun _ => rfl) (by decide) (by decide) (Nat.le_of_ble_eq_true rfl) (Nat.le_of_ble_eq_true rfl) (Nat.le_of_ble_eq_true rfl) dL_law_17 (fun q_3 cO H hK3 hP3 hD3 hS => ?_)
  replace hP3 : va_P (dC, dI) vwCl (((wA a0 k0 s0A).take 95 ++ wB b0 k2 s0B) ++ [(q_3, .inl (cO, 1, .inr (.inl (fun _ => 0))))]) H := hP3
  replace hD3 : va_D A (((wA a0 k0 s0A).take 95 ++ wB b0 k2 s0B) ++ [(q_3, .inl (cO, 1, .inr (.inl (fun _ => 0))))]) := hD3
  refine W.widen (k := 200) (n := 100000) (Nat.le_of_ble_eq_true rfl) (Nat.le_of_ble_eq_true rfl) ?_
  refine lv_astore_n (lv' := [(3, .ref q_3), (2, .ref q_2), (1, .ref q_1), (0, .ref b)]) hx hb dL_law_19 rfl hl (by decide) rfl (fun ls hl => ?_)
  refine lv_iconst (v := 0) hx hb dL_law_20 (by decide) ?_
  refine lv_istore (lv' := [(4, .int 0), (3, .ref q_3), (2, .ref q_2), (1, .ref q_1), (0, .ref b)]) hx hb dL_law_21 hl (by decide) rfl (fun ls hl => ?_)
  obtain ⟨a, ea⟩ : ∃ a : Nat → Nat, a = fun q => bif Nat.beq q 95 then q_3 else a0 q := ⟨_, rfl⟩
  obtain ⟨k, ek⟩ : ∃ k : Nat → ClassId, k = fun q => bif Nat.beq q 95 then cO else k0 q := ⟨_, rfl⟩
  have hw1 : wA a k s0A = (wA a0 k0 s0A).take 95 ++ [(q_3, .inl (cO, 1, .inr (.inl (fun _ => 0))))] := by rw [ea, ek]; rfl
  have hPA : va_P (dC, dI) vwCl (wA a k s0A) H := by rw [hw1]; exact va_P.app (fun i p hp => hP3 i p (by rw [List.append_assoc, List.getElem?_append_left (List.getElem?_eq_some_iff.mp hp).1]; exact hp)) (fun i p hp => hP3 (95 + (wB b0 k2 s0B).length + i) p (by
    rw [List.getElem?_append_right (by rw [List.length_append]; show 95 + _ ≤ _; omega)]
    rw [show 95 + (wB b0 k2 s0B).length + i - ((wA a0 k0 s0A).take 95 ++ wB b0 k2 s0B).length = i from by rw [List.length_append]; show 95 + _ + i - (95 + _) = i; omega]
    exact hp))
  have hPB : va_P (dC, dI) vwCl (wB b0 k2 s0B) H := fun i p hp => hP3 (95 + i) p (by
    rw [List.append_assoc, List.getElem?_append_right (by show 95 ≤ 95 + i; omega)]
    rw [show 95 + i - ((wA a0 k0 s0A).take 95).length = i from by show 95 + i - 95 = i; omega]
    rw [List.getElem?_append_left (List.getElem?_eq_some_iff.mp hp).1]; exact hp)
  have hDD : va_D A (wA a k s0A ++ wB b0 k2 s0B) := by
    rw [hw1]
    exact va_D_swap hD3
  have hKA1 : va_K (dC, dI) vwCl (tA k) s := by
    have z : va_K (dC, dI) vwCl (((tA k0).take 80 ++ tB k2) ++ [(cO, .long)]) s := hK3
    have z1 := z.sub (tys' := (tA k0).take 80 ++ [(cO, .long)]) (List.range 80 ++ [135]) rfl
    rw [show tA k = (tA k0).take 80 ++ [(cO, .long)] from by rw [ek]; rfl]
    exact z1
  have e0 : a 0 = q_1 := by rw [ea]; exact ha0
  have e95 : a 95 = q_3 := by rw [ea]; rfl
  replace hl : lv_has ls 8 [(4, .int (nI (6 * 0))), (3, .ref (a 95)), (2, .ref (b0 0)), (1, .ref (a 0)), (0, .ref b)] := by rw [e0, e95, hb0]; exact hl
  exact law_loop (sc := b) (a := a) (b := b0) (k := k) (k2 := k2) ⟨hx, hb, hr, hml, hown, hts2, hXs, hbl, hlocks, hst, hA, hA2, hV, hN, hKA1, hKB⟩ hL Inv hI hB 512 0 s0A s0B 0 s.drawn H locs ls (by omega) (by omega) h0 (Drawn.sameBut.refl _ _) hPA hPB hDD hS hl
