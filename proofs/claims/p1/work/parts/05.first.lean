theorem dX1_hasByte_0 : decode cX1_hasByte 0 = .ok (.aload_n 0, 1) := by decide +kernel
theorem dX1_hasByte_1 : decode cX1_hasByte 1 = .ok (.iload_n 1, 1) := by decide +kernel
theorem dX1_hasByte_2 : decode cX1_hasByte 2 = .ok (.invokevirtual 32, 3) := by decide +kernel
theorem dX1_hasByte_5 : decode cX1_hasByte 5 = .ok (.ifCond .eq 28, 3) := by decide +kernel
theorem dX1_hasByte_33 : decode cX1_hasByte 33 = .ok (.iconst 0, 1) := by decide +kernel
theorem dX1_hasByte_34 : decode cX1_hasByte 34 = .ok (.ireturn, 1) := by decide +kernel
theorem dX1_isNumber_0 : decode cX1_isNumber 0 = .ok (.iload_n 1, 1) := by decide +kernel
theorem dX1_isNumber_1 : decode cX1_isNumber 1 = .ok (.ifCond .lt 12, 3) := by decide +kernel
theorem dX1_isNumber_4 : decode cX1_isNumber 4 = .ok (.iload_n 1, 1) := by decide +kernel
theorem dX1_isNumber_5 : decode cX1_isNumber 5 = .ok (.iconst 4, 1) := by decide +kernel
theorem dX1_isNumber_6 : decode cX1_isNumber 6 = .ok (.if_icmp .ge 7, 3) := by decide +kernel
theorem dX1_isNumber_9 : decode cX1_isNumber 9 = .ok (.iconst 1, 1) := by decide +kernel
theorem dX1_isNumber_10 : decode cX1_isNumber 10 = .ok (.goto 4, 3) := by decide +kernel
theorem dX1_isNumber_13 : decode cX1_isNumber 13 = .ok (.iconst 0, 1) := by decide +kernel
theorem dX1_isNumber_14 : decode cX1_isNumber 14 = .ok (.ireturn, 1) := by decide +kernel
theorem dX1_isWritten_0 : decode cX1_isWritten 0 = .ok (.aload_n 0, 1) := by decide +kernel
theorem dX1_isWritten_1 : decode cX1_isWritten 1 = .ok (.iload_n 1, 1) := by decide +kernel
theorem dX1_isWritten_2 : decode cX1_isWritten 2 = .ok (.invokevirtual 28, 3) := by decide +kernel
theorem dX1_isWritten_5 : decode cX1_isWritten 5 = .ok (.ifCond .eq 17, 3) := by decide +kernel
theorem dX1_isWritten_8 : decode cX1_isWritten 8 = .ok (.aload_n 0, 1) := by decide +kernel
theorem dX1_isWritten_9 : decode cX1_isWritten 9 = .ok (.getfield 19, 3) := by decide +kernel
theorem dX1_isWritten_12 : decode cX1_isWritten 12 = .ok (.iload_n 1, 1) := by decide +kernel
theorem dX1_isWritten_13 : decode cX1_isWritten 13 = .ok (.iaload, 1) := by decide +kernel
theorem dX1_isWritten_14 : decode cX1_isWritten 14 = .ok (.iconst (-1), 1) := by decide +kernel
theorem dX1_isWritten_15 : decode cX1_isWritten 15 = .ok (.if_icmp .eq 7, 3) := by decide +kernel
theorem dX1_isWritten_22 : decode cX1_isWritten 22 = .ok (.iconst 0, 1) := by decide +kernel
theorem dX1_isWritten_23 : decode cX1_isWritten 23 = .ok (.ireturn, 1) := by decide +kernel
set_option maxRecDepth 100000 in
set_option maxHeartbeats 4000000 in
/-- isNumber(p0): 0 to 3 -/
theorem c_isNumber (l : Launch) (dC : Nat → ClassId) (dI : Nat → Nat → Nat) (h0 : Nat) (g : Nat → Value) (p0 : Int32) (sz : Nat) : Met l yX1_isNumber (.code yX1_isNumber cX1_isNumber 2 (some .boolean) :: pw) ({ frames := 0, cells := 0, slots := 0, locals := 0 }) (va_Pc [.ref h0, .int p0] (vPre dC dI [(h0, .inr (1, [(g 0), (g 1), (g 2)]))] [] sz)) (va_Qi (fun (r : Int32) (_ : Unit) => (r = 1 ∧ ¬ p0 < 0 ∧ ¬ 4 ≤ p0) ∨ (r = 0)) (fun (_ : Unit) t => vPst dC dI (va_A [(h0, .inr (1, [(g 0), (g 1), (g 2)]))] sz) [(h0, .inr (1, [(g 0), (g 1), (g 2)]))] [] t) (va_A [(h0, .inr (1, [(g 0), (g 1), (g 2)]))] sz)) 0 0 (va_A [(h0, .inr (1, [(g 0), (g 1), (g 2)]))] sz) := by
  refine Met.ofW (cc := cX1_isNumber) (maxL := 2) (ret := (some .boolean)) (by decide) rfl ?_
  intro p e s m args below meth c s₁ B hml hv
  obtain ⟨rfl, hsz, hP, hK, hD0⟩ := hv
  have hx := B.exec
  have hb := B.bytes
  have hr := B.returns
  have hts := atoms_spec (ws := .code yX1_isNumber cX1_isNumber 2 (some .boolean) :: pw) B.pre
  have hts : ∀ w ∈ pw, w.before _ s = true := fun w h => hts w (List.mem_cons_of_mem _ h)
  have hown : s.vm.findClass RX1 = some m.cls := findClass_of_methodNamed B.named
  have hlocks := B.notSynchronized
  subst hsz
  have hD := hD0.self (sz := s.heap.size)
  generalize hAe : va_A [(h0, .inr (1, [(g 0), (g 1), (g 2)]))] s.heap.size = A at hD ⊢
  have hA : ∀ q : Nat, s.heap.size ≤ q → A q := fun q h => by rw [← hAe]; exact Or.inr h
  have hS : va_S A s.heap s.heap [] := va_S.rf
  have hP : va_P (dC, dI) vwCl [(h0, .inr (1, [(g 0), (g 1), (g 2)]))] s.heap := hP
  have hl := lv_entry ([.ref h0, .int p0]) (n := 2) (Nat.le_of_ble_eq_true rfl)
  rw [lg_entry_eq]
  generalize (lg_sl ([.ref h0, .int p0]) ++ List.replicate (2 - (lg_sl ([.ref h0, .int p0])).length) Slot.unset).toArray = ls at hl ⊢
  have hl : lv_has ls 2 [(0, .ref h0), (1, .int p0)] := hl
  refine lv_iload_n hx hb dX1_isNumber_0 rfl (lv_at hl 1 rfl) ?_
  refine lv_if_lt (tgt := 13) hx hb dX1_isNumber_1 (by decide) (fun c_1 => ?_) (fun c_1 => ?_)
  · refine lv_iconst (v := 0) hx hb dX1_isNumber_13 (by decide) ?_
    have hP9 := hP.sub (ws' := [(h0, .inr (1, [(g 0), (g 1), (g 2)]))]) [0] rfl
    have hD9 := hD.sub (ws' := [(h0, .inr (1, [(g 0), (g 1), (g 2)]))]) [0] (by decide) rfl
    have hK9 := hK.sub (tys' := []) [] rfl
    refine W.widen (k := 0) (n := 0) (Nat.le_of_ble_eq_true rfl) (Nat.le_of_ble_eq_true rfl) ?_
    exact W.zret (v := 0) hx hb hr rfl (fun t ht hW => ⟨⟨0, (), rfl, Or.inr (rfl), by rw [ht]; exact hP9, va_K.moved hW.alike hK9, hD9⟩, hS.F ht⟩) hS.2.2 dX1_isNumber_14
  · refine lv_iload_n hx hb dX1_isNumber_4 rfl (lv_at hl 1 rfl) ?_
    refine lv_iconst (v := 4) hx hb dX1_isNumber_5 (by decide) ?_
    refine lv_icmp_ge (tgt := 13) hx hb dX1_isNumber_6 (by decide) (fun c_2 => ?_) (fun c_2 => ?_)
    · refine lv_iconst (v := 0) hx hb dX1_isNumber_13 (by decide) ?_
      have hP9 := hP.sub (ws' := [(h0, .inr (1, [(g 0), (g 1), (g 2)]))]) [0] rfl
      have hD9 := hD.sub (ws' := [(h0, .inr (1, [(g 0), (g 1), (g 2)]))]) [0] (by decide) rfl
      have hK9 := hK.sub (tys' := []) [] rfl
      refine W.widen (k := 0) (n := 0) (Nat.le_of_ble_eq_true rfl) (Nat.le_of_ble_eq_true rfl) ?_
      exact W.zret (v := 0) hx hb hr rfl (fun t ht hW => ⟨⟨0, (), rfl, Or.inr (rfl), by rw [ht]; exact hP9, va_K.moved hW.alike hK9, hD9⟩, hS.F ht⟩) hS.2.2 dX1_isNumber_14
    · refine lv_iconst (v := 1) hx hb dX1_isNumber_9 (by decide) ?_
      refine lv_goto (tgt := 14) hx hb dX1_isNumber_10 (by decide) ?_
      have hP9 := hP.sub (ws' := [(h0, .inr (1, [(g 0), (g 1), (g 2)]))]) [0] rfl
      have hD9 := hD.sub (ws' := [(h0, .inr (1, [(g 0), (g 1), (g 2)]))]) [0] (by decide) rfl
      have hK9 := hK.sub (tys' := []) [] rfl
      refine W.widen (k := 0) (n := 0) (Nat.le_of_ble_eq_true rfl) (Nat.le_of_ble_eq_true rfl) ?_
      exact W.zret (v := 1) hx hb hr rfl (fun t ht hW => ⟨⟨1, (), rfl, Or.inl (⟨rfl, c_1, c_2⟩), by rw [ht]; exact hP9, va_K.moved hW.alike hK9, hD9⟩, hS.F ht⟩) hS.2.2 dX1_isNumber_14

set_option maxRecDepth 100000 in
set_option maxHeartbeats 4000000 in
theorem c_isWritten (l : Launch) (dC : Nat → ClassId) (dI : Nat → Nat → Nat) (h0 : Nat) (h1 : Nat) (cA : ClassId) (g : Nat → Value) (p0 : Int32) (sz : Nat) : Met l yX1_isWritten (.code yX1_isWritten cX1_isWritten 2 (some .boolean) :: pw) ({ frames := 1, cells := 0, slots := 0, locals := 21 }) (va_Pc [.ref h0, .int p0] (vPre dC dI [(h0, .inr (1, [(g 0), (g 1), .ref h1])), (h1, .inl (cA, 4, .inl (fun _ => (-1))))] [(cA, .int)] sz)) (va_Qi (fun (r : Int32) (_ : Unit) => r = 0) (fun (_ : Unit) t => vPst dC dI (va_A [(h0, .inr (1, [(g 0), (g 1), .ref h1])), (h1, .inl (cA, 4, .inl (fun _ => (-1))))] sz) [(h0, .inr (1, [(g 0), (g 1), .ref h1])), (h1, .inl (cA, 4, .inl (fun _ => (-1))))] [(cA, .int)] t) (va_A [(h0, .inr (1, [(g 0), (g 1), .ref h1])), (h1, .inl (cA, 4, .inl (fun _ => (-1))))] sz)) 0 0 (va_A [(h0, .inr (1, [(g 0), (g 1), .ref h1])), (h1, .inl (cA, 4, .inl (fun _ => (-1))))] sz) := by
  refine Met.ofW (cc := cX1_isWritten) (maxL := 2) (ret := (some .boolean)) (by decide) rfl ?_
  intro p e s m args below meth c s₁ B hml hv
  obtain ⟨rfl, hsz, hP, hK, hD0⟩ := hv
  have hx := B.exec
  have hb := B.bytes
  have hr := B.returns
  have hts := atoms_spec (ws := .code yX1_isWritten cX1_isWritten 2 (some .boolean) :: pw) B.pre
  have hts : ∀ w ∈ pw, w.before _ s = true := fun w h => hts w (List.mem_cons_of_mem _ h)
  have hown : s.vm.findClass RX1 = some m.cls := findClass_of_methodNamed B.named
  have hlocks := B.notSynchronized
  subst hsz
  have hD := hD0.self (sz := s.heap.size)
  generalize hAe : va_A [(h0, .inr (1, [(g 0), (g 1), .ref h1])), (h1, .inl (cA, 4, .inl (fun _ => (-1))))] s.heap.size = A at hD ⊢
  have hA : ∀ q : Nat, s.heap.size ≤ q → A q := fun q h => by rw [← hAe]; exact Or.inr h
  have hS : va_S A s.heap s.heap [] := va_S.rf
  have hP : va_P (dC, dI) vwCl [(h0, .inr (1, [(g 0), (g 1), .ref h1])), (h1, .inl (cA, 4, .inl (fun _ => (-1))))] s.heap := hP
  have hl := lv_entry ([.ref h0, .int p0]) (n := 2) (Nat.le_of_ble_eq_true rfl)
  rw [lg_entry_eq]
  generalize (lg_sl ([.ref h0, .int p0]) ++ List.replicate (2 - (lg_sl ([.ref h0, .int p0])).length) Slot.unset).toArray = ls at hl ⊢
  have hl : lv_has ls 2 [(0, .ref h0), (1, .int p0)] := hl
  refine lv_aload_n hx hb dX1_isWritten_0 rfl (lv_at hl 0 rfl) ?_
  refine lv_iload_n hx hb dX1_isWritten_1 rfl (lv_at hl 1 rfl) ?_
  have hPc := hP.sub (ws' := [(h0, .inr (1, [(g 0), (g 1), .ref h1]))]) [0] rfl
  have hDc := hD.sub (ws' := [(h0, .inr (1, [(g 0), (g 1), .ref h1]))]) [0] (by decide) rfl
  have hKc := hK.sub (tys' := []) [] rfl
  have hFc := va_free (wc := [(h0, .inr (1, [(g 0), (g 1), .ref h1]))]) hD hS hA [0] rfl
  refine va_calli (va_runV (As := [.int p0]) (rest := []) ⟨hx, hb, hml, hown, hts⟩ (c_isNumber l dC dI h0 (fun k => (cond (Nat.beq k 2) (.ref h1) (g k))) p0 s.heap.size) (cwV 1 hts (gV mw_6_11 mw_2_26 mw_2_27 mw_0_5 mw_20_11) rfl rfl rfl (by decide +kernel) ⟨(Nat.le_of_ble_eq_true rfl), (Nat.le_of_ble_eq_true rfl)⟩) (vV (ci := 1) (q0 := 0) hKc hPc hDc rfl rfl) rfl rfl hl.1 rfl (lv_room (Nat.le_of_ble_eq_true rfl)) dX1_isWritten_2 ⟨(Nat.le_of_ble_eq_true rfl), (Nat.le_of_ble_eq_true rfl)⟩) hS (fun q _ h => hFc q h) hFc (fun r_1 u t H1 locs ht hvm hw hB hz1 hk1 hS => ?_)
  obtain ⟨hP1, hK1, hD1⟩ := hB
  rw [ht] at hP1
  have hK1 := va_K.moved hvm.symm hK1
  obtain ⟨hP, hD⟩ := va_join (wr := [(h1, .inl (cA, 4, .inl (fun _ => (-1))))]) (w1 := [(h0, .inr (1, [(g 0), (g 1), .ref h1]))]) hP hD [0] [1] rfl rfl (by decide) (by decide) hk1 hFc hP1 hD1
  clear hPc hDc hKc hP1 hK1 hD1 hFc hk1 hz1
  generalize H1 = H at hP hS ⊢
  have hP : va_P (dC, dI) vwCl [(h1, .inl (cA, 4, .inl (fun _ => (-1)))), (h0, .inr (1, [(g 0), (g 1), .ref h1]))] H := hP
  have hD : va_D A [(h1, .inl (cA, 4, .inl (fun _ => (-1)))), (h0, .inr (1, [(g 0), (g 1), .ref h1]))] := hD
  rcases hw with ⟨rfl, g_2, g_3⟩ | rfl
  · refine lv_if_eq (tgt := 22) hx hb dX1_isWritten_5 (by decide) (fun h => absurd h (by decide)) (fun _ => ?_)
    refine lv_aload_n hx hb dX1_isWritten_8 rfl (lv_at hl 0 rfl) ?_
    refine va_get (D := (dC, dI)) (ci := 1) (v := .ref h1) (C := RX1) (T := TX1) (N := 3) hx hb hts inlX1 hown hK hP 1 rfl rfl 2 (by decide) (hts (.fieldLink RX1 19 "ShapeReader$Messages" "plansUsed" "[I") mw_6_7) (fun _ h9 => h9) rfl dX1_isWritten_9 ?_
    refine lv_iload_n hx hb dX1_isWritten_12 rfl (lv_at hl 1 rfl) ?_
    refine va_iald hx hb hK hP 0 0 rfl rfl (vp_in_iff.mpr (by have a0 := il_nlt g_2; have a1 := il_nle g_3; have e0 : (0 : Int32).toInt = 0 := (by decide); have e1 : (4 : Int32).toInt = 4 := (by decide); omega)) dX1_isWritten_13 ?_
    refine lv_topi (fun k_5 ek_5 => ?_)
    obtain rfl : k_5 = (-1) := ek_5.trans rfl
    refine lv_iconst (v := (-1)) hx hb dX1_isWritten_14 (by decide) ?_
    refine lv_icmp_eq (tgt := 22) hx hb dX1_isWritten_15 (by decide) (fun _ => ?_) (fun h => absurd (by decide) h)
    refine lv_iconst (v := 0) hx hb dX1_isWritten_22 (by decide) ?_
    have hP9 := hP.sub (ws' := [(h0, .inr (1, [(g 0), (g 1), .ref h1])), (h1, .inl (cA, 4, .inl (fun _ => (-1))))]) [1, 0] rfl
    have hD9 := hD.sub (ws' := [(h0, .inr (1, [(g 0), (g 1), .ref h1])), (h1, .inl (cA, 4, .inl (fun _ => (-1))))]) [1, 0] (by decide) rfl
    have hK9 := hK.sub (tys' := [(cA, .int)]) [0] rfl
    refine W.widen (k := 0) (n := 0) (Nat.le_of_ble_eq_true rfl) (Nat.le_of_ble_eq_true rfl) ?_
    exact W.zret (v := 0) hx hb hr rfl (fun t ht hW => ⟨⟨0, (), rfl, rfl, by rw [ht]; exact hP9, va_K.moved hW.alike hK9, hD9⟩, hS.F ht⟩) hS.2.2 dX1_isWritten_23
  · refine lv_if_eq (tgt := 22) hx hb dX1_isWritten_5 (by decide) (fun _ => ?_) (fun h => absurd (by decide) h)
    refine lv_iconst (v := 0) hx hb dX1_isWritten_22 (by decide) ?_
    have hP9 := hP.sub (ws' := [(h0, .inr (1, [(g 0), (g 1), .ref h1])), (h1, .inl (cA, 4, .inl (fun _ => (-1))))]) [1, 0] rfl
    have hD9 := hD.sub (ws' := [(h0, .inr (1, [(g 0), (g 1), .ref h1])), (h1, .inl (cA, 4, .inl (fun _ => (-1))))]) [1, 0] (by decide) rfl
    have hK9 := hK.sub (tys' := [(cA, .int)]) [0] rfl
    refine W.widen (k := 0) (n := 0) (Nat.le_of_ble_eq_true rfl) (Nat.le_of_ble_eq_true rfl) ?_
    exact W.zret (v := 0) hx hb hr rfl (fun t ht hW => ⟨⟨0, (), rfl, rfl, by rw [ht]; exact hP9, va_K.moved hW.alike hK9, hD9⟩, hS.F ht⟩) hS.2.2 dX1_isWritten_23

set_option maxRecDepth 100000 in
set_option maxHeartbeats 4000000 in
theorem c_hasByte (l : Launch) (dC : Nat → ClassId) (dI : Nat → Nat → Nat) (h0 : Nat) (h1 : Nat) (cA : ClassId) (g : Nat → Value) (p0 : Int32) (p1 : Int32) (sz : Nat) : Met l yX1_hasByte (.code yX1_hasByte cX1_hasByte 3 (some .boolean) :: pw) ({ frames := 2, cells := 0, slots := 0, locals := 42 }) (va_Pc [.ref h0, .int p0, .int p1] (vPre dC dI [(h0, .inr (1, [(g 0), (g 1), .ref h1])), (h1, .inl (cA, 4, .inl (fun _ => (-1))))] [(cA, .int)] sz)) (va_Qi (fun (r : Int32) (_ : Unit) => r = 0) (fun (_ : Unit) t => vPst dC dI (va_A [(h0, .inr (1, [(g 0), (g 1), .ref h1])), (h1, .inl (cA, 4, .inl (fun _ => (-1))))] sz) [(h0, .inr (1, [(g 0), (g 1), .ref h1])), (h1, .inl (cA, 4, .inl (fun _ => (-1))))] [(cA, .int)] t) (va_A [(h0, .inr (1, [(g 0), (g 1), .ref h1])), (h1, .inl (cA, 4, .inl (fun _ => (-1))))] sz)) 0 0 (va_A [(h0, .inr (1, [(g 0), (g 1), .ref h1])), (h1, .inl (cA, 4, .inl (fun _ => (-1))))] sz) := by
  refine Met.ofW (cc := cX1_hasByte) (maxL := 3) (ret := (some .boolean)) (by decide) rfl ?_
  intro p e s m args below meth c s₁ B hml hv
  obtain ⟨rfl, hsz, hP, hK, hD0⟩ := hv
  have hx := B.exec
  have hb := B.bytes
  have hr := B.returns
  have hts := atoms_spec (ws := .code yX1_hasByte cX1_hasByte 3 (some .boolean) :: pw) B.pre
  have hts : ∀ w ∈ pw, w.before _ s = true := fun w h => hts w (List.mem_cons_of_mem _ h)
  have hown : s.vm.findClass RX1 = some m.cls := findClass_of_methodNamed B.named
  have hlocks := B.notSynchronized
  subst hsz
  have hD := hD0.self (sz := s.heap.size)
  generalize hAe : va_A [(h0, .inr (1, [(g 0), (g 1), .ref h1])), (h1, .inl (cA, 4, .inl (fun _ => (-1))))] s.heap.size = A at hD ⊢
  have hA : ∀ q : Nat, s.heap.size ≤ q → A q := fun q h => by rw [← hAe]; exact Or.inr h
  have hS : va_S A s.heap s.heap [] := va_S.rf
  have hP : va_P (dC, dI) vwCl [(h0, .inr (1, [(g 0), (g 1), .ref h1])), (h1, .inl (cA, 4, .inl (fun _ => (-1))))] s.heap := hP
  have hl := lv_entry ([.ref h0, .int p0, .int p1]) (n := 3) (Nat.le_of_ble_eq_true rfl)
  rw [lg_entry_eq]
  generalize (lg_sl ([.ref h0, .int p0, .int p1]) ++ List.replicate (3 - (lg_sl ([.ref h0, .int p0, .int p1])).length) Slot.unset).toArray = ls at hl ⊢
  have hl : lv_has ls 3 [(0, .ref h0), (1, .int p0), (2, .int p1)] := hl
  refine lv_aload_n hx hb dX1_hasByte_0 rfl (lv_at hl 0 rfl) ?_
  refine lv_iload_n hx hb dX1_hasByte_1 rfl (lv_at hl 1 rfl) ?_
  have hPc := hP.sub (ws' := [(h0, .inr (1, [(g 0), (g 1), .ref h1])), (h1, .inl (cA, 4, .inl (fun _ => (-1))))]) [0, 1] rfl
  have hDc := hD.sub (ws' := [(h0, .inr (1, [(g 0), (g 1), .ref h1])), (h1, .inl (cA, 4, .inl (fun _ => (-1))))]) [0, 1] (by decide) rfl
  have hKc := hK.sub (tys' := [(cA, .int)]) [0] rfl
  have hFc := va_free (wc := [(h0, .inr (1, [(g 0), (g 1), .ref h1])), (h1, .inl (cA, 4, .inl (fun _ => (-1))))]) hD hS hA [0, 1] rfl
  refine va_calli (va_runV (As := [.int p0]) (rest := []) ⟨hx, hb, hml, hown, hts⟩ (c_isWritten l dC dI h0 h1 cA g p0 s.heap.size) (cwV 1 hts (gV mw_6_12 mw_3_9 mw_3_10 mw_0_5 mw_20_12) rfl rfl rfl (by decide +kernel) ⟨(Nat.le_of_ble_eq_true rfl), (Nat.le_of_ble_eq_true rfl)⟩) (vV (ci := 1) (q0 := 0) hKc hPc hDc rfl rfl) rfl rfl hl.1 rfl (lv_room (Nat.le_of_ble_eq_true rfl)) dX1_hasByte_2 ⟨(Nat.le_of_ble_eq_true rfl), (Nat.le_of_ble_eq_true rfl)⟩) hS (fun q _ h => hFc q h) hFc (fun r_1 u t H1 locs ht hvm hw hB hz1 hk1 hS => ?_)
  obtain ⟨hP1, hK1, hD1⟩ := hB
  rw [ht] at hP1
  have hK1 := va_K.moved hvm.symm hK1
  obtain ⟨hP, hD⟩ := va_join (wr := []) (w1 := [(h0, .inr (1, [(g 0), (g 1), .ref h1])), (h1, .inl (cA, 4, .inl (fun _ => (-1))))]) hP hD [0, 1] [] rfl rfl (by decide) (by decide) hk1 hFc hP1 hD1
  clear hPc hDc hKc hP1 hK1 hD1 hFc hk1 hz1
  generalize H1 = H at hP hS ⊢
  have hP : va_P (dC, dI) vwCl [(h0, .inr (1, [(g 0), (g 1), .ref h1])), (h1, .inl (cA, 4, .inl (fun _ => (-1))))] H := hP
  have hD : va_D A [(h0, .inr (1, [(g 0), (g 1), .ref h1])), (h1, .inl (cA, 4, .inl (fun _ => (-1))))] := hD
  obtain rfl : r_1 = 0 := hw
  refine lv_if_eq (tgt := 33) hx hb dX1_hasByte_5 (by decide) (fun _ => ?_) (fun h => absurd (by decide) h)
  refine lv_iconst (v := 0) hx hb dX1_hasByte_33 (by decide) ?_
  have hP9 := hP.sub (ws' := [(h0, .inr (1, [(g 0), (g 1), .ref h1])), (h1, .inl (cA, 4, .inl (fun _ => (-1))))]) [0, 1] rfl
  have hD9 := hD.sub (ws' := [(h0, .inr (1, [(g 0), (g 1), .ref h1])), (h1, .inl (cA, 4, .inl (fun _ => (-1))))]) [0, 1] (by decide) rfl
  have hK9 := hK.sub (tys' := [(cA, .int)]) [0] rfl
  refine W.widen (k := 0) (n := 0) (Nat.le_of_ble_eq_true rfl) (Nat.le_of_ble_eq_true rfl) ?_
  exact W.zret (v := 0) hx hb hr rfl (fun t ht hW => ⟨⟨0, (), rfl, rfl, by rw [ht]; exact hP9, va_K.moved hW.alike hK9, hD9⟩, hS.F ht⟩) hS.2.2 dX1_hasByte_34
