/-! throwing: the words of 'throw new NoSuchElementException()' -/
def px0 : List Cond := vx_at0 RX10 219 "java/util/NoSuchElementException" ["java/lang/RuntimeException", "java/lang/Exception"]
def px : List Cond := px0.filter goodWord
theorem px_in : ∀ w ∈ px, w ∈ lw_tbl := by decide +kernel
def pB : List Cond := [.declares (Bundle.init0 "java/lang/RuntimeException"), .declares (Bundle.init0 "java/lang/Exception"), .declares (Bundle.init0 Bundle.tN), .castable "java/util/NoSuchElementException" "java/util/NoSuchElementException"]
theorem pB_all : ∀ w ∈ px0.filter (fun w => !goodWord w), w ∈ pB := by decide +kernel
theorem pB_in : ∀ w ∈ pB, w ∈ lw_tbl := by decide +kernel
theorem px_ot : ∀ w ∈ Cond.classLink RX10 217 "java/util/NoSuchElementException" :: Cond.initialized "java/util/NoSuchElementException" :: px0, vx_ot w = true := by decide +kernel
def pw2 : List Cond := pw ++ px
theorem px_good : GoodIn px px := fun w h => ⟨h, good_of_word (List.mem_filter.mp h).2⟩
theorem pw2_self : GoodIn pw2 pw2 := fun w h => ⟨h, (List.mem_append.mp h).elim (fun h => (pw_self w h).2) (fun h => (px_good w h).2)⟩
theorem pw2_in : ∀ w ∈ pw2, w ∈ lw_tbl := fun w h => (List.mem_append.mp h).elim (pw_in w) (px_in w)
theorem pw_to2 {w : Cond} (h : w ∈ pw) : w ∈ pw2 := List.mem_append_left _ h
theorem gV2 {own C : String} {i : Nat} {y : MethodName} {c : ByteArray} {n : Nat} {r : Option FieldType} (h1 : Cond.methodLink own i y ∈ pw) (h2 : Cond.instanceMethod y ∈ pw) (h3 : Cond.selects C y y ∈ pw) (h4 : Cond.initialized C ∈ pw) (h : Cond.code y c n r ∈ pw) : GoodIn pw2 (wsV own i C y (.code y c n r :: pw2)) := by
  unfold wsV
  intro w hw
  rcases List.mem_append.mp hw with hw | hw
  · simp only [List.mem_cons, List.not_mem_nil, or_false] at hw
    rcases hw with rfl | rfl | rfl | rfl
    · exact pw2_self _ (pw_to2 h1)
    · exact pw2_self _ (pw_to2 h2)
    · exact pw2_self _ (pw_to2 h3)
    · exact pw2_self _ (pw_to2 h4)
  · rcases List.mem_cons.mp hw with rfl | hw
    · exact pw2_self _ (pw_to2 h)
    · exact pw2_self _ hw
theorem gSW2 {own : String} {i : Nat} {y : MethodName} {c : ByteArray} {n : Nat} {r : Option FieldType} {hh : List (Nat × Nat × Nat × Nat)} (h1 : Cond.methodLink own i y ∈ pw) (h2 : Cond.static y ∈ pw) (h3 : Cond.initialized y.cls ∈ pw2) (h : Cond.codeWith y c n r hh ∈ pw) : GoodIn pw2 (va_wsS own i y (.codeWith y c n r hh :: pw2)) := by
  unfold va_wsS
  intro w hw
  rcases List.mem_append.mp hw with hw | hw
  · simp only [List.mem_cons, List.not_mem_nil, or_false] at hw
    rcases hw with rfl | rfl | rfl
    · exact pw2_self _ (pw_to2 h1)
    · exact pw2_self _ (pw_to2 h2)
    · exact pw2_self _ h3
  · rcases List.mem_cons.mp hw with rfl | hw
    · exact pw2_self _ (pw_to2 h)
    · exact pw2_self _ hw
/-- what a throw needs beside the words -/
def vt (A : Nat → Prop) (U : State) (H : Heap) : Prop := (∀ w ∈ pB, va_Nw w U) ∧ vx_Zq Bundle.tN "UNASSIGNED_STACK" Bundle.steD A U H ∧ vx_Zq Bundle.tN "SUPPRESSED_SENTINEL" Bundle.listD A U H
theorem pB_ot : ∀ w ∈ pB, w.onTables = true := by decide +kernel
theorem pB_warm {s U : State} (hW : s.WarmedH U.vm) (h : ∀ w ∈ pB, va_Nw w s) : ∀ w ∈ pB, va_Nw w U := by
  intro w hw
  have h1 := h w hw
  simp only [pB, List.mem_cons, List.not_mem_nil, or_false] at hw
  rcases hw with rfl | rfl | rfl | rfl
  · exact va_Nw.warmD hW h1
  · exact va_Nw.warmD hW h1
  · exact va_Nw.warmD hW h1
  · exact va_Nw.warmC hW h1
theorem vt.called {A : Nat → Prop} {U : State} {g : JFrame} {mk : MethodId} {a : Array Value} (h : vt A U U.heap) : vt A (U.calling g mk a) (U.calling g mk a).heap :=
  ⟨fun w hw => va_Nw.same (pB_ot w hw) (u := U) (U := U.calling g mk a) rfl (h.1 w hw), vx_Zq.moved (u := U) (U := U.calling g mk a) (Vm.Alike.refl U.vm) h.2.1, vx_Zq.moved (u := U) (U := U.calling g mk a) (Vm.Alike.refl U.vm) h.2.2⟩
theorem vt.at {A B : Nat → Prop} {s U : State} {H : Heap} {locs : List Loc} (h : vt A s s.heap) (hS : va_S A s.heap H locs) (hF : ∀ z, B z → A z) (hU : U.heap = H) (hW : s.WarmedH U.vm) : vt B U U.heap := by
  rw [hU]
  exact ⟨pB_warm hW h.1, ((h.2.1.kept hS.2.1).moved hW.alike).narrow hF, ((h.2.2.kept hS.2.1).moved hW.alike).narrow hF⟩
theorem vVT {dC : Nat → ClassId} {dI : Nat → Nat → Nat} {s : State} {H : Heap} {A : Nat → Prop} {locs : List Loc} {ws : va_W} {tys : List (ClassId × FieldType)} {As : List Value} {ci q0 b N : Nat} {C : String} {T : u_T} {fs : List Value} (hKc : va_K (dC, dI) vwCl tys s) (hPc : va_P (dC, dI) vwCl ws H) (hDc : va_D A ws) (hV : vt A s s.heap) (hS : va_S A s.heap H locs) (hF : ∀ z, va_A ws H.size z → A z) (hc : vwCl[ci]? = some (C, T, N)) (he : ws[q0]? = some (b, .inr (ci, fs))) : PreV s H C b (va_Pc (.ref b :: As) (fun U => vPre dC dI ws tys H.size U ∧ vt (va_A ws H.size) U U.heap)) As :=
  ⟨fun _ _ _ _ h => ⟨h.1, vPre_call h.2.1, vt.called h.2.2⟩, va_recv hKc hPc hc he, fun _ hU hW => ⟨rfl, vPre_at hKc hPc hDc hU hW, hV.at hS hF hU hW⟩⟩
theorem vST {dC : Nat → ClassId} {dI : Nat → Nat → Nat} {s : State} {H : Heap} {A : Nat → Prop} {locs : List Loc} {ws : va_W} {tys : List (ClassId × FieldType)} {As : List Value} (hKc : va_K (dC, dI) vwCl tys s) (hPc : va_P (dC, dI) vwCl ws H) (hDc : va_D A ws) (hV : vt A s s.heap) (hS : va_S A s.heap H locs) (hF : ∀ z, va_A ws H.size z → A z) : PreS s H (va_Pc As (fun U => vPre dC dI ws tys H.size U ∧ vt (va_A ws H.size) U U.heap)) As :=
  ⟨fun _ _ _ _ h => ⟨h.1, vPre_call h.2.1, vt.called h.2.2⟩, fun _ hU hW => ⟨rfl, vPre_at hKc hPc hDc hU hW, hV.at hS hF hU hW⟩⟩
theorem dL_byteAt_0 : decode cL_byteAt 0 = .ok (.aload_n 3, 1) := by decide +kernel
theorem dL_byteAt_1 : decode cL_byteAt 1 = .ok (.iconst 0, 1) := by decide +kernel
theorem dL_byteAt_2 : decode cL_byteAt 2 = .ok (.aload_n 0, 1) := by decide +kernel
theorem dL_byteAt_3 : decode cL_byteAt 3 = .ok (.iload_n 1, 1) := by decide +kernel
theorem dL_byteAt_4 : decode cL_byteAt 4 = .ok (.iload_n 2, 1) := by decide +kernel
theorem dL_byteAt_5 : decode cL_byteAt 5 = .ok (.invokevirtual 7, 3) := by decide +kernel
theorem dL_byteAt_13 : decode cL_byteAt 13 = .ok (.astore 4, 2) := by decide +kernel
theorem dL_byteAt_15 : decode cL_byteAt 15 = .ok (.iconst 1, 1) := by decide +kernel
theorem dL_byteAt_16 : decode cL_byteAt 16 = .ok (.ireturn, 1) := by decide +kernel
theorem dL_letter_0 : decode cL_letter 0 = .ok (.aload_n 3, 1) := by decide +kernel
theorem dL_letter_1 : decode cL_letter 1 = .ok (.iconst 0, 1) := by decide +kernel
theorem dL_letter_2 : decode cL_letter 2 = .ok (.aload_n 0, 1) := by decide +kernel
theorem dL_letter_3 : decode cL_letter 3 = .ok (.iload_n 1, 1) := by decide +kernel
theorem dL_letter_4 : decode cL_letter 4 = .ok (.iload_n 2, 1) := by decide +kernel
theorem dL_letter_5 : decode cL_letter 5 = .ok (.invokevirtual 22, 3) := by decide +kernel
theorem dL_letter_13 : decode cL_letter 13 = .ok (.astore 4, 2) := by decide +kernel
theorem dL_letter_15 : decode cL_letter 15 = .ok (.iconst 1, 1) := by decide +kernel
theorem dL_letter_16 : decode cL_letter 16 = .ok (.ireturn, 1) := by decide +kernel
theorem dL_node_0 : decode cL_node 0 = .ok (.aload_n 3, 1) := by decide +kernel
theorem dL_node_1 : decode cL_node 1 = .ok (.iconst 0, 1) := by decide +kernel
theorem dL_node_2 : decode cL_node 2 = .ok (.aload_n 0, 1) := by decide +kernel
theorem dL_node_3 : decode cL_node 3 = .ok (.iload_n 1, 1) := by decide +kernel
theorem dL_node_4 : decode cL_node 4 = .ok (.iload_n 2, 1) := by decide +kernel
theorem dL_node_5 : decode cL_node 5 = .ok (.invokevirtual 15, 3) := by decide +kernel
theorem dL_node_13 : decode cL_node 13 = .ok (.astore 4, 2) := by decide +kernel
theorem dL_node_15 : decode cL_node 15 = .ok (.iconst 1, 1) := by decide +kernel
theorem dL_node_16 : decode cL_node 16 = .ok (.ireturn, 1) := by decide +kernel
theorem dL_value_0 : decode cL_value 0 = .ok (.aload_n 2, 1) := by decide +kernel
theorem dL_value_1 : decode cL_value 1 = .ok (.iconst 0, 1) := by decide +kernel
theorem dL_value_2 : decode cL_value 2 = .ok (.aload_n 0, 1) := by decide +kernel
theorem dL_value_3 : decode cL_value 3 = .ok (.iload_n 1, 1) := by decide +kernel
theorem dL_value_4 : decode cL_value 4 = .ok (.invokevirtual 18, 3) := by decide +kernel
theorem dL_value_11 : decode cL_value 11 = .ok (.astore_n 3, 1) := by decide +kernel
theorem dL_value_12 : decode cL_value 12 = .ok (.iconst 1, 1) := by decide +kernel
theorem dL_value_13 : decode cL_value 13 = .ok (.ireturn, 1) := by decide +kernel
theorem dX10_byteAt_0 : decode cX10_byteAt 0 = .ok (.aload_n 0, 1) := by decide +kernel
theorem dX10_byteAt_1 : decode cX10_byteAt 1 = .ok (.getfield 48, 3) := by decide +kernel
theorem dX10_byteAt_4 : decode cX10_byteAt 4 = .ok (.iload_n 1, 1) := by decide +kernel
theorem dX10_byteAt_5 : decode cX10_byteAt 5 = .ok (.iload_n 2, 1) := by decide +kernel
theorem dX10_byteAt_6 : decode cX10_byteAt 6 = .ok (.invokevirtual 214, 3) := by decide +kernel
theorem dX10_byteAt_9 : decode cX10_byteAt 9 = .ok (.ifCond .ne 11, 3) := by decide +kernel
theorem dX10_byteAt_12 : decode cX10_byteAt 12 = .ok (.new 217, 3) := by decide +kernel
theorem dX10_byteAt_15 : decode cX10_byteAt 15 = .ok (.dup, 1) := by decide +kernel
theorem dX10_byteAt_16 : decode cX10_byteAt 16 = .ok (.invokespecial 219, 3) := by decide +kernel
theorem dX10_byteAt_19 : decode cX10_byteAt 19 = .ok (.athrow, 1) := by decide +kernel
theorem dX10_letter_0 : decode cX10_letter 0 = .ok (.aload_n 0, 1) := by decide +kernel
theorem dX10_letter_1 : decode cX10_letter 1 = .ok (.getfield 73, 3) := by decide +kernel
theorem dX10_letter_4 : decode cX10_letter 4 = .ok (.iload_n 1, 1) := by decide +kernel
theorem dX10_letter_5 : decode cX10_letter 5 = .ok (.invokevirtual 268, 3) := by decide +kernel
theorem dX10_letter_8 : decode cX10_letter 8 = .ok (.istore_n 3, 1) := by decide +kernel
theorem dX10_letter_9 : decode cX10_letter 9 = .ok (.iload_n 3, 1) := by decide +kernel
theorem dX10_letter_10 : decode cX10_letter 10 = .ok (.iconst (-1), 1) := by decide +kernel
theorem dX10_letter_11 : decode cX10_letter 11 = .ok (.if_icmp .eq 19, 3) := by decide +kernel
theorem dX10_letter_30 : decode cX10_letter 30 = .ok (.new 217, 3) := by decide +kernel
theorem dX10_letter_33 : decode cX10_letter 33 = .ok (.dup, 1) := by decide +kernel
theorem dX10_letter_34 : decode cX10_letter 34 = .ok (.invokespecial 219, 3) := by decide +kernel
theorem dX10_letter_37 : decode cX10_letter 37 = .ok (.athrow, 1) := by decide +kernel
theorem dX10_node_0 : decode cX10_node 0 = .ok (.aload_n 0, 1) := by decide +kernel
theorem dX10_node_1 : decode cX10_node 1 = .ok (.getfield 73, 3) := by decide +kernel
theorem dX10_node_4 : decode cX10_node 4 = .ok (.iload_n 1, 1) := by decide +kernel
theorem dX10_node_5 : decode cX10_node 5 = .ok (.invokevirtual 268, 3) := by decide +kernel
theorem dX10_node_8 : decode cX10_node 8 = .ok (.istore_n 3, 1) := by decide +kernel
theorem dX10_node_9 : decode cX10_node 9 = .ok (.iload_n 3, 1) := by decide +kernel
theorem dX10_node_10 : decode cX10_node 10 = .ok (.iconst (-1), 1) := by decide +kernel
theorem dX10_node_11 : decode cX10_node 11 = .ok (.if_icmp .eq 12, 3) := by decide +kernel
theorem dX10_node_23 : decode cX10_node 23 = .ok (.new 217, 3) := by decide +kernel
theorem dX10_node_26 : decode cX10_node 26 = .ok (.dup, 1) := by decide +kernel
theorem dX10_node_27 : decode cX10_node 27 = .ok (.invokespecial 219, 3) := by decide +kernel
theorem dX10_node_30 : decode cX10_node 30 = .ok (.athrow, 1) := by decide +kernel
theorem dX10_value_0 : decode cX10_value 0 = .ok (.aload_n 0, 1) := by decide +kernel
theorem dX10_value_1 : decode cX10_value 1 = .ok (.getfield 73, 3) := by decide +kernel
theorem dX10_value_4 : decode cX10_value 4 = .ok (.iload_n 1, 1) := by decide +kernel
theorem dX10_value_5 : decode cX10_value 5 = .ok (.invokevirtual 268, 3) := by decide +kernel
theorem dX10_value_8 : decode cX10_value 8 = .ok (.istore_n 2, 1) := by decide +kernel
theorem dX10_value_9 : decode cX10_value 9 = .ok (.iload_n 2, 1) := by decide +kernel
theorem dX10_value_10 : decode cX10_value 10 = .ok (.iconst (-1), 1) := by decide +kernel
theorem dX10_value_11 : decode cX10_value 11 = .ok (.if_icmp .ne 11, 3) := by decide +kernel
theorem dX10_value_14 : decode cX10_value 14 = .ok (.new 217, 3) := by decide +kernel
theorem dX10_value_17 : decode cX10_value 17 = .ok (.dup, 1) := by decide +kernel
theorem dX10_value_18 : decode cX10_value 18 = .ok (.invokespecial 219, 3) := by decide +kernel
theorem dX10_value_21 : decode cX10_value 21 = .ok (.athrow, 1) := by decide +kernel
set_option maxRecDepth 100000 in
set_option maxHeartbeats 4000000 in
theorem t_byteAt (l : Launch) (hst : l.stackTraces = false) (dC : Nat → ClassId) (dI : Nat → Nat → Nat) (h0 : Nat) (h6 : Nat) (h7 : Nat) (cA : ClassId) (g : Nat → Value) (gm : Nat → Value) (p0 : Int32) (p1 : Int32) (sz : Nat) : vx_Met l yX10_byteAt (.code yX10_byteAt cX10_byteAt 3 (some .int) :: pw2) ({ frames := 6, cells := 1, slots := 6, locals := 81 }) (va_Pc [.ref h0, .int p0, .int p1] (fun U => vPre dC dI [(h0, .inr (10, [(g 0), (g 1), (g 2), (g 3), (g 4), (g 5), .ref h6, (g 7), (g 8), (g 9), (g 10), (g 11), (g 12), (g 13), (g 14), (g 15)])), (h6, .inr (1, [(gm 0), (gm 1), .ref h7])), (h7, .inl (cA, 4, .inl (fun _ => (-1))))] [(cA, .int)] sz U ∧ vt (va_A [(h0, .inr (10, [(g 0), (g 1), (g 2), (g 3), (g 4), (g 5), .ref h6, (g 7), (g 8), (g 9), (g 10), (g 11), (g 12), (g 13), (g 14), (g 15)])), (h6, .inr (1, [(gm 0), (gm 1), .ref h7])), (h7, .inl (cA, 4, .inl (fun _ => (-1))))] sz) U U.heap)) (va_Qi (fun (_ : Int32) (_ : Unit) => False) (fun _ _ => True) (va_A [(h0, .inr (10, [(g 0), (g 1), (g 2), (g 3), (g 4), (g 5), .ref h6, (g 7), (g 8), (g 9), (g 10), (g 11), (g 12), (g 13), (g 14), (g 15)])), (h6, .inr (1, [(gm 0), (gm 1), .ref h7])), (h7, .inl (cA, 4, .inl (fun _ => (-1))))] sz)) (vx_X (fun _ : Unit => True) (fun E _ _ => E = "java/util/NoSuchElementException") (va_A [(h0, .inr (10, [(g 0), (g 1), (g 2), (g 3), (g 4), (g 5), .ref h6, (g 7), (g 8), (g 9), (g 10), (g 11), (g 12), (g 13), (g 14), (g 15)])), (h6, .inr (1, [(gm 0), (gm 1), .ref h7])), (h7, .inl (cA, 4, .inl (fun _ => (-1))))] sz)) 1 6 (va_A [(h0, .inr (10, [(g 0), (g 1), (g 2), (g 3), (g 4), (g 5), .ref h6, (g 7), (g 8), (g 9), (g 10), (g 11), (g 12), (g 13), (g 14), (g 15)])), (h6, .inr (1, [(gm 0), (gm 1), .ref h7])), (h7, .inl (cA, 4, .inl (fun _ => (-1))))] sz) := by
  refine vx_ofW (cc := cX10_byteAt) (maxL := 3) (ret := (some .int)) (by decide) rfl ?_
  intro p e s m args below meth c s₁ B hml htab hv
  obtain ⟨rfl, ⟨hsz, hP, hK, hD0⟩, hV⟩ := hv
  have hx := B.exec
  have hb := B.bytes
  have hr := B.returns
  have hts := atoms_spec (ws := .code yX10_byteAt cX10_byteAt 3 (some .int) :: pw2) B.pre
  have hts2 : ∀ w ∈ pw2, w.before _ s = true := fun w h => hts w (List.mem_cons_of_mem _ h)
  have hts : ∀ w ∈ pw, w.before _ s = true := fun w h => hts2 w (pw_to2 h)
  have hown : s.vm.findClass RX10 = some m.cls := findClass_of_methodNamed B.named
  have hlocks := B.notSynchronized
  subst hsz
  have hD := hD0.self (sz := s.heap.size)
  generalize hAe : va_A [(h0, .inr (10, [(g 0), (g 1), (g 2), (g 3), (g 4), (g 5), .ref h6, (g 7), (g 8), (g 9), (g 10), (g 11), (g 12), (g 13), (g 14), (g 15)])), (h6, .inr (1, [(gm 0), (gm 1), .ref h7])), (h7, .inl (cA, 4, .inl (fun _ => (-1))))] s.heap.size = A at hD hV ⊢
  have hA : ∀ q : Nat, s.heap.size ≤ q → A q := fun q h => by rw [← hAe]; exact Or.inr h
  have hS : va_S A s.heap s.heap [] := va_S.rf
  have hP : va_P (dC, dI) vwCl [(h0, .inr (10, [(g 0), (g 1), (g 2), (g 3), (g 4), (g 5), .ref h6, (g 7), (g 8), (g 9), (g 10), (g 11), (g 12), (g 13), (g 14), (g 15)])), (h6, .inr (1, [(gm 0), (gm 1), .ref h7])), (h7, .inl (cA, 4, .inl (fun _ => (-1))))] s.heap := hP
  have hl := lv_entry ([.ref h0, .int p0, .int p1]) (n := 3) (Nat.le_of_ble_eq_true rfl)
  rw [lg_entry_eq]
  generalize (lg_sl ([.ref h0, .int p0, .int p1]) ++ List.replicate (3 - (lg_sl ([.ref h0, .int p0, .int p1])).length) Slot.unset).toArray = ls at hl ⊢
  have hl : lv_has ls 3 [(0, .ref h0), (1, .int p0), (2, .int p1)] := hl
  refine lv_aload_n hx hb dX10_byteAt_0 rfl (lv_at hl 0 rfl) ?_
  refine va_get (D := (dC, dI)) (ci := 10) (v := .ref h6) (C := RX10) (T := TX10) (N := 16) hx hb hts inlX10 hown hK hP 0 rfl rfl 6 (by decide) (hts (.fieldLink RX10 48 "ShapeReader" "messages" "LShapeReader$Messages;") mw_1_9) (fun _ h9 => h9) rfl dX10_byteAt_1 ?_
  refine lv_iload_n hx hb dX10_byteAt_4 rfl (lv_at hl 1 rfl) ?_
  refine lv_iload_n hx hb dX10_byteAt_5 rfl (lv_at hl 2 rfl) ?_
  have hPc := hP.sub (ws' := [(h6, .inr (1, [(gm 0), (gm 1), .ref h7])), (h7, .inl (cA, 4, .inl (fun _ => (-1))))]) [1, 2] rfl
  have hDc := hD.sub (ws' := [(h6, .inr (1, [(gm 0), (gm 1), .ref h7])), (h7, .inl (cA, 4, .inl (fun _ => (-1))))]) [1, 2] (by decide) rfl
  have hKc := hK.sub (tys' := [(cA, .int)]) [0] rfl
  have hFc := va_free (wc := [(h6, .inr (1, [(gm 0), (gm 1), .ref h7])), (h7, .inl (cA, 4, .inl (fun _ => (-1))))]) hD hS hA [1, 2] rfl
  refine va_calli (va_runV (As := [.int p0, .int p1]) (rest := []) ⟨hx, hb, hml, hown, hts⟩ (c_hasByte l dC dI h6 h7 cA gm p0 p1 s.heap.size) (cwV 2 hts (gV mw_3_11 mw_3_12 mw_3_13 mw_0_5 mw_20_13) rfl rfl rfl (by decide +kernel) ⟨(Nat.le_of_ble_eq_true rfl), (Nat.le_of_ble_eq_true rfl)⟩) (vV (ci := 1) (q0 := 0) hKc hPc hDc rfl rfl) rfl rfl hl.1 rfl (lv_room (Nat.le_of_ble_eq_true rfl)) dX10_byteAt_6 ⟨(Nat.le_of_ble_eq_true rfl), (Nat.le_of_ble_eq_true rfl)⟩) hS (fun q _ h => hFc q h) hFc (fun r_1 u t H1 locs ht hvm hw hB hz1 hk1 hS => ?_)
  obtain ⟨hP1, hK1, hD1⟩ := hB
  rw [ht] at hP1
  have hK1 := va_K.moved hvm.symm hK1
  obtain ⟨hP, hD⟩ := va_join (wr := [(h0, .inr (10, [(g 0), (g 1), (g 2), (g 3), (g 4), (g 5), .ref h6, (g 7), (g 8), (g 9), (g 10), (g 11), (g 12), (g 13), (g 14), (g 15)]))]) (w1 := [(h6, .inr (1, [(gm 0), (gm 1), .ref h7])), (h7, .inl (cA, 4, .inl (fun _ => (-1))))]) hP hD [1, 2] [0] rfl rfl (by decide) (by decide) hk1 hFc hP1 hD1
  clear hPc hDc hKc hP1 hK1 hD1 hFc hk1 hz1
  generalize H1 = H at hP hS ⊢
  have hP : va_P (dC, dI) vwCl [(h0, .inr (10, [(g 0), (g 1), (g 2), (g 3), (g 4), (g 5), .ref h6, (g 7), (g 8), (g 9), (g 10), (g 11), (g 12), (g 13), (g 14), (g 15)])), (h6, .inr (1, [(gm 0), (gm 1), .ref h7])), (h7, .inl (cA, 4, .inl (fun _ => (-1))))] H := hP
  have hD : va_D A [(h0, .inr (10, [(g 0), (g 1), (g 2), (g 3), (g 4), (g 5), .ref h6, (g 7), (g 8), (g 9), (g 10), (g 11), (g 12), (g 13), (g 14), (g 15)])), (h6, .inr (1, [(gm 0), (gm 1), .ref h7])), (h7, .inl (cA, 4, .inl (fun _ => (-1))))] := hD
  obtain rfl : r_1 = 0 := hw
  refine lv_if_ne (tgt := 20) hx hb dX10_byteAt_9 (by decide) (fun h => absurd rfl h) (fun _ => ?_)
  exact vx_throw0 (A := A) (ik := 217) (ic := 219) (names := ["java/lang/RuntimeException", "java/lang/Exception"]) hx hb hst hown (by decide) (by decide) (hts (.classLink RX10 217 "java/util/NoSuchElementException") mw_3_14) (hts (.initialized "java/util/NoSuchElementException") mw_3_15) (vx_hat (L := px0) (fun w h => hts2 w (List.mem_append_right _ h)) pB_all (fun w h => va_Nw.use (pB_ot w h) (hV.1 w h))) px_ot hV.2.1 hV.2.2 hS (hl.1.trans hml.symm) dX10_byteAt_12 dX10_byteAt_15 dX10_byteAt_16 dX10_byteAt_19 (fun x h9 => (htab x h9).elim) (Nat.le_of_ble_eq_true rfl) (Nat.le_of_ble_eq_true rfl) (Nat.le_of_ble_eq_true rfl) (Nat.le_of_ble_eq_true rfl) hlocks (fun t hvm hz hk => ⟨(), trivial, rfl, Nat.le_trans hS.1 hz, fun q h1 h2 => (hk q (Nat.lt_of_lt_of_le h1 hS.1)).trans (hS.2.1 q h1 h2)⟩) hS.2.2 (Nat.le_of_ble_eq_true rfl) (Nat.le_of_ble_eq_true rfl)

set_option maxRecDepth 100000 in
set_option maxHeartbeats 4000000 in
theorem t_node (l : Launch) (hst : l.stackTraces = false) (dC : Nat → ClassId) (dI : Nat → Nat → Nat) (h0 : Nat) (h9 : Nat) (g : Nat → Value) (gt : Nat → Value) (p0 : Int32) (p1 : Int32) (sz : Nat) : vx_Met l yX10_node (.code yX10_node cX10_node 4 (some .int) :: pw2) ({ frames := 6, cells := 1, slots := 6, locals := 81 }) (va_Pc [.ref h0, .int p0, .int p1] (fun U => vPre dC dI [(h0, .inr (10, [(g 0), (g 1), (g 2), (g 3), (g 4), (g 5), (g 6), (g 7), (g 8), .ref h9, (g 10), (g 11), (g 12), (g 13), (g 14), (g 15)])), (h9, .inr (7, [(gt 0), .int 0, (gt 2), (gt 3), (gt 4), (gt 5), (gt 6), (gt 7), (gt 8), (gt 9), (gt 10), (gt 11), (gt 12)]))] [] sz U ∧ vt (va_A [(h0, .inr (10, [(g 0), (g 1), (g 2), (g 3), (g 4), (g 5), (g 6), (g 7), (g 8), .ref h9, (g 10), (g 11), (g 12), (g 13), (g 14), (g 15)])), (h9, .inr (7, [(gt 0), .int 0, (gt 2), (gt 3), (gt 4), (gt 5), (gt 6), (gt 7), (gt 8), (gt 9), (gt 10), (gt 11), (gt 12)]))] sz) U U.heap)) (va_Qi (fun (_ : Int32) (_ : Unit) => False) (fun _ _ => True) (va_A [(h0, .inr (10, [(g 0), (g 1), (g 2), (g 3), (g 4), (g 5), (g 6), (g 7), (g 8), .ref h9, (g 10), (g 11), (g 12), (g 13), (g 14), (g 15)])), (h9, .inr (7, [(gt 0), .int 0, (gt 2), (gt 3), (gt 4), (gt 5), (gt 6), (gt 7), (gt 8), (gt 9), (gt 10), (gt 11), (gt 12)]))] sz)) (vx_X (fun _ : Unit => True) (fun E _ _ => E = "java/util/NoSuchElementException") (va_A [(h0, .inr (10, [(g 0), (g 1), (g 2), (g 3), (g 4), (g 5), (g 6), (g 7), (g 8), .ref h9, (g 10), (g 11), (g 12), (g 13), (g 14), (g 15)])), (h9, .inr (7, [(gt 0), .int 0, (gt 2), (gt 3), (gt 4), (gt 5), (gt 6), (gt 7), (gt 8), (gt 9), (gt 10), (gt 11), (gt 12)]))] sz)) 1 6 (va_A [(h0, .inr (10, [(g 0), (g 1), (g 2), (g 3), (g 4), (g 5), (g 6), (g 7), (g 8), .ref h9, (g 10), (g 11), (g 12), (g 13), (g 14), (g 15)])), (h9, .inr (7, [(gt 0), .int 0, (gt 2), (gt 3), (gt 4), (gt 5), (gt 6), (gt 7), (gt 8), (gt 9), (gt 10), (gt 11), (gt 12)]))] sz) := by
  refine vx_ofW (cc := cX10_node) (maxL := 4) (ret := (some .int)) (by decide) rfl ?_
  intro p e s m args below meth c s₁ B hml htab hv
  obtain ⟨rfl, ⟨hsz, hP, hK, hD0⟩, hV⟩ := hv
  have hx := B.exec
  have hb := B.bytes
  have hr := B.returns
  have hts := atoms_spec (ws := .code yX10_node cX10_node 4 (some .int) :: pw2) B.pre
  have hts2 : ∀ w ∈ pw2, w.before _ s = true := fun w h => hts w (List.mem_cons_of_mem _ h)
  have hts : ∀ w ∈ pw, w.before _ s = true := fun w h => hts2 w (pw_to2 h)
  have hown : s.vm.findClass RX10 = some m.cls := findClass_of_methodNamed B.named
  have hlocks := B.notSynchronized
  subst hsz
  have hD := hD0.self (sz := s.heap.size)
  generalize hAe : va_A [(h0, .inr (10, [(g 0), (g 1), (g 2), (g 3), (g 4), (g 5), (g 6), (g 7), (g 8), .ref h9, (g 10), (g 11), (g 12), (g 13), (g 14), (g 15)])), (h9, .inr (7, [(gt 0), .int 0, (gt 2), (gt 3), (gt 4), (gt 5), (gt 6), (gt 7), (gt 8), (gt 9), (gt 10), (gt 11), (gt 12)]))] s.heap.size = A at hD hV ⊢
  have hA : ∀ q : Nat, s.heap.size ≤ q → A q := fun q h => by rw [← hAe]; exact Or.inr h
  have hS : va_S A s.heap s.heap [] := va_S.rf
  have hP : va_P (dC, dI) vwCl [(h0, .inr (10, [(g 0), (g 1), (g 2), (g 3), (g 4), (g 5), (g 6), (g 7), (g 8), .ref h9, (g 10), (g 11), (g 12), (g 13), (g 14), (g 15)])), (h9, .inr (7, [(gt 0), .int 0, (gt 2), (gt 3), (gt 4), (gt 5), (gt 6), (gt 7), (gt 8), (gt 9), (gt 10), (gt 11), (gt 12)]))] s.heap := hP
  have hl := lv_entry ([.ref h0, .int p0, .int p1]) (n := 4) (Nat.le_of_ble_eq_true rfl)
  rw [lg_entry_eq]
  generalize (lg_sl ([.ref h0, .int p0, .int p1]) ++ List.replicate (4 - (lg_sl ([.ref h0, .int p0, .int p1])).length) Slot.unset).toArray = ls at hl ⊢
  have hl : lv_has ls 4 [(0, .ref h0), (1, .int p0), (2, .int p1)] := hl
  refine lv_aload_n hx hb dX10_node_0 rfl (lv_at hl 0 rfl) ?_
  refine va_get (D := (dC, dI)) (ci := 10) (v := .ref h9) (C := RX10) (T := TX10) (N := 16) hx hb hts inlX10 hown hK hP 0 rfl rfl 9 (by decide) (hts (.fieldLink RX10 73 "ShapeReader" "shown" "LShapeReader$Tree;") mw_1_23) (fun _ h9 => h9) rfl dX10_node_1 ?_
  refine lv_iload_n hx hb dX10_node_4 rfl (lv_at hl 1 rfl) ?_
  have hPc := hP.sub (ws' := [(h9, .inr (7, [(gt 0), .int 0, (gt 2), (gt 3), (gt 4), (gt 5), (gt 6), (gt 7), (gt 8), (gt 9), (gt 10), (gt 11), (gt 12)]))]) [1] rfl
  have hDc := hD.sub (ws' := [(h9, .inr (7, [(gt 0), .int 0, (gt 2), (gt 3), (gt 4), (gt 5), (gt 6), (gt 7), (gt 8), (gt 9), (gt 10), (gt 11), (gt 12)]))]) [1] (by decide) rfl
  have hKc := hK.sub (tys' := []) [] rfl
  have hFc := va_free (wc := [(h9, .inr (7, [(gt 0), .int 0, (gt 2), (gt 3), (gt 4), (gt 5), (gt 6), (gt 7), (gt 8), (gt 9), (gt 10), (gt 11), (gt 12)]))]) hD hS hA [1] rfl
  refine va_calli (va_runV (As := [.int p0]) (rest := []) ⟨hx, hb, hml, hown, hts⟩ (c_rowAt l dC dI h9 gt p0 s.heap.size) (cwV 1 hts (gV mw_3_20 mw_3_21 mw_3_22 mw_0_11 mw_20_19) rfl rfl rfl (by decide +kernel) ⟨(Nat.le_of_ble_eq_true rfl), (Nat.le_of_ble_eq_true rfl)⟩) (vV (ci := 7) (q0 := 0) hKc hPc hDc rfl rfl) rfl rfl hl.1 rfl (lv_room (Nat.le_of_ble_eq_true rfl)) dX10_node_5 ⟨(Nat.le_of_ble_eq_true rfl), (Nat.le_of_ble_eq_true rfl)⟩) hS (fun q _ h => hFc q h) hFc (fun r_1 u t H1 locs ht hvm hw hB hz1 hk1 hS => ?_)
  obtain ⟨hP1, hK1, hD1⟩ := hB
  rw [ht] at hP1
  have hK1 := va_K.moved hvm.symm hK1
  obtain ⟨hP, hD⟩ := va_join (wr := [(h0, .inr (10, [(g 0), (g 1), (g 2), (g 3), (g 4), (g 5), (g 6), (g 7), (g 8), .ref h9, (g 10), (g 11), (g 12), (g 13), (g 14), (g 15)]))]) (w1 := [(h9, .inr (7, [(gt 0), .int 0, (gt 2), (gt 3), (gt 4), (gt 5), (gt 6), (gt 7), (gt 8), (gt 9), (gt 10), (gt 11), (gt 12)]))]) hP hD [1] [0] rfl rfl (by decide) (by decide) hk1 hFc hP1 hD1
  clear hPc hDc hKc hP1 hK1 hD1 hFc hk1 hz1
  generalize H1 = H at hP hS ⊢
  have hP : va_P (dC, dI) vwCl [(h0, .inr (10, [(g 0), (g 1), (g 2), (g 3), (g 4), (g 5), (g 6), (g 7), (g 8), .ref h9, (g 10), (g 11), (g 12), (g 13), (g 14), (g 15)])), (h9, .inr (7, [(gt 0), .int 0, (gt 2), (gt 3), (gt 4), (gt 5), (gt 6), (gt 7), (gt 8), (gt 9), (gt 10), (gt 11), (gt 12)]))] H := hP
  have hD : va_D A [(h0, .inr (10, [(g 0), (g 1), (g 2), (g 3), (g 4), (g 5), (g 6), (g 7), (g 8), .ref h9, (g 10), (g 11), (g 12), (g 13), (g 14), (g 15)])), (h9, .inr (7, [(gt 0), .int 0, (gt 2), (gt 3), (gt 4), (gt 5), (gt 6), (gt 7), (gt 8), (gt 9), (gt 10), (gt 11), (gt 12)]))] := hD
  obtain rfl : r_1 = (-1) := hw
  refine lv_istore_n (lv' := [(3, .int (-1)), (0, .ref h0), (1, .int p0), (2, .int p1)]) hx hb dX10_node_8 rfl hl (by decide) rfl (fun ls hl => ?_)
  refine lv_iload_n hx hb dX10_node_9 rfl (lv_at hl 0 rfl) ?_
  refine lv_iconst (v := (-1)) hx hb dX10_node_10 (by decide) ?_
  refine lv_icmp_eq (tgt := 23) hx hb dX10_node_11 (by decide) (fun _ => ?_) (fun h => absurd (by decide) h)
  exact vx_throw0 (A := A) (ik := 217) (ic := 219) (names := ["java/lang/RuntimeException", "java/lang/Exception"]) hx hb hst hown (by decide) (by decide) (hts (.classLink RX10 217 "java/util/NoSuchElementException") mw_3_14) (hts (.initialized "java/util/NoSuchElementException") mw_3_15) (vx_hat (L := px0) (fun w h => hts2 w (List.mem_append_right _ h)) pB_all (fun w h => va_Nw.use (pB_ot w h) (hV.1 w h))) px_ot hV.2.1 hV.2.2 hS (hl.1.trans hml.symm) dX10_node_23 dX10_node_26 dX10_node_27 dX10_node_30 (fun x h9 => (htab x h9).elim) (Nat.le_of_ble_eq_true rfl) (Nat.le_of_ble_eq_true rfl) (Nat.le_of_ble_eq_true rfl) (Nat.le_of_ble_eq_true rfl) hlocks (fun t hvm hz hk => ⟨(), trivial, rfl, Nat.le_trans hS.1 hz, fun q h1 h2 => (hk q (Nat.lt_of_lt_of_le h1 hS.1)).trans (hS.2.1 q h1 h2)⟩) hS.2.2 (Nat.le_of_ble_eq_true rfl) (Nat.le_of_ble_eq_true rfl)

set_option maxRecDepth 100000 in
set_option maxHeartbeats 4000000 in
theorem t_value (l : Launch) (hst : l.stackTraces = false) (dC : Nat → ClassId) (dI : Nat → Nat → Nat) (h0 : Nat) (h9 : Nat) (g : Nat → Value) (gt : Nat → Value) (p0 : Int32) (sz : Nat) : vx_Met l yX10_value (.code yX10_value cX10_value 3 (some .long) :: pw2) ({ frames := 6, cells := 1, slots := 6, locals := 81 }) (va_Pc [.ref h0, .int p0] (fun U => vPre dC dI [(h0, .inr (10, [(g 0), (g 1), (g 2), (g 3), (g 4), (g 5), (g 6), (g 7), (g 8), .ref h9, (g 10), (g 11), (g 12), (g 13), (g 14), (g 15)])), (h9, .inr (7, [(gt 0), .int 0, (gt 2), (gt 3), (gt 4), (gt 5), (gt 6), (gt 7), (gt 8), (gt 9), (gt 10), (gt 11), (gt 12)]))] [] sz U ∧ vt (va_A [(h0, .inr (10, [(g 0), (g 1), (g 2), (g 3), (g 4), (g 5), (g 6), (g 7), (g 8), .ref h9, (g 10), (g 11), (g 12), (g 13), (g 14), (g 15)])), (h9, .inr (7, [(gt 0), .int 0, (gt 2), (gt 3), (gt 4), (gt 5), (gt 6), (gt 7), (gt 8), (gt 9), (gt 10), (gt 11), (gt 12)]))] sz) U U.heap)) (va_Ql (fun (_ : Int64) (_ : Unit) => False) (fun _ _ => True) (va_A [(h0, .inr (10, [(g 0), (g 1), (g 2), (g 3), (g 4), (g 5), (g 6), (g 7), (g 8), .ref h9, (g 10), (g 11), (g 12), (g 13), (g 14), (g 15)])), (h9, .inr (7, [(gt 0), .int 0, (gt 2), (gt 3), (gt 4), (gt 5), (gt 6), (gt 7), (gt 8), (gt 9), (gt 10), (gt 11), (gt 12)]))] sz)) (vx_X (fun _ : Unit => True) (fun E _ _ => E = "java/util/NoSuchElementException") (va_A [(h0, .inr (10, [(g 0), (g 1), (g 2), (g 3), (g 4), (g 5), (g 6), (g 7), (g 8), .ref h9, (g 10), (g 11), (g 12), (g 13), (g 14), (g 15)])), (h9, .inr (7, [(gt 0), .int 0, (gt 2), (gt 3), (gt 4), (gt 5), (gt 6), (gt 7), (gt 8), (gt 9), (gt 10), (gt 11), (gt 12)]))] sz)) 1 6 (va_A [(h0, .inr (10, [(g 0), (g 1), (g 2), (g 3), (g 4), (g 5), (g 6), (g 7), (g 8), .ref h9, (g 10), (g 11), (g 12), (g 13), (g 14), (g 15)])), (h9, .inr (7, [(gt 0), .int 0, (gt 2), (gt 3), (gt 4), (gt 5), (gt 6), (gt 7), (gt 8), (gt 9), (gt 10), (gt 11), (gt 12)]))] sz) := by
  refine vx_ofW (cc := cX10_value) (maxL := 3) (ret := (some .long)) (by decide) rfl ?_
  intro p e s m args below meth c s₁ B hml htab hv
  obtain ⟨rfl, ⟨hsz, hP, hK, hD0⟩, hV⟩ := hv
  have hx := B.exec
  have hb := B.bytes
  have hr := B.returns
  have hts := atoms_spec (ws := .code yX10_value cX10_value 3 (some .long) :: pw2) B.pre
  have hts2 : ∀ w ∈ pw2, w.before _ s = true := fun w h => hts w (List.mem_cons_of_mem _ h)
  have hts : ∀ w ∈ pw, w.before _ s = true := fun w h => hts2 w (pw_to2 h)
  have hown : s.vm.findClass RX10 = some m.cls := findClass_of_methodNamed B.named
  have hlocks := B.notSynchronized
  subst hsz
  have hD := hD0.self (sz := s.heap.size)
  generalize hAe : va_A [(h0, .inr (10, [(g 0), (g 1), (g 2), (g 3), (g 4), (g 5), (g 6), (g 7), (g 8), .ref h9, (g 10), (g 11), (g 12), (g 13), (g 14), (g 15)])), (h9, .inr (7, [(gt 0), .int 0, (gt 2), (gt 3), (gt 4), (gt 5), (gt 6), (gt 7), (gt 8), (gt 9), (gt 10), (gt 11), (gt 12)]))] s.heap.size = A at hD hV ⊢
  have hA : ∀ q : Nat, s.heap.size ≤ q → A q := fun q h => by rw [← hAe]; exact Or.inr h
  have hS : va_S A s.heap s.heap [] := va_S.rf
  have hP : va_P (dC, dI) vwCl [(h0, .inr (10, [(g 0), (g 1), (g 2), (g 3), (g 4), (g 5), (g 6), (g 7), (g 8), .ref h9, (g 10), (g 11), (g 12), (g 13), (g 14), (g 15)])), (h9, .inr (7, [(gt 0), .int 0, (gt 2), (gt 3), (gt 4), (gt 5), (gt 6), (gt 7), (gt 8), (gt 9), (gt 10), (gt 11), (gt 12)]))] s.heap := hP
  have hl := lv_entry ([.ref h0, .int p0]) (n := 3) (Nat.le_of_ble_eq_true rfl)
  rw [lg_entry_eq]
  generalize (lg_sl ([.ref h0, .int p0]) ++ List.replicate (3 - (lg_sl ([.ref h0, .int p0])).length) Slot.unset).toArray = ls at hl ⊢
  have hl : lv_has ls 3 [(0, .ref h0), (1, .int p0)] := hl
  refine lv_aload_n hx hb dX10_value_0 rfl (lv_at hl 0 rfl) ?_
  refine va_get (D := (dC, dI)) (ci := 10) (v := .ref h9) (C := RX10) (T := TX10) (N := 16) hx hb hts inlX10 hown hK hP 0 rfl rfl 9 (by decide) (hts (.fieldLink RX10 73 "ShapeReader" "shown" "LShapeReader$Tree;") mw_1_23) (fun _ h9 => h9) rfl dX10_value_1 ?_
  refine lv_iload_n hx hb dX10_value_4 rfl (lv_at hl 1 rfl) ?_
  have hPc := hP.sub (ws' := [(h9, .inr (7, [(gt 0), .int 0, (gt 2), (gt 3), (gt 4), (gt 5), (gt 6), (gt 7), (gt 8), (gt 9), (gt 10), (gt 11), (gt 12)]))]) [1] rfl
  have hDc := hD.sub (ws' := [(h9, .inr (7, [(gt 0), .int 0, (gt 2), (gt 3), (gt 4), (gt 5), (gt 6), (gt 7), (gt 8), (gt 9), (gt 10), (gt 11), (gt 12)]))]) [1] (by decide) rfl
  have hKc := hK.sub (tys' := []) [] rfl
  have hFc := va_free (wc := [(h9, .inr (7, [(gt 0), .int 0, (gt 2), (gt 3), (gt 4), (gt 5), (gt 6), (gt 7), (gt 8), (gt 9), (gt 10), (gt 11), (gt 12)]))]) hD hS hA [1] rfl
  refine va_calli (va_runV (As := [.int p0]) (rest := []) ⟨hx, hb, hml, hown, hts⟩ (c_rowAt l dC dI h9 gt p0 s.heap.size) (cwV 1 hts (gV mw_3_20 mw_3_21 mw_3_22 mw_0_11 mw_20_19) rfl rfl rfl (by decide +kernel) ⟨(Nat.le_of_ble_eq_true rfl), (Nat.le_of_ble_eq_true rfl)⟩) (vV (ci := 7) (q0 := 0) hKc hPc hDc rfl rfl) rfl rfl hl.1 rfl (lv_room (Nat.le_of_ble_eq_true rfl)) dX10_value_5 ⟨(Nat.le_of_ble_eq_true rfl), (Nat.le_of_ble_eq_true rfl)⟩) hS (fun q _ h => hFc q h) hFc (fun r_1 u t H1 locs ht hvm hw hB hz1 hk1 hS => ?_)
  obtain ⟨hP1, hK1, hD1⟩ := hB
  rw [ht] at hP1
  have hK1 := va_K.moved hvm.symm hK1
  obtain ⟨hP, hD⟩ := va_join (wr := [(h0, .inr (10, [(g 0), (g 1), (g 2), (g 3), (g 4), (g 5), (g 6), (g 7), (g 8), .ref h9, (g 10), (g 11), (g 12), (g 13), (g 14), (g 15)]))]) (w1 := [(h9, .inr (7, [(gt 0), .int 0, (gt 2), (gt 3), (gt 4), (gt 5), (gt 6), (gt 7), (gt 8), (gt 9), (gt 10), (gt 11), (gt 12)]))]) hP hD [1] [0] rfl rfl (by decide) (by decide) hk1 hFc hP1 hD1
  clear hPc hDc hKc hP1 hK1 hD1 hFc hk1 hz1
  generalize H1 = H at hP hS ⊢
  have hP : va_P (dC, dI) vwCl [(h0, .inr (10, [(g 0), (g 1), (g 2), (g 3), (g 4), (g 5), (g 6), (g 7), (g 8), .ref h9, (g 10), (g 11), (g 12), (g 13), (g 14), (g 15)])), (h9, .inr (7, [(gt 0), .int 0, (gt 2), (gt 3), (gt 4), (gt 5), (gt 6), (gt 7), (gt 8), (gt 9), (gt 10), (gt 11), (gt 12)]))] H := hP
  have hD : va_D A [(h0, .inr (10, [(g 0), (g 1), (g 2), (g 3), (g 4), (g 5), (g 6), (g 7), (g 8), .ref h9, (g 10), (g 11), (g 12), (g 13), (g 14), (g 15)])), (h9, .inr (7, [(gt 0), .int 0, (gt 2), (gt 3), (gt 4), (gt 5), (gt 6), (gt 7), (gt 8), (gt 9), (gt 10), (gt 11), (gt 12)]))] := hD
  obtain rfl : r_1 = (-1) := hw
  refine lv_istore_n (lv' := [(2, .int (-1)), (0, .ref h0), (1, .int p0)]) hx hb dX10_value_8 rfl hl (by decide) rfl (fun ls hl => ?_)
  refine lv_iload_n hx hb dX10_value_9 rfl (lv_at hl 0 rfl) ?_
  refine lv_iconst (v := (-1)) hx hb dX10_value_10 (by decide) ?_
  refine lv_icmp_ne (tgt := 22) hx hb dX10_value_11 (by decide) (fun h => absurd rfl h) (fun _ => ?_)
  exact vx_throw0 (A := A) (ik := 217) (ic := 219) (names := ["java/lang/RuntimeException", "java/lang/Exception"]) hx hb hst hown (by decide) (by decide) (hts (.classLink RX10 217 "java/util/NoSuchElementException") mw_3_14) (hts (.initialized "java/util/NoSuchElementException") mw_3_15) (vx_hat (L := px0) (fun w h => hts2 w (List.mem_append_right _ h)) pB_all (fun w h => va_Nw.use (pB_ot w h) (hV.1 w h))) px_ot hV.2.1 hV.2.2 hS (hl.1.trans hml.symm) dX10_value_14 dX10_value_17 dX10_value_18 dX10_value_21 (fun x h9 => (htab x h9).elim) (Nat.le_of_ble_eq_true rfl) (Nat.le_of_ble_eq_true rfl) (Nat.le_of_ble_eq_true rfl) (Nat.le_of_ble_eq_true rfl) hlocks (fun t hvm hz hk => ⟨(), trivial, rfl, Nat.le_trans hS.1 hz, fun q h1 h2 => (hk q (Nat.lt_of_lt_of_le h1 hS.1)).trans (hS.2.1 q h1 h2)⟩) hS.2.2 (Nat.le_of_ble_eq_true rfl) (Nat.le_of_ble_eq_true rfl)

set_option maxRecDepth 100000 in
set_option maxHeartbeats 4000000 in
theorem t_letter (l : Launch) (hst : l.stackTraces = false) (dC : Nat → ClassId) (dI : Nat → Nat → Nat) (h0 : Nat) (h9 : Nat) (g : Nat → Value) (gt : Nat → Value) (p0 : Int32) (p1 : Int32) (sz : Nat) : vx_Met l yX10_letter (.code yX10_letter cX10_letter 4 (some .int) :: pw2) ({ frames := 6, cells := 1, slots := 6, locals := 81 }) (va_Pc [.ref h0, .int p0, .int p1] (fun U => vPre dC dI [(h0, .inr (10, [(g 0), (g 1), (g 2), (g 3), (g 4), (g 5), (g 6), (g 7), (g 8), .ref h9, (g 10), (g 11), (g 12), (g 13), (g 14), (g 15)])), (h9, .inr (7, [(gt 0), .int 0, (gt 2), (gt 3), (gt 4), (gt 5), (gt 6), (gt 7), (gt 8), (gt 9), (gt 10), (gt 11), (gt 12)]))] [] sz U ∧ vt (va_A [(h0, .inr (10, [(g 0), (g 1), (g 2), (g 3), (g 4), (g 5), (g 6), (g 7), (g 8), .ref h9, (g 10), (g 11), (g 12), (g 13), (g 14), (g 15)])), (h9, .inr (7, [(gt 0), .int 0, (gt 2), (gt 3), (gt 4), (gt 5), (gt 6), (gt 7), (gt 8), (gt 9), (gt 10), (gt 11), (gt 12)]))] sz) U U.heap)) (va_Qi (fun (_ : Int32) (_ : Unit) => False) (fun _ _ => True) (va_A [(h0, .inr (10, [(g 0), (g 1), (g 2), (g 3), (g 4), (g 5), (g 6), (g 7), (g 8), .ref h9, (g 10), (g 11), (g 12), (g 13), (g 14), (g 15)])), (h9, .inr (7, [(gt 0), .int 0, (gt 2), (gt 3), (gt 4), (gt 5), (gt 6), (gt 7), (gt 8), (gt 9), (gt 10), (gt 11), (gt 12)]))] sz)) (vx_X (fun _ : Unit => True) (fun E _ _ => E = "java/util/NoSuchElementException") (va_A [(h0, .inr (10, [(g 0), (g 1), (g 2), (g 3), (g 4), (g 5), (g 6), (g 7), (g 8), .ref h9, (g 10), (g 11), (g 12), (g 13), (g 14), (g 15)])), (h9, .inr (7, [(gt 0), .int 0, (gt 2), (gt 3), (gt 4), (gt 5), (gt 6), (gt 7), (gt 8), (gt 9), (gt 10), (gt 11), (gt 12)]))] sz)) 1 6 (va_A [(h0, .inr (10, [(g 0), (g 1), (g 2), (g 3), (g 4), (g 5), (g 6), (g 7), (g 8), .ref h9, (g 10), (g 11), (g 12), (g 13), (g 14), (g 15)])), (h9, .inr (7, [(gt 0), .int 0, (gt 2), (gt 3), (gt 4), (gt 5), (gt 6), (gt 7), (gt 8), (gt 9), (gt 10), (gt 11), (gt 12)]))] sz) := by
  refine vx_ofW (cc := cX10_letter) (maxL := 4) (ret := (some .int)) (by decide) rfl ?_
  intro p e s m args below meth c s₁ B hml htab hv
  obtain ⟨rfl, ⟨hsz, hP, hK, hD0⟩, hV⟩ := hv
  have hx := B.exec
  have hb := B.bytes
  have hr := B.returns
  have hts := atoms_spec (ws := .code yX10_letter cX10_letter 4 (some .int) :: pw2) B.pre
  have hts2 : ∀ w ∈ pw2, w.before _ s = true := fun w h => hts w (List.mem_cons_of_mem _ h)
  have hts : ∀ w ∈ pw, w.before _ s = true := fun w h => hts2 w (pw_to2 h)
  have hown : s.vm.findClass RX10 = some m.cls := findClass_of_methodNamed B.named
  have hlocks := B.notSynchronized
  subst hsz
  have hD := hD0.self (sz := s.heap.size)
  generalize hAe : va_A [(h0, .inr (10, [(g 0), (g 1), (g 2), (g 3), (g 4), (g 5), (g 6), (g 7), (g 8), .ref h9, (g 10), (g 11), (g 12), (g 13), (g 14), (g 15)])), (h9, .inr (7, [(gt 0), .int 0, (gt 2), (gt 3), (gt 4), (gt 5), (gt 6), (gt 7), (gt 8), (gt 9), (gt 10), (gt 11), (gt 12)]))] s.heap.size = A at hD hV ⊢
  have hA : ∀ q : Nat, s.heap.size ≤ q → A q := fun q h => by rw [← hAe]; exact Or.inr h
  have hS : va_S A s.heap s.heap [] := va_S.rf
  have hP : va_P (dC, dI) vwCl [(h0, .inr (10, [(g 0), (g 1), (g 2), (g 3), (g 4), (g 5), (g 6), (g 7), (g 8), .ref h9, (g 10), (g 11), (g 12), (g 13), (g 14), (g 15)])), (h9, .inr (7, [(gt 0), .int 0, (gt 2), (gt 3), (gt 4), (gt 5), (gt 6), (gt 7), (gt 8), (gt 9), (gt 10), (gt 11), (gt 12)]))] s.heap := hP
  have hl := lv_entry ([.ref h0, .int p0, .int p1]) (n := 4) (Nat.le_of_ble_eq_true rfl)
  rw [lg_entry_eq]
  generalize (lg_sl ([.ref h0, .int p0, .int p1]) ++ List.replicate (4 - (lg_sl ([.ref h0, .int p0, .int p1])).length) Slot.unset).toArray = ls at hl ⊢
  have hl : lv_has ls 4 [(0, .ref h0), (1, .int p0), (2, .int p1)] := hl
  refine lv_aload_n hx hb dX10_letter_0 rfl (lv_at hl 0 rfl) ?_
  refine va_get (D := (dC, dI)) (ci := 10) (v := .ref h9) (C := RX10) (T := TX10) (N := 16) hx hb hts inlX10 hown hK hP 0 rfl rfl 9 (by decide) (hts (.fieldLink RX10 73 "ShapeReader" "shown" "LShapeReader$Tree;") mw_1_23) (fun _ h9 => h9) rfl dX10_letter_1 ?_
  refine lv_iload_n hx hb dX10_letter_4 rfl (lv_at hl 1 rfl) ?_
  have hPc := hP.sub (ws' := [(h9, .inr (7, [(gt 0), .int 0, (gt 2), (gt 3), (gt 4), (gt 5), (gt 6), (gt 7), (gt 8), (gt 9), (gt 10), (gt 11), (gt 12)]))]) [1] rfl
  have hDc := hD.sub (ws' := [(h9, .inr (7, [(gt 0), .int 0, (gt 2), (gt 3), (gt 4), (gt 5), (gt 6), (gt 7), (gt 8), (gt 9), (gt 10), (gt 11), (gt 12)]))]) [1] (by decide) rfl
  have hKc := hK.sub (tys' := []) [] rfl
  have hFc := va_free (wc := [(h9, .inr (7, [(gt 0), .int 0, (gt 2), (gt 3), (gt 4), (gt 5), (gt 6), (gt 7), (gt 8), (gt 9), (gt 10), (gt 11), (gt 12)]))]) hD hS hA [1] rfl
  refine va_calli (va_runV (As := [.int p0]) (rest := []) ⟨hx, hb, hml, hown, hts⟩ (c_rowAt l dC dI h9 gt p0 s.heap.size) (cwV 1 hts (gV mw_3_20 mw_3_21 mw_3_22 mw_0_11 mw_20_19) rfl rfl rfl (by decide +kernel) ⟨(Nat.le_of_ble_eq_true rfl), (Nat.le_of_ble_eq_true rfl)⟩) (vV (ci := 7) (q0 := 0) hKc hPc hDc rfl rfl) rfl rfl hl.1 rfl (lv_room (Nat.le_of_ble_eq_true rfl)) dX10_letter_5 ⟨(Nat.le_of_ble_eq_true rfl), (Nat.le_of_ble_eq_true rfl)⟩) hS (fun q _ h => hFc q h) hFc (fun r_1 u t H1 locs ht hvm hw hB hz1 hk1 hS => ?_)
  obtain ⟨hP1, hK1, hD1⟩ := hB
  rw [ht] at hP1
  have hK1 := va_K.moved hvm.symm hK1
  obtain ⟨hP, hD⟩ := va_join (wr := [(h0, .inr (10, [(g 0), (g 1), (g 2), (g 3), (g 4), (g 5), (g 6), (g 7), (g 8), .ref h9, (g 10), (g 11), (g 12), (g 13), (g 14), (g 15)]))]) (w1 := [(h9, .inr (7, [(gt 0), .int 0, (gt 2), (gt 3), (gt 4), (gt 5), (gt 6), (gt 7), (gt 8), (gt 9), (gt 10), (gt 11), (gt 12)]))]) hP hD [1] [0] rfl rfl (by decide) (by decide) hk1 hFc hP1 hD1
  clear hPc hDc hKc hP1 hK1 hD1 hFc hk1 hz1
  generalize H1 = H at hP hS ⊢
  have hP : va_P (dC, dI) vwCl [(h0, .inr (10, [(g 0), (g 1), (g 2), (g 3), (g 4), (g 5), (g 6), (g 7), (g 8), .ref h9, (g 10), (g 11), (g 12), (g 13), (g 14), (g 15)])), (h9, .inr (7, [(gt 0), .int 0, (gt 2), (gt 3), (gt 4), (gt 5), (gt 6), (gt 7), (gt 8), (gt 9), (gt 10), (gt 11), (gt 12)]))] H := hP
  have hD : va_D A [(h0, .inr (10, [(g 0), (g 1), (g 2), (g 3), (g 4), (g 5), (g 6), (g 7), (g 8), .ref h9, (g 10), (g 11), (g 12), (g 13), (g 14), (g 15)])), (h9, .inr (7, [(gt 0), .int 0, (gt 2), (gt 3), (gt 4), (gt 5), (gt 6), (gt 7), (gt 8), (gt 9), (gt 10), (gt 11), (gt 12)]))] := hD
  obtain rfl : r_1 = (-1) := hw
  refine lv_istore_n (lv' := [(3, .int (-1)), (0, .ref h0), (1, .int p0), (2, .int p1)]) hx hb dX10_letter_8 rfl hl (by decide) rfl (fun ls hl => ?_)
  refine lv_iload_n hx hb dX10_letter_9 rfl (lv_at hl 0 rfl) ?_
  refine lv_iconst (v := (-1)) hx hb dX10_letter_10 (by decide) ?_
  refine lv_icmp_eq (tgt := 30) hx hb dX10_letter_11 (by decide) (fun _ => ?_) (fun h => absurd (by decide) h)
  exact vx_throw0 (A := A) (ik := 217) (ic := 219) (names := ["java/lang/RuntimeException", "java/lang/Exception"]) hx hb hst hown (by decide) (by decide) (hts (.classLink RX10 217 "java/util/NoSuchElementException") mw_3_14) (hts (.initialized "java/util/NoSuchElementException") mw_3_15) (vx_hat (L := px0) (fun w h => hts2 w (List.mem_append_right _ h)) pB_all (fun w h => va_Nw.use (pB_ot w h) (hV.1 w h))) px_ot hV.2.1 hV.2.2 hS (hl.1.trans hml.symm) dX10_letter_30 dX10_letter_33 dX10_letter_34 dX10_letter_37 (fun x h9 => (htab x h9).elim) (Nat.le_of_ble_eq_true rfl) (Nat.le_of_ble_eq_true rfl) (Nat.le_of_ble_eq_true rfl) (Nat.le_of_ble_eq_true rfl) hlocks (fun t hvm hz hk => ⟨(), trivial, rfl, Nat.le_trans hS.1 hz, fun q h1 h2 => (hk q (Nat.lt_of_lt_of_le h1 hS.1)).trans (hS.2.1 q h1 h2)⟩) hS.2.2 (Nat.le_of_ble_eq_true rfl) (Nat.le_of_ble_eq_true rfl)

set_option maxRecDepth 100000 in
set_option maxHeartbeats 4000000 in
theorem h_byteAt (l : Launch) (hst : l.stackTraces = false) (dC : Nat → ClassId) (dI : Nat → Nat → Nat) (h0 : Nat) (h6 : Nat) (h7 : Nat) (cA : ClassId) (g : Nat → Value) (gm : Nat → Value) (p0 : Int32) (p1 : Int32) (o : Nat) (sz : Nat) : vx_Met l yL_byteAt (.codeWith yL_byteAt cL_byteAt 5 (some .int) [(0, 10, 13, 13)] :: pw2) ({ frames := 7, cells := 1, slots := 6, locals := 103 }) (va_Pc [.ref h0, .int p0, .int p1, .ref o] (fun U => vPre dC dI [(h0, .inr (10, [(g 0), (g 1), (g 2), (g 3), (g 4), (g 5), .ref h6, (g 7), (g 8), (g 9), (g 10), (g 11), (g 12), (g 13), (g 14), (g 15)])), (h6, .inr (1, [(gm 0), (gm 1), .ref h7])), (h7, .inl (cA, 4, .inl (fun _ => (-1))))] [(cA, .int)] sz U ∧ vt (va_A [(h0, .inr (10, [(g 0), (g 1), (g 2), (g 3), (g 4), (g 5), .ref h6, (g 7), (g 8), (g 9), (g 10), (g 11), (g 12), (g 13), (g 14), (g 15)])), (h6, .inr (1, [(gm 0), (gm 1), .ref h7])), (h7, .inl (cA, 4, .inl (fun _ => (-1))))] sz) U U.heap)) (va_Qi (fun (r : Int32) (_ : Unit) => r = 1) (fun _ _ => True) (va_A [(h0, .inr (10, [(g 0), (g 1), (g 2), (g 3), (g 4), (g 5), .ref h6, (g 7), (g 8), (g 9), (g 10), (g 11), (g 12), (g 13), (g 14), (g 15)])), (h6, .inr (1, [(gm 0), (gm 1), .ref h7])), (h7, .inl (cA, 4, .inl (fun _ => (-1))))] sz)) (vx_X (fun _ : Unit => False) (fun _ _ _ => True) (va_A [(h0, .inr (10, [(g 0), (g 1), (g 2), (g 3), (g 4), (g 5), .ref h6, (g 7), (g 8), (g 9), (g 10), (g 11), (g 12), (g 13), (g 14), (g 15)])), (h6, .inr (1, [(gm 0), (gm 1), .ref h7])), (h7, .inl (cA, 4, .inl (fun _ => (-1))))] sz)) 1 6 (va_A [(h0, .inr (10, [(g 0), (g 1), (g 2), (g 3), (g 4), (g 5), .ref h6, (g 7), (g 8), (g 9), (g 10), (g 11), (g 12), (g 13), (g 14), (g 15)])), (h6, .inr (1, [(gm 0), (gm 1), .ref h7])), (h7, .inl (cA, 4, .inl (fun _ => (-1))))] sz) := by
  refine vx_ofWH (cc := cL_byteAt) (maxL := 5) (ret := (some .int)) (hh := [(0, 10, 13, 13)]) (by decide) rfl ?_
  intro p e s m args below meth c s₁ B hml hv
  obtain ⟨rfl, ⟨hsz, hP, hK, hD0⟩, hV⟩ := hv
  have hx := B.exec
  have hb := B.bytes
  have hr := B.returns
  have hts0 := atoms_spec (ws := .codeWith yL_byteAt cL_byteAt 5 (some .int) [(0, 10, 13, 13)] :: pw2) B.pre
  have htab := vx_table (x := yL_byteAt) B (hts0 _ List.mem_cons_self)
  have hts2 : ∀ w ∈ pw2, w.before _ s = true := fun w h => hts0 w (List.mem_cons_of_mem _ h)
  have hown : s.vm.findClass RL = some m.cls := findClass_of_methodNamed B.named
  have hlocks := B.notSynchronized
  subst hsz
  have hD := hD0.self (sz := s.heap.size)
  generalize hAe : va_A [(h0, .inr (10, [(g 0), (g 1), (g 2), (g 3), (g 4), (g 5), .ref h6, (g 7), (g 8), (g 9), (g 10), (g 11), (g 12), (g 13), (g 14), (g 15)])), (h6, .inr (1, [(gm 0), (gm 1), .ref h7])), (h7, .inl (cA, 4, .inl (fun _ => (-1))))] s.heap.size = A at hD hV ⊢
  have hA : ∀ q : Nat, s.heap.size ≤ q → A q := fun q h => by rw [← hAe]; exact Or.inr h
  have hS : va_S A s.heap s.heap [] := va_S.rf
  have hl := lv_entry ([.ref h0, .int p0, .int p1, .ref o]) (n := 5) (Nat.le_of_ble_eq_true rfl)
  rw [lg_entry_eq]
  generalize (lg_sl ([.ref h0, .int p0, .int p1, .ref o]) ++ List.replicate (5 - (lg_sl ([.ref h0, .int p0, .int p1, .ref o])).length) Slot.unset).toArray = ls at hl ⊢
  have hl : lv_has ls 5 [(0, .ref h0), (1, .int p0), (2, .int p1), (3, .ref o)] := hl
  refine lv_aload_n hx hb dL_byteAt_0 rfl (lv_at hl 3 rfl) ?_
  refine lv_iconst (v := 0) hx hb dL_byteAt_1 (by decide) ?_
  refine lv_aload_n hx hb dL_byteAt_2 rfl (lv_at hl 0 rfl) ?_
  refine lv_iload_n hx hb dL_byteAt_3 rfl (lv_at hl 1 rfl) ?_
  refine lv_iload_n hx hb dL_byteAt_4 rfl (lv_at hl 2 rfl) ?_
  have hFc := va_free (wc := [(h0, .inr (10, [(g 0), (g 1), (g 2), (g 3), (g 4), (g 5), .ref h6, (g 7), (g 8), (g 9), (g 10), (g 11), (g 12), (g 13), (g 14), (g 15)])), (h6, .inr (1, [(gm 0), (gm 1), .ref h7])), (h7, .inl (cA, 4, .inl (fun _ => (-1))))]) hD hS hA [0, 1, 2] rfl
  refine vx_calli (vx_runV (As := [.int p0, .int p1]) (rest := [.int 0, .ref o]) ⟨hx, hb, hml, hown, hts2⟩ (t_byteAt l hst dC dI h0 h6 h7 cA g gm p0 p1 s.heap.size) (cwV 2 hts2 (gV2 mw_13_4 mw_13_5 mw_13_6 mw_0_14 mw_19_10) rfl rfl rfl (by decide +kernel) ⟨(Nat.le_of_ble_eq_true rfl), (Nat.le_of_ble_eq_true rfl)⟩) (vVT (ci := 10) (q0 := 0) hK hP hD hV hS hFc rfl rfl) rfl rfl hl.1 rfl (lv_room (Nat.le_of_ble_eq_true rfl)) dL_byteAt_5 ⟨(Nat.le_of_ble_eq_true rfl), (Nat.le_of_ble_eq_true rfl)⟩) hS (fun q _ h => hFc q h) hFc (fun q _ h => hFc q h) (fun E ce q9 u t H1 locs ht hvm hw hB hz1 hk1 hS h91 h92 h93 => ?_) (fun r u t H1 locs ht hvm hw hB hz1 hk1 hS => hw.elim)
  subst hB
  refine vx_catch hown [] _ [] htab (fun z h => absurd h List.not_mem_nil) (by decide) (by decide) (hts2 _ (pw_to2 mw_18_12)) (va_Nw.use rfl (hV.1 _ (List.mem_of_getElem? (i := 3) rfl))) h91 h92 h93 ?_
  refine W.eq (g2 := F0 m 13 ls [.ref q9]) rfl ?_
  refine lv_astore (lv' := [(4, .ref q9), (0, .ref h0), (1, .int p0), (2, .int p1), (3, .ref o)]) hx hb dL_byteAt_13 hl (by decide) rfl (fun ls hl => ?_)
  refine lv_iconst (v := 1) hx hb dL_byteAt_15 (by decide) ?_
  refine vx_ret ?_
  refine W.widen (k := 1) (n := 6) (Nat.le_of_ble_eq_true rfl) (Nat.le_of_ble_eq_true rfl) ?_
  exact W.iret (v := 1) hx hb hr (fun t ht hW => ⟨⟨1, (), rfl, rfl, trivial⟩, hS.F ht⟩) hS.2.2 dL_byteAt_16

set_option maxRecDepth 100000 in
set_option maxHeartbeats 4000000 in
theorem h_node (l : Launch) (hst : l.stackTraces = false) (dC : Nat → ClassId) (dI : Nat → Nat → Nat) (h0 : Nat) (h9 : Nat) (g : Nat → Value) (gt : Nat → Value) (p0 : Int32) (p1 : Int32) (o : Nat) (sz : Nat) : vx_Met l yL_node (.codeWith yL_node cL_node 5 (some .int) [(0, 10, 13, 13)] :: pw2) ({ frames := 7, cells := 1, slots := 6, locals := 104 }) (va_Pc [.ref h0, .int p0, .int p1, .ref o] (fun U => vPre dC dI [(h0, .inr (10, [(g 0), (g 1), (g 2), (g 3), (g 4), (g 5), (g 6), (g 7), (g 8), .ref h9, (g 10), (g 11), (g 12), (g 13), (g 14), (g 15)])), (h9, .inr (7, [(gt 0), .int 0, (gt 2), (gt 3), (gt 4), (gt 5), (gt 6), (gt 7), (gt 8), (gt 9), (gt 10), (gt 11), (gt 12)]))] [] sz U ∧ vt (va_A [(h0, .inr (10, [(g 0), (g 1), (g 2), (g 3), (g 4), (g 5), (g 6), (g 7), (g 8), .ref h9, (g 10), (g 11), (g 12), (g 13), (g 14), (g 15)])), (h9, .inr (7, [(gt 0), .int 0, (gt 2), (gt 3), (gt 4), (gt 5), (gt 6), (gt 7), (gt 8), (gt 9), (gt 10), (gt 11), (gt 12)]))] sz) U U.heap)) (va_Qi (fun (r : Int32) (_ : Unit) => r = 1) (fun _ _ => True) (va_A [(h0, .inr (10, [(g 0), (g 1), (g 2), (g 3), (g 4), (g 5), (g 6), (g 7), (g 8), .ref h9, (g 10), (g 11), (g 12), (g 13), (g 14), (g 15)])), (h9, .inr (7, [(gt 0), .int 0, (gt 2), (gt 3), (gt 4), (gt 5), (gt 6), (gt 7), (gt 8), (gt 9), (gt 10), (gt 11), (gt 12)]))] sz)) (vx_X (fun _ : Unit => False) (fun _ _ _ => True) (va_A [(h0, .inr (10, [(g 0), (g 1), (g 2), (g 3), (g 4), (g 5), (g 6), (g 7), (g 8), .ref h9, (g 10), (g 11), (g 12), (g 13), (g 14), (g 15)])), (h9, .inr (7, [(gt 0), .int 0, (gt 2), (gt 3), (gt 4), (gt 5), (gt 6), (gt 7), (gt 8), (gt 9), (gt 10), (gt 11), (gt 12)]))] sz)) 1 6 (va_A [(h0, .inr (10, [(g 0), (g 1), (g 2), (g 3), (g 4), (g 5), (g 6), (g 7), (g 8), .ref h9, (g 10), (g 11), (g 12), (g 13), (g 14), (g 15)])), (h9, .inr (7, [(gt 0), .int 0, (gt 2), (gt 3), (gt 4), (gt 5), (gt 6), (gt 7), (gt 8), (gt 9), (gt 10), (gt 11), (gt 12)]))] sz) := by
  refine vx_ofWH (cc := cL_node) (maxL := 5) (ret := (some .int)) (hh := [(0, 10, 13, 13)]) (by decide) rfl ?_
  intro p e s m args below meth c s₁ B hml hv
  obtain ⟨rfl, ⟨hsz, hP, hK, hD0⟩, hV⟩ := hv
  have hx := B.exec
  have hb := B.bytes
  have hr := B.returns
  have hts0 := atoms_spec (ws := .codeWith yL_node cL_node 5 (some .int) [(0, 10, 13, 13)] :: pw2) B.pre
  have htab := vx_table (x := yL_node) B (hts0 _ List.mem_cons_self)
  have hts2 : ∀ w ∈ pw2, w.before _ s = true := fun w h => hts0 w (List.mem_cons_of_mem _ h)
  have hown : s.vm.findClass RL = some m.cls := findClass_of_methodNamed B.named
  have hlocks := B.notSynchronized
  subst hsz
  have hD := hD0.self (sz := s.heap.size)
  generalize hAe : va_A [(h0, .inr (10, [(g 0), (g 1), (g 2), (g 3), (g 4), (g 5), (g 6), (g 7), (g 8), .ref h9, (g 10), (g 11), (g 12), (g 13), (g 14), (g 15)])), (h9, .inr (7, [(gt 0), .int 0, (gt 2), (gt 3), (gt 4), (gt 5), (gt 6), (gt 7), (gt 8), (gt 9), (gt 10), (gt 11), (gt 12)]))] s.heap.size = A at hD hV ⊢
  have hA : ∀ q : Nat, s.heap.size ≤ q → A q := fun q h => by rw [← hAe]; exact Or.inr h
  have hS : va_S A s.heap s.heap [] := va_S.rf
  have hl := lv_entry ([.ref h0, .int p0, .int p1, .ref o]) (n := 5) (Nat.le_of_ble_eq_true rfl)
  rw [lg_entry_eq]
  generalize (lg_sl ([.ref h0, .int p0, .int p1, .ref o]) ++ List.replicate (5 - (lg_sl ([.ref h0, .int p0, .int p1, .ref o])).length) Slot.unset).toArray = ls at hl ⊢
  have hl : lv_has ls 5 [(0, .ref h0), (1, .int p0), (2, .int p1), (3, .ref o)] := hl
  refine lv_aload_n hx hb dL_node_0 rfl (lv_at hl 3 rfl) ?_
  refine lv_iconst (v := 0) hx hb dL_node_1 (by decide) ?_
  refine lv_aload_n hx hb dL_node_2 rfl (lv_at hl 0 rfl) ?_
  refine lv_iload_n hx hb dL_node_3 rfl (lv_at hl 1 rfl) ?_
  refine lv_iload_n hx hb dL_node_4 rfl (lv_at hl 2 rfl) ?_
  have hFc := va_free (wc := [(h0, .inr (10, [(g 0), (g 1), (g 2), (g 3), (g 4), (g 5), (g 6), (g 7), (g 8), .ref h9, (g 10), (g 11), (g 12), (g 13), (g 14), (g 15)])), (h9, .inr (7, [(gt 0), .int 0, (gt 2), (gt 3), (gt 4), (gt 5), (gt 6), (gt 7), (gt 8), (gt 9), (gt 10), (gt 11), (gt 12)]))]) hD hS hA [0, 1] rfl
  refine vx_calli (vx_runV (As := [.int p0, .int p1]) (rest := [.int 0, .ref o]) ⟨hx, hb, hml, hown, hts2⟩ (t_node l hst dC dI h0 h9 g gt p0 p1 s.heap.size) (cwV 2 hts2 (gV2 mw_13_7 mw_13_8 mw_13_9 mw_0_14 mw_19_20) rfl rfl rfl (by decide +kernel) ⟨(Nat.le_of_ble_eq_true rfl), (Nat.le_of_ble_eq_true rfl)⟩) (vVT (ci := 10) (q0 := 0) hK hP hD hV hS hFc rfl rfl) rfl rfl hl.1 rfl (lv_room (Nat.le_of_ble_eq_true rfl)) dL_node_5 ⟨(Nat.le_of_ble_eq_true rfl), (Nat.le_of_ble_eq_true rfl)⟩) hS (fun q _ h => hFc q h) hFc (fun q _ h => hFc q h) (fun E ce q9 u t H1 locs ht hvm hw hB hz1 hk1 hS h91 h92 h93 => ?_) (fun r u t H1 locs ht hvm hw hB hz1 hk1 hS => hw.elim)
  subst hB
  refine vx_catch hown [] _ [] htab (fun z h => absurd h List.not_mem_nil) (by decide) (by decide) (hts2 _ (pw_to2 mw_18_12)) (va_Nw.use rfl (hV.1 _ (List.mem_of_getElem? (i := 3) rfl))) h91 h92 h93 ?_
  refine W.eq (g2 := F0 m 13 ls [.ref q9]) rfl ?_
  refine lv_astore (lv' := [(4, .ref q9), (0, .ref h0), (1, .int p0), (2, .int p1), (3, .ref o)]) hx hb dL_node_13 hl (by decide) rfl (fun ls hl => ?_)
  refine lv_iconst (v := 1) hx hb dL_node_15 (by decide) ?_
  refine vx_ret ?_
  refine W.widen (k := 1) (n := 6) (Nat.le_of_ble_eq_true rfl) (Nat.le_of_ble_eq_true rfl) ?_
  exact W.iret (v := 1) hx hb hr (fun t ht hW => ⟨⟨1, (), rfl, rfl, trivial⟩, hS.F ht⟩) hS.2.2 dL_node_16

set_option maxRecDepth 100000 in
set_option maxHeartbeats 4000000 in
theorem h_value (l : Launch) (hst : l.stackTraces = false) (dC : Nat → ClassId) (dI : Nat → Nat → Nat) (h0 : Nat) (h9 : Nat) (g : Nat → Value) (gt : Nat → Value) (p0 : Int32) (o : Nat) (sz : Nat) : vx_Met l yL_value (.codeWith yL_value cL_value 4 (some .int) [(0, 8, 11, 13)] :: pw2) ({ frames := 7, cells := 1, slots := 6, locals := 103 }) (va_Pc [.ref h0, .int p0, .ref o] (fun U => vPre dC dI [(h0, .inr (10, [(g 0), (g 1), (g 2), (g 3), (g 4), (g 5), (g 6), (g 7), (g 8), .ref h9, (g 10), (g 11), (g 12), (g 13), (g 14), (g 15)])), (h9, .inr (7, [(gt 0), .int 0, (gt 2), (gt 3), (gt 4), (gt 5), (gt 6), (gt 7), (gt 8), (gt 9), (gt 10), (gt 11), (gt 12)]))] [] sz U ∧ vt (va_A [(h0, .inr (10, [(g 0), (g 1), (g 2), (g 3), (g 4), (g 5), (g 6), (g 7), (g 8), .ref h9, (g 10), (g 11), (g 12), (g 13), (g 14), (g 15)])), (h9, .inr (7, [(gt 0), .int 0, (gt 2), (gt 3), (gt 4), (gt 5), (gt 6), (gt 7), (gt 8), (gt 9), (gt 10), (gt 11), (gt 12)]))] sz) U U.heap)) (va_Qi (fun (r : Int32) (_ : Unit) => r = 1) (fun _ _ => True) (va_A [(h0, .inr (10, [(g 0), (g 1), (g 2), (g 3), (g 4), (g 5), (g 6), (g 7), (g 8), .ref h9, (g 10), (g 11), (g 12), (g 13), (g 14), (g 15)])), (h9, .inr (7, [(gt 0), .int 0, (gt 2), (gt 3), (gt 4), (gt 5), (gt 6), (gt 7), (gt 8), (gt 9), (gt 10), (gt 11), (gt 12)]))] sz)) (vx_X (fun _ : Unit => False) (fun _ _ _ => True) (va_A [(h0, .inr (10, [(g 0), (g 1), (g 2), (g 3), (g 4), (g 5), (g 6), (g 7), (g 8), .ref h9, (g 10), (g 11), (g 12), (g 13), (g 14), (g 15)])), (h9, .inr (7, [(gt 0), .int 0, (gt 2), (gt 3), (gt 4), (gt 5), (gt 6), (gt 7), (gt 8), (gt 9), (gt 10), (gt 11), (gt 12)]))] sz)) 1 6 (va_A [(h0, .inr (10, [(g 0), (g 1), (g 2), (g 3), (g 4), (g 5), (g 6), (g 7), (g 8), .ref h9, (g 10), (g 11), (g 12), (g 13), (g 14), (g 15)])), (h9, .inr (7, [(gt 0), .int 0, (gt 2), (gt 3), (gt 4), (gt 5), (gt 6), (gt 7), (gt 8), (gt 9), (gt 10), (gt 11), (gt 12)]))] sz) := by
  refine vx_ofWH (cc := cL_value) (maxL := 4) (ret := (some .int)) (hh := [(0, 8, 11, 13)]) (by decide) rfl ?_
  intro p e s m args below meth c s₁ B hml hv
  obtain ⟨rfl, ⟨hsz, hP, hK, hD0⟩, hV⟩ := hv
  have hx := B.exec
  have hb := B.bytes
  have hr := B.returns
  have hts0 := atoms_spec (ws := .codeWith yL_value cL_value 4 (some .int) [(0, 8, 11, 13)] :: pw2) B.pre
  have htab := vx_table (x := yL_value) B (hts0 _ List.mem_cons_self)
  have hts2 : ∀ w ∈ pw2, w.before _ s = true := fun w h => hts0 w (List.mem_cons_of_mem _ h)
  have hown : s.vm.findClass RL = some m.cls := findClass_of_methodNamed B.named
  have hlocks := B.notSynchronized
  subst hsz
  have hD := hD0.self (sz := s.heap.size)
  generalize hAe : va_A [(h0, .inr (10, [(g 0), (g 1), (g 2), (g 3), (g 4), (g 5), (g 6), (g 7), (g 8), .ref h9, (g 10), (g 11), (g 12), (g 13), (g 14), (g 15)])), (h9, .inr (7, [(gt 0), .int 0, (gt 2), (gt 3), (gt 4), (gt 5), (gt 6), (gt 7), (gt 8), (gt 9), (gt 10), (gt 11), (gt 12)]))] s.heap.size = A at hD hV ⊢
  have hA : ∀ q : Nat, s.heap.size ≤ q → A q := fun q h => by rw [← hAe]; exact Or.inr h
  have hS : va_S A s.heap s.heap [] := va_S.rf
  have hl := lv_entry ([.ref h0, .int p0, .ref o]) (n := 4) (Nat.le_of_ble_eq_true rfl)
  rw [lg_entry_eq]
  generalize (lg_sl ([.ref h0, .int p0, .ref o]) ++ List.replicate (4 - (lg_sl ([.ref h0, .int p0, .ref o])).length) Slot.unset).toArray = ls at hl ⊢
  have hl : lv_has ls 4 [(0, .ref h0), (1, .int p0), (2, .ref o)] := hl
  refine lv_aload_n hx hb dL_value_0 rfl (lv_at hl 2 rfl) ?_
  refine lv_iconst (v := 0) hx hb dL_value_1 (by decide) ?_
  refine lv_aload_n hx hb dL_value_2 rfl (lv_at hl 0 rfl) ?_
  refine lv_iload_n hx hb dL_value_3 rfl (lv_at hl 1 rfl) ?_
  have hFc := va_free (wc := [(h0, .inr (10, [(g 0), (g 1), (g 2), (g 3), (g 4), (g 5), (g 6), (g 7), (g 8), .ref h9, (g 10), (g 11), (g 12), (g 13), (g 14), (g 15)])), (h9, .inr (7, [(gt 0), .int 0, (gt 2), (gt 3), (gt 4), (gt 5), (gt 6), (gt 7), (gt 8), (gt 9), (gt 10), (gt 11), (gt 12)]))]) hD hS hA [0, 1] rfl
  refine vx_calll (vx_runV (As := [.int p0]) (rest := [.int 0, .ref o]) ⟨hx, hb, hml, hown, hts2⟩ (t_value l hst dC dI h0 h9 g gt p0 s.heap.size) (cwV 1 hts2 (gV2 mw_13_10 mw_13_11 mw_13_12 mw_0_14 mw_19_21) rfl rfl rfl (by decide +kernel) ⟨(Nat.le_of_ble_eq_true rfl), (Nat.le_of_ble_eq_true rfl)⟩) (vVT (ci := 10) (q0 := 0) hK hP hD hV hS hFc rfl rfl) rfl rfl hl.1 rfl (lv_room (Nat.le_of_ble_eq_true rfl)) dL_value_4 ⟨(Nat.le_of_ble_eq_true rfl), (Nat.le_of_ble_eq_true rfl)⟩) hS (fun q _ h => hFc q h) hFc (fun q _ h => hFc q h) (fun E ce q9 u t H1 locs ht hvm hw hB hz1 hk1 hS h91 h92 h93 => ?_) (fun r u t H1 locs ht hvm hw hB hz1 hk1 hS => hw.elim)
  subst hB
  refine vx_catch hown [] _ [] htab (fun z h => absurd h List.not_mem_nil) (by decide) (by decide) (hts2 _ (pw_to2 mw_18_12)) (va_Nw.use rfl (hV.1 _ (List.mem_of_getElem? (i := 3) rfl))) h91 h92 h93 ?_
  refine W.eq (g2 := F0 m 11 ls [.ref q9]) rfl ?_
  refine lv_astore_n (lv' := [(3, .ref q9), (0, .ref h0), (1, .int p0), (2, .ref o)]) hx hb dL_value_11 rfl hl (by decide) rfl (fun ls hl => ?_)
  refine lv_iconst (v := 1) hx hb dL_value_12 (by decide) ?_
  refine vx_ret ?_
  refine W.widen (k := 1) (n := 6) (Nat.le_of_ble_eq_true rfl) (Nat.le_of_ble_eq_true rfl) ?_
  exact W.iret (v := 1) hx hb hr (fun t ht hW => ⟨⟨1, (), rfl, rfl, trivial⟩, hS.F ht⟩) hS.2.2 dL_value_13

set_option maxRecDepth 100000 in
set_option maxHeartbeats 4000000 in
theorem h_letter (l : Launch) (hst : l.stackTraces = false) (dC : Nat → ClassId) (dI : Nat → Nat → Nat) (h0 : Nat) (h9 : Nat) (g : Nat → Value) (gt : Nat → Value) (p0 : Int32) (p1 : Int32) (o : Nat) (sz : Nat) : vx_Met l yL_letter (.codeWith yL_letter cL_letter 5 (some .int) [(0, 10, 13, 13)] :: pw2) ({ frames := 7, cells := 1, slots := 6, locals := 104 }) (va_Pc [.ref h0, .int p0, .int p1, .ref o] (fun U => vPre dC dI [(h0, .inr (10, [(g 0), (g 1), (g 2), (g 3), (g 4), (g 5), (g 6), (g 7), (g 8), .ref h9, (g 10), (g 11), (g 12), (g 13), (g 14), (g 15)])), (h9, .inr (7, [(gt 0), .int 0, (gt 2), (gt 3), (gt 4), (gt 5), (gt 6), (gt 7), (gt 8), (gt 9), (gt 10), (gt 11), (gt 12)]))] [] sz U ∧ vt (va_A [(h0, .inr (10, [(g 0), (g 1), (g 2), (g 3), (g 4), (g 5), (g 6), (g 7), (g 8), .ref h9, (g 10), (g 11), (g 12), (g 13), (g 14), (g 15)])), (h9, .inr (7, [(gt 0), .int 0, (gt 2), (gt 3), (gt 4), (gt 5), (gt 6), (gt 7), (gt 8), (gt 9), (gt 10), (gt 11), (gt 12)]))] sz) U U.heap)) (va_Qi (fun (r : Int32) (_ : Unit) => r = 1) (fun _ _ => True) (va_A [(h0, .inr (10, [(g 0), (g 1), (g 2), (g 3), (g 4), (g 5), (g 6), (g 7), (g 8), .ref h9, (g 10), (g 11), (g 12), (g 13), (g 14), (g 15)])), (h9, .inr (7, [(gt 0), .int 0, (gt 2), (gt 3), (gt 4), (gt 5), (gt 6), (gt 7), (gt 8), (gt 9), (gt 10), (gt 11), (gt 12)]))] sz)) (vx_X (fun _ : Unit => False) (fun _ _ _ => True) (va_A [(h0, .inr (10, [(g 0), (g 1), (g 2), (g 3), (g 4), (g 5), (g 6), (g 7), (g 8), .ref h9, (g 10), (g 11), (g 12), (g 13), (g 14), (g 15)])), (h9, .inr (7, [(gt 0), .int 0, (gt 2), (gt 3), (gt 4), (gt 5), (gt 6), (gt 7), (gt 8), (gt 9), (gt 10), (gt 11), (gt 12)]))] sz)) 1 6 (va_A [(h0, .inr (10, [(g 0), (g 1), (g 2), (g 3), (g 4), (g 5), (g 6), (g 7), (g 8), .ref h9, (g 10), (g 11), (g 12), (g 13), (g 14), (g 15)])), (h9, .inr (7, [(gt 0), .int 0, (gt 2), (gt 3), (gt 4), (gt 5), (gt 6), (gt 7), (gt 8), (gt 9), (gt 10), (gt 11), (gt 12)]))] sz) := by
  refine vx_ofWH (cc := cL_letter) (maxL := 5) (ret := (some .int)) (hh := [(0, 10, 13, 13)]) (by decide) rfl ?_
  intro p e s m args below meth c s₁ B hml hv
  obtain ⟨rfl, ⟨hsz, hP, hK, hD0⟩, hV⟩ := hv
  have hx := B.exec
  have hb := B.bytes
  have hr := B.returns
  have hts0 := atoms_spec (ws := .codeWith yL_letter cL_letter 5 (some .int) [(0, 10, 13, 13)] :: pw2) B.pre
  have htab := vx_table (x := yL_letter) B (hts0 _ List.mem_cons_self)
  have hts2 : ∀ w ∈ pw2, w.before _ s = true := fun w h => hts0 w (List.mem_cons_of_mem _ h)
  have hown : s.vm.findClass RL = some m.cls := findClass_of_methodNamed B.named
  have hlocks := B.notSynchronized
  subst hsz
  have hD := hD0.self (sz := s.heap.size)
  generalize hAe : va_A [(h0, .inr (10, [(g 0), (g 1), (g 2), (g 3), (g 4), (g 5), (g 6), (g 7), (g 8), .ref h9, (g 10), (g 11), (g 12), (g 13), (g 14), (g 15)])), (h9, .inr (7, [(gt 0), .int 0, (gt 2), (gt 3), (gt 4), (gt 5), (gt 6), (gt 7), (gt 8), (gt 9), (gt 10), (gt 11), (gt 12)]))] s.heap.size = A at hD hV ⊢
  have hA : ∀ q : Nat, s.heap.size ≤ q → A q := fun q h => by rw [← hAe]; exact Or.inr h
  have hS : va_S A s.heap s.heap [] := va_S.rf
  have hl := lv_entry ([.ref h0, .int p0, .int p1, .ref o]) (n := 5) (Nat.le_of_ble_eq_true rfl)
  rw [lg_entry_eq]
  generalize (lg_sl ([.ref h0, .int p0, .int p1, .ref o]) ++ List.replicate (5 - (lg_sl ([.ref h0, .int p0, .int p1, .ref o])).length) Slot.unset).toArray = ls at hl ⊢
  have hl : lv_has ls 5 [(0, .ref h0), (1, .int p0), (2, .int p1), (3, .ref o)] := hl
  refine lv_aload_n hx hb dL_letter_0 rfl (lv_at hl 3 rfl) ?_
  refine lv_iconst (v := 0) hx hb dL_letter_1 (by decide) ?_
  refine lv_aload_n hx hb dL_letter_2 rfl (lv_at hl 0 rfl) ?_
  refine lv_iload_n hx hb dL_letter_3 rfl (lv_at hl 1 rfl) ?_
  refine lv_iload_n hx hb dL_letter_4 rfl (lv_at hl 2 rfl) ?_
  have hFc := va_free (wc := [(h0, .inr (10, [(g 0), (g 1), (g 2), (g 3), (g 4), (g 5), (g 6), (g 7), (g 8), .ref h9, (g 10), (g 11), (g 12), (g 13), (g 14), (g 15)])), (h9, .inr (7, [(gt 0), .int 0, (gt 2), (gt 3), (gt 4), (gt 5), (gt 6), (gt 7), (gt 8), (gt 9), (gt 10), (gt 11), (gt 12)]))]) hD hS hA [0, 1] rfl
  refine vx_calli (vx_runV (As := [.int p0, .int p1]) (rest := [.int 0, .ref o]) ⟨hx, hb, hml, hown, hts2⟩ (t_letter l hst dC dI h0 h9 g gt p0 p1 s.heap.size) (cwV 2 hts2 (gV2 mw_13_13 mw_13_14 mw_13_15 mw_0_14 mw_19_22) rfl rfl rfl (by decide +kernel) ⟨(Nat.le_of_ble_eq_true rfl), (Nat.le_of_ble_eq_true rfl)⟩) (vVT (ci := 10) (q0 := 0) hK hP hD hV hS hFc rfl rfl) rfl rfl hl.1 rfl (lv_room (Nat.le_of_ble_eq_true rfl)) dL_letter_5 ⟨(Nat.le_of_ble_eq_true rfl), (Nat.le_of_ble_eq_true rfl)⟩) hS (fun q _ h => hFc q h) hFc (fun q _ h => hFc q h) (fun E ce q9 u t H1 locs ht hvm hw hB hz1 hk1 hS h91 h92 h93 => ?_) (fun r u t H1 locs ht hvm hw hB hz1 hk1 hS => hw.elim)
  subst hB
  refine vx_catch hown [] _ [] htab (fun z h => absurd h List.not_mem_nil) (by decide) (by decide) (hts2 _ (pw_to2 mw_18_12)) (va_Nw.use rfl (hV.1 _ (List.mem_of_getElem? (i := 3) rfl))) h91 h92 h93 ?_
  refine W.eq (g2 := F0 m 13 ls [.ref q9]) rfl ?_
  refine lv_astore (lv' := [(4, .ref q9), (0, .ref h0), (1, .int p0), (2, .int p1), (3, .ref o)]) hx hb dL_letter_13 hl (by decide) rfl (fun ls hl => ?_)
  refine lv_iconst (v := 1) hx hb dL_letter_15 (by decide) ?_
  refine vx_ret ?_
  refine W.widen (k := 1) (n := 6) (Nat.le_of_ble_eq_true rfl) (Nat.le_of_ble_eq_true rfl) ?_
  exact W.iret (v := 1) hx hb hr (fun t ht hW => ⟨⟨1, (), rfl, rfl, trivial⟩, hS.F ht⟩) hS.2.2 dL_letter_16
