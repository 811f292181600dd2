/-! throwing: the words of 'throw new NoSuchElementException()' -/
def px0 : List Cond := vx_at0 RX10 219 "java/util/NoSuchElementException" ["java/lang/RuntimeException", "java/lang/Exception"]
def px : List Cond := px0.filter goodWord
theorem px_in : ∀ w ∈ px, w ∈ lw_tbl := by decide +kernel
def pB : List Cond := [.declares (Bundle.init0 "java/lang/RuntimeException"), .declares (Bundle.init0 "java/lang/Exception"), .declares (Bundle.init0 Bundle.tN), .castable "java/util/NoSuchElementException" "java/util/NoSuchElementException"]
theorem pB_all : ∀ w ∈ px0.filter (fun w => !goodWord w), w ∈ pB := by decide +kernel
theorem pB_in : ∀ w ∈ pB, w ∈ lw_tbl := by decide +kernel
theorem px_ot : ∀ w ∈ Cond.classLink RX10 217 "java/util/NoSuchElementException" :: Cond.initialized "java/util/NoSuchElementException" :: px0, vx_ot w = true := by decide +kernel
def pw2 : List Cond := pw ++ px
theorem px_good : GoodIn px px := fun w h => ⟨h, good_of_word (List.mem_filter.mp h).2⟩
theorem pw2_self : GoodIn pw2 pw2 := fun w h => ⟨h, (List.mem_append.mp h).elim (fun h => (pw_self w h).2) (fun h => (px_good w h).2)⟩
theorem pw2_in : ∀ w ∈ pw2, w ∈ lw_tbl := fun w h => (List.mem_append.mp h).elim (pw_in w) (px_in w)
theorem pw_to2 {w : Cond} (h : w ∈ pw) : w ∈ pw2 := List.mem_append_left _ h
theorem gV2 {own C : String} {i : Nat} {y : MethodName} {c : ByteArray} {n : Nat} {r : Option FieldType} (h1 : Cond.methodLink own i y ∈ pw) (h2 : Cond.instanceMethod y ∈ pw) (h3 : Cond.selects C y y ∈ pw) (h4 : Cond.initialized C ∈ pw) (h : Cond.code y c n r ∈ pw) : GoodIn pw2 (wsV own i C y (.code y c n r :: pw2)) := by
  unfold wsV
  intro w hw
  rcases List.mem_append.mp hw with hw | hw
  · simp only [List.mem_cons, List.not_mem_nil, or_false] at hw
    rcases hw with rfl | rfl | rfl | rfl
    · exact pw2_self _ (pw_to2 h1)
    · exact pw2_self _ (pw_to2 h2)
    · exact pw2_self _ (pw_to2 h3)
    · exact pw2_self _ (pw_to2 h4)
  · rcases List.mem_cons.mp hw with rfl | hw
    · exact pw2_self _ (pw_to2 h)
    · exact pw2_self _ hw
theorem gSW2 {own : String} {i : Nat} {y : MethodName} {c : ByteArray} {n : Nat} {r : Option FieldType} {hh : List (Nat × Nat × Nat × Nat)} (h1 : Cond.methodLink own i y ∈ pw) (h2 : Cond.static y ∈ pw) (h3 : Cond.initialized y.cls ∈ pw2) (h : Cond.codeWith y c n r hh ∈ pw) : GoodIn pw2 (va_wsS own i y (.codeWith y c n r hh :: pw2)) := by
  unfold va_wsS
  intro w hw
  rcases List.mem_append.mp hw with hw | hw
  · simp only [List.mem_cons, List.not_mem_nil, or_false] at hw
    rcases hw with rfl | rfl | rfl
    · exact pw2_self _ (pw_to2 h1)
    · exact pw2_self _ (pw_to2 h2)
    · exact pw2_self _ h3
  · rcases List.mem_cons.mp hw with rfl | hw
    · exact pw2_self _ (pw_to2 h)
    · exact pw2_self _ hw
/-- what a throw needs beside the words -/
def vt (A : Nat → Prop) (U : State) (H : Heap) : Prop := (∀ w ∈ pB, va_Nw w U) ∧ vx_Zq Bundle.tN "UNASSIGNED_STACK" Bundle.steD A U H ∧ vx_Zq Bundle.tN "SUPPRESSED_SENTINEL" Bundle.listD A U H
theorem pB_ot : ∀ w ∈ pB, w.onTables = true := by decide +kernel
theorem pB_warm {s U : State} (hW : s.WarmedH U.vm) (h : ∀ w ∈ pB, va_Nw w s) : ∀ w ∈ pB, va_Nw w U := by
  intro w hw
  have h1 := h w hw
  simp only [pB, List.mem_cons, List.not_mem_nil, or_false] at hw
  rcases hw with rfl | rfl | rfl | rfl
  · exact va_Nw.warmD hW h1
  · exact va_Nw.warmD hW h1
  · exact va_Nw.warmD hW h1
  · exact va_Nw.warmC hW h1
theorem vt.called {A : Nat → Prop} {U : State} {g : JFrame} {mk : MethodId} {a : Array Value} (h : vt A U U.heap) : vt A (U.calling g mk a) (U.calling g mk a).heap :=
  ⟨fun w hw => va_Nw.same (pB_ot w hw) (u := U) (U := U.calling g mk a) rfl (h.1 w hw), vx_Zq.moved (u := U) (U := U.calling g mk a) (Vm.Alike.refl U.vm) h.2.1, vx_Zq.moved (u := U) (U := U.calling g mk a) (Vm.Alike.refl U.vm) h.2.2⟩
theorem vt.at {A B : Nat → Prop} {s U : State} {H : Heap} {locs : List Loc} (h : vt A s s.heap) (hS : va_S A s.heap H locs) (hF : ∀ z, B z → A z) (hU : U.heap = H) (hW : s.WarmedH U.vm) : vt B U U.heap := by
  rw [hU]
  exact ⟨pB_warm hW h.1, ((h.2.1.kept hS.2.1).moved hW.alike).narrow hF, ((h.2.2.kept hS.2.1).moved hW.alike).narrow hF⟩
theorem vVT {dC : Nat → ClassId} {dI : Nat → Nat → Nat} {s : State} {H : Heap} {A : Nat → Prop} {locs : List Loc} {ws : va_W} {tys : List (ClassId × FieldType)} {As : List Value} {ci q0 b N : Nat} {C : String} {T : u_T} {fs : List Value} (hKc : va_K (dC, dI) vwCl tys s) (hPc : va_P (dC, dI) vwCl ws H) (hDc : va_D A ws) (hN : nN s) (hV : vt A s s.heap) (hS : va_S A s.heap H locs) (hF : ∀ z, va_A ws H.size z → A z) (hc : vwCl[ci]? = some (C, T, N)) (he : ws[q0]? = some (b, .inr (ci, fs))) : PreV s H C b (va_Pc (.ref b :: As) (fun U => vPre dC dI ws tys H.size U ∧ vt (va_A ws H.size) U U.heap)) As :=
  ⟨fun _ _ _ _ h => ⟨h.1, vPre_call h.2.1, vt.called h.2.2⟩, va_recv hKc hPc hc he, fun _ hU hW => ⟨rfl, vPre_at hKc hPc hDc hN hU hW, hV.at hS hF hU hW⟩⟩
theorem vST {dC : Nat → ClassId} {dI : Nat → Nat → Nat} {s : State} {H : Heap} {A : Nat → Prop} {locs : List Loc} {ws : va_W} {tys : List (ClassId × FieldType)} {As : List Value} (hKc : va_K (dC, dI) vwCl tys s) (hPc : va_P (dC, dI) vwCl ws H) (hDc : va_D A ws) (hN : nN s) (hV : vt A s s.heap) (hS : va_S A s.heap H locs) (hF : ∀ z, va_A ws H.size z → A z) : PreS s H (va_Pc As (fun U => vPre dC dI ws tys H.size U ∧ vt (va_A ws H.size) U U.heap)) As :=
  ⟨fun _ _ _ _ h => ⟨h.1, vPre_call h.2.1, vt.called h.2.2⟩, fun _ hU hW => ⟨rfl, vPre_at hKc hPc hDc hN hU hW, hV.at hS hF hU hW⟩⟩
abbrev qAix (dC : Nat → ClassId) (dI : Nat → Nat → Nat) (a : Nat → Nat) (k : Nat → ClassId) (A : Nat → Prop) (q : Option Int32 × ST) : Array Value → State → Outcome → State → Prop := va_Qi (fun (r : Int32) (_ : Unit) => some r = q.1) (fun (_ : Unit) t => vPst dC dI A (wA a k q.2) (tA k) t) A
abbrev qAlx (dC : Nat → ClassId) (dI : Nat → Nat → Nat) (a : Nat → Nat) (k : Nat → ClassId) (A : Nat → Prop) (q : Option Int64 × ST) : Array Value → State → Outcome → State → Prop := va_Ql (fun (r : Int64) (_ : Unit) => some r = q.1) (fun (_ : Unit) t => vPst dC dI A (wA a k q.2) (tA k) t) A
abbrev xAx (dC : Nat → ClassId) (dI : Nat → Nat → Nat) (a : Nat → Nat) (k : Nat → ClassId) (A : Nat → Prop) (b : Prop) (σ : ST) : String → State → State → Prop := vx_X (fun (_ : Unit) => b) (fun E (_ : Unit) t => E = "java/util/NoSuchElementException" ∧ vPst dC dI A (wA a k σ) (tA k) t) A
theorem mexA {l : Launch} {y : MethodName} {cc : ByteArray} {maxL : Nat} {ret : Option FieldType} {rm : Room} {dC : Nat → ClassId} {dI : Nat → Nat → Nat} {a : Nat → Nat} {k : Nat → ClassId} {σ : ST} {sz : Nat} {av : List Value} (Qf : (Nat → Prop) → Array Value → State → Outcome → State → Prop) (Xf : (Nat → Prop) → String → State → State → Prop) (hy : plainName y.cls = true) (hav : (lg_sl av).length ≤ maxL) (body : ∀ (p : Program) (e : Env) (s : State) (m : MethodId) (below : List Frame) (meth : Method) (c : Code) (A : Nat → Prop), CxA p s m av.toArray meth c dC dI k A cc y.cls ret maxL → (∀ w ∈ pw2, w.before av.toArray s = true) → vt A s s.heap → (∀ x ∈ c.exceptionTable.toList, False) → GoA p l e rm s m av.toArray below meth c (vx_MQ below (Qf A) (Xf A) av.toArray s 1 6 A) dC dI a k A maxL 0 σ (lv_args 0 av) []) : vx_Met l y (.code y cc maxL ret :: pw2) rm (va_Pc av (fun U => vPre dC dI (wA a k σ) (tA k) sz U ∧ vt (va_A (wA a k σ) sz) U U.heap)) (Qf (va_A (wA a k σ) sz)) (Xf (va_A (wA a k σ) sz)) 1 6 (va_A (wA a k σ) sz) := by
  refine vx_ofW (cc := cc) (maxL := maxL) (ret := ret) hy rfl ?_
  intro p e s m args below meth c s₁ B hml htab hv
  obtain ⟨rfl, ⟨hsz, hP, hK, hD0, hN⟩, hV⟩ := hv
  have hts := atoms_spec (ws := .code y cc maxL ret :: pw2) B.pre
  have hts2 : ∀ w ∈ pw2, w.before _ s = true := fun w h => hts w (List.mem_cons_of_mem _ h)
  have hts : ∀ w ∈ pw, w.before _ s = true := fun w h => hts2 w (pw_to2 h)
  have hown : s.vm.findClass y.cls = some m.cls := findClass_of_methodNamed B.named
  have hlocks := B.notSynchronized
  subst hsz
  have hD := hD0.self (sz := s.heap.size)
  have hA : ∀ q : Nat, s.heap.size ≤ q → va_A (wA a k σ) s.heap.size q := fun q h => Or.inr h
  have hl := lv_entry av (n := maxL) hav
  rw [lg_entry_eq]
  exact body p e s m below meth c _ ⟨B.exec, B.bytes, B.returns, hml, hown, hts, hlocks, hA, hN, hK⟩ hts2 hV htab s.heap [] _ hP hD va_S.rf hl
theorem dX10_byteAt_0 : decode cX10_byteAt 0 = .ok (.aload_n 0, 1) := by decide +kernel
theorem dX10_byteAt_1 : decode cX10_byteAt 1 = .ok (.getfield 48, 3) := by decide +kernel
theorem dX10_byteAt_4 : decode cX10_byteAt 4 = .ok (.iload_n 1, 1) := by decide +kernel
theorem dX10_byteAt_5 : decode cX10_byteAt 5 = .ok (.iload_n 2, 1) := by decide +kernel
theorem dX10_byteAt_6 : decode cX10_byteAt 6 = .ok (.invokevirtual 214, 3) := by decide +kernel
theorem dX10_byteAt_9 : decode cX10_byteAt 9 = .ok (.ifCond .ne 11, 3) := by decide +kernel
theorem dX10_byteAt_12 : decode cX10_byteAt 12 = .ok (.new 217, 3) := by decide +kernel
theorem dX10_byteAt_15 : decode cX10_byteAt 15 = .ok (.dup, 1) := by decide +kernel
theorem dX10_byteAt_16 : decode cX10_byteAt 16 = .ok (.invokespecial 219, 3) := by decide +kernel
theorem dX10_byteAt_19 : decode cX10_byteAt 19 = .ok (.athrow, 1) := by decide +kernel
theorem dX10_byteAt_20 : decode cX10_byteAt 20 = .ok (.aload_n 0, 1) := by decide +kernel
theorem dX10_byteAt_21 : decode cX10_byteAt 21 = .ok (.getfield 48, 3) := by decide +kernel
theorem dX10_byteAt_24 : decode cX10_byteAt 24 = .ok (.iload_n 1, 1) := by decide +kernel
theorem dX10_byteAt_25 : decode cX10_byteAt 25 = .ok (.iload_n 2, 1) := by decide +kernel
theorem dX10_byteAt_26 : decode cX10_byteAt 26 = .ok (.invokevirtual 220, 3) := by decide +kernel
theorem dX10_byteAt_29 : decode cX10_byteAt 29 = .ok (.ireturn, 1) := by decide +kernel
theorem dX10_letter_0 : decode cX10_letter 0 = .ok (.aload_n 0, 1) := by decide +kernel
theorem dX10_letter_1 : decode cX10_letter 1 = .ok (.getfield 73, 3) := by decide +kernel
theorem dX10_letter_4 : decode cX10_letter 4 = .ok (.iload_n 1, 1) := by decide +kernel
theorem dX10_letter_5 : decode cX10_letter 5 = .ok (.invokevirtual 268, 3) := by decide +kernel
theorem dX10_letter_8 : decode cX10_letter 8 = .ok (.istore_n 3, 1) := by decide +kernel
theorem dX10_letter_9 : decode cX10_letter 9 = .ok (.iload_n 3, 1) := by decide +kernel
theorem dX10_letter_10 : decode cX10_letter 10 = .ok (.iconst (-1), 1) := by decide +kernel
theorem dX10_letter_11 : decode cX10_letter 11 = .ok (.if_icmp .eq 19, 3) := by decide +kernel
theorem dX10_letter_14 : decode cX10_letter 14 = .ok (.aload_n 0, 1) := by decide +kernel
theorem dX10_letter_15 : decode cX10_letter 15 = .ok (.getfield 73, 3) := by decide +kernel
theorem dX10_letter_18 : decode cX10_letter 18 = .ok (.iload_n 3, 1) := by decide +kernel
theorem dX10_letter_19 : decode cX10_letter 19 = .ok (.invokevirtual 271, 3) := by decide +kernel
theorem dX10_letter_22 : decode cX10_letter 22 = .ok (.iconst 5, 1) := by decide +kernel
theorem dX10_letter_23 : decode cX10_letter 23 = .ok (.if_icmp .ne 7, 3) := by decide +kernel
theorem dX10_letter_26 : decode cX10_letter 26 = .ok (.iload_n 2, 1) := by decide +kernel
theorem dX10_letter_27 : decode cX10_letter 27 = .ok (.ifCond .ge 11, 3) := by decide +kernel
theorem dX10_letter_30 : decode cX10_letter 30 = .ok (.new 217, 3) := by decide +kernel
theorem dX10_letter_33 : decode cX10_letter 33 = .ok (.dup, 1) := by decide +kernel
theorem dX10_letter_34 : decode cX10_letter 34 = .ok (.invokespecial 219, 3) := by decide +kernel
theorem dX10_letter_37 : decode cX10_letter 37 = .ok (.athrow, 1) := by decide +kernel
theorem dX10_letter_38 : decode cX10_letter 38 = .ok (.iload_n 2, 1) := by decide +kernel
theorem dX10_letter_39 : decode cX10_letter 39 = .ok (.aload_n 0, 1) := by decide +kernel
theorem dX10_letter_40 : decode cX10_letter 40 = .ok (.getfield 73, 3) := by decide +kernel
theorem dX10_letter_43 : decode cX10_letter 43 = .ok (.iload_n 3, 1) := by decide +kernel
theorem dX10_letter_44 : decode cX10_letter 44 = .ok (.invokevirtual 283, 3) := by decide +kernel
theorem dX10_letter_47 : decode cX10_letter 47 = .ok (.if_icmp .ge 18, 3) := by decide +kernel
theorem dX10_letter_50 : decode cX10_letter 50 = .ok (.aload_n 0, 1) := by decide +kernel
theorem dX10_letter_51 : decode cX10_letter 51 = .ok (.getfield 73, 3) := by decide +kernel
theorem dX10_letter_54 : decode cX10_letter 54 = .ok (.iload_n 3, 1) := by decide +kernel
theorem dX10_letter_55 : decode cX10_letter 55 = .ok (.invokevirtual 287, 3) := by decide +kernel
theorem dX10_letter_58 : decode cX10_letter 58 = .ok (.iload_n 2, 1) := by decide +kernel
theorem dX10_letter_59 : decode cX10_letter 59 = .ok (.invokestatic 290, 3) := by decide +kernel
theorem dX10_letter_62 : decode cX10_letter 62 = .ok (.goto 4, 3) := by decide +kernel
theorem dX10_letter_65 : decode cX10_letter 65 = .ok (.iconst 0, 1) := by decide +kernel
theorem dX10_letter_66 : decode cX10_letter 66 = .ok (.ireturn, 1) := by decide +kernel
theorem dX10_node_0 : decode cX10_node 0 = .ok (.aload_n 0, 1) := by decide +kernel
theorem dX10_node_1 : decode cX10_node 1 = .ok (.getfield 73, 3) := by decide +kernel
theorem dX10_node_4 : decode cX10_node 4 = .ok (.iload_n 1, 1) := by decide +kernel
theorem dX10_node_5 : decode cX10_node 5 = .ok (.invokevirtual 268, 3) := by decide +kernel
theorem dX10_node_8 : decode cX10_node 8 = .ok (.istore_n 3, 1) := by decide +kernel
theorem dX10_node_9 : decode cX10_node 9 = .ok (.iload_n 3, 1) := by decide +kernel
theorem dX10_node_10 : decode cX10_node 10 = .ok (.iconst (-1), 1) := by decide +kernel
theorem dX10_node_11 : decode cX10_node 11 = .ok (.if_icmp .eq 12, 3) := by decide +kernel
theorem dX10_node_14 : decode cX10_node 14 = .ok (.iload_n 2, 1) := by decide +kernel
theorem dX10_node_15 : decode cX10_node 15 = .ok (.ifCond .lt 8, 3) := by decide +kernel
theorem dX10_node_18 : decode cX10_node 18 = .ok (.iload_n 2, 1) := by decide +kernel
theorem dX10_node_19 : decode cX10_node 19 = .ok (.iconst 4, 1) := by decide +kernel
theorem dX10_node_20 : decode cX10_node 20 = .ok (.if_icmp .le 11, 3) := by decide +kernel
theorem dX10_node_23 : decode cX10_node 23 = .ok (.new 217, 3) := by decide +kernel
theorem dX10_node_26 : decode cX10_node 26 = .ok (.dup, 1) := by decide +kernel
theorem dX10_node_27 : decode cX10_node 27 = .ok (.invokespecial 219, 3) := by decide +kernel
theorem dX10_node_30 : decode cX10_node 30 = .ok (.athrow, 1) := by decide +kernel
theorem dX10_node_31 : decode cX10_node 31 = .ok (.iload_n 2, 1) := by decide +kernel
theorem dX10_node_32 : decode cX10_node 32 = .ok (.tableswitch 75 0 3 #[32, 41, 57, 66], 32) := by decide +kernel
theorem dX10_node_64 : decode cX10_node 64 = .ok (.aload_n 0, 1) := by decide +kernel
theorem dX10_node_65 : decode cX10_node 65 = .ok (.getfield 73, 3) := by decide +kernel
theorem dX10_node_68 : decode cX10_node 68 = .ok (.iload_n 3, 1) := by decide +kernel
theorem dX10_node_69 : decode cX10_node 69 = .ok (.invokevirtual 271, 3) := by decide +kernel
theorem dX10_node_72 : decode cX10_node 72 = .ok (.ireturn, 1) := by decide +kernel
theorem dX10_node_73 : decode cX10_node 73 = .ok (.aload_n 0, 1) := by decide +kernel
theorem dX10_node_74 : decode cX10_node 74 = .ok (.getfield 73, 3) := by decide +kernel
theorem dX10_node_77 : decode cX10_node 77 = .ok (.aload_n 0, 1) := by decide +kernel
theorem dX10_node_78 : decode cX10_node 78 = .ok (.getfield 73, 3) := by decide +kernel
theorem dX10_node_81 : decode cX10_node 81 = .ok (.iload_n 3, 1) := by decide +kernel
theorem dX10_node_82 : decode cX10_node 82 = .ok (.invokevirtual 274, 3) := by decide +kernel
theorem dX10_node_85 : decode cX10_node 85 = .ok (.invokevirtual 277, 3) := by decide +kernel
theorem dX10_node_88 : decode cX10_node 88 = .ok (.ireturn, 1) := by decide +kernel
theorem dX10_node_89 : decode cX10_node 89 = .ok (.aload_n 0, 1) := by decide +kernel
theorem dX10_node_90 : decode cX10_node 90 = .ok (.getfield 73, 3) := by decide +kernel
theorem dX10_node_93 : decode cX10_node 93 = .ok (.iload_n 3, 1) := by decide +kernel
theorem dX10_node_94 : decode cX10_node 94 = .ok (.invokevirtual 280, 3) := by decide +kernel
theorem dX10_node_97 : decode cX10_node 97 = .ok (.ireturn, 1) := by decide +kernel
theorem dX10_node_98 : decode cX10_node 98 = .ok (.aload_n 0, 1) := by decide +kernel
theorem dX10_node_99 : decode cX10_node 99 = .ok (.getfield 73, 3) := by decide +kernel
theorem dX10_node_102 : decode cX10_node 102 = .ok (.iload_n 3, 1) := by decide +kernel
theorem dX10_node_103 : decode cX10_node 103 = .ok (.invokevirtual 283, 3) := by decide +kernel
theorem dX10_node_106 : decode cX10_node 106 = .ok (.ireturn, 1) := by decide +kernel
theorem dX10_node_107 : decode cX10_node 107 = .ok (.aload_n 0, 1) := by decide +kernel
theorem dX10_node_108 : decode cX10_node 108 = .ok (.getfield 73, 3) := by decide +kernel
theorem dX10_node_111 : decode cX10_node 111 = .ok (.iload_n 3, 1) := by decide +kernel
theorem dX10_node_112 : decode cX10_node 112 = .ok (.invokevirtual 284, 3) := by decide +kernel
theorem dX10_node_115 : decode cX10_node 115 = .ok (.ifCond .eq 7, 3) := by decide +kernel
theorem dX10_node_118 : decode cX10_node 118 = .ok (.iconst 1, 1) := by decide +kernel
theorem dX10_node_119 : decode cX10_node 119 = .ok (.goto 4, 3) := by decide +kernel
theorem dX10_node_122 : decode cX10_node 122 = .ok (.iconst 0, 1) := by decide +kernel
theorem dX10_node_123 : decode cX10_node 123 = .ok (.ireturn, 1) := by decide +kernel
theorem dX10_value_0 : decode cX10_value 0 = .ok (.aload_n 0, 1) := by decide +kernel
theorem dX10_value_1 : decode cX10_value 1 = .ok (.getfield 73, 3) := by decide +kernel
theorem dX10_value_4 : decode cX10_value 4 = .ok (.iload_n 1, 1) := by decide +kernel
theorem dX10_value_5 : decode cX10_value 5 = .ok (.invokevirtual 268, 3) := by decide +kernel
theorem dX10_value_8 : decode cX10_value 8 = .ok (.istore_n 2, 1) := by decide +kernel
theorem dX10_value_9 : decode cX10_value 9 = .ok (.iload_n 2, 1) := by decide +kernel
theorem dX10_value_10 : decode cX10_value 10 = .ok (.iconst (-1), 1) := by decide +kernel
theorem dX10_value_11 : decode cX10_value 11 = .ok (.if_icmp .ne 11, 3) := by decide +kernel
theorem dX10_value_14 : decode cX10_value 14 = .ok (.new 217, 3) := by decide +kernel
theorem dX10_value_17 : decode cX10_value 17 = .ok (.dup, 1) := by decide +kernel
theorem dX10_value_18 : decode cX10_value 18 = .ok (.invokespecial 219, 3) := by decide +kernel
theorem dX10_value_21 : decode cX10_value 21 = .ok (.athrow, 1) := by decide +kernel
theorem dX10_value_22 : decode cX10_value 22 = .ok (.aload_n 0, 1) := by decide +kernel
theorem dX10_value_23 : decode cX10_value 23 = .ok (.getfield 73, 3) := by decide +kernel
theorem dX10_value_26 : decode cX10_value 26 = .ok (.iload_n 2, 1) := by decide +kernel
theorem dX10_value_27 : decode cX10_value 27 = .ok (.invokevirtual 271, 3) := by decide +kernel
theorem dX10_value_30 : decode cX10_value 30 = .ok (.iconst 5, 1) := by decide +kernel
theorem dX10_value_31 : decode cX10_value 31 = .ok (.if_icmp .ne 7, 3) := by decide +kernel
theorem dX10_value_34 : decode cX10_value 34 = .ok (.lconst 0, 1) := by decide +kernel
theorem dX10_value_35 : decode cX10_value 35 = .ok (.goto 11, 3) := by decide +kernel
theorem dX10_value_38 : decode cX10_value 38 = .ok (.aload_n 0, 1) := by decide +kernel
theorem dX10_value_39 : decode cX10_value 39 = .ok (.getfield 73, 3) := by decide +kernel
theorem dX10_value_42 : decode cX10_value 42 = .ok (.iload_n 2, 1) := by decide +kernel
theorem dX10_value_43 : decode cX10_value 43 = .ok (.invokevirtual 287, 3) := by decide +kernel
theorem dX10_value_46 : decode cX10_value 46 = .ok (.lreturn, 1) := by decide +kernel
def f_X10_byteAt (p0 : Int32) (p1 : Int32) (σ : ST) : Option (Option Int32 × ST) := (f_X1_hasByte  p0 p1 σ).bind fun q1 => if q1.1 = 0 then (some (none, q1.2)) else ((f_X1_byteOf  p0 p1 q1.2).bind fun q3 => some (some q3.1, q3.2))

set_option maxRecDepth 100000 in
set_option maxHeartbeats 4000000 in
theorem b_X10_byteAt_e {p : Program} {l : Launch} {e : Env} {s : State} {m : MethodId} {args : Array Value} {below : List Frame} {meth : Method} {c : Code} {dC : Nat → ClassId} {dI : Nat → Nat → Nat} {a : Nat → Nat} {k : Nat → ClassId} {A : Nat → Prop} {q : Option Int32 × ST} (hC : CxA p s m args meth c dC dI k A cX10_byteAt RX10 (some .int) 3) (hst : l.stackTraces = false) (hts2 : ∀ w ∈ pw2, w.before args s = true) (hV : vt A s s.heap) (htab : ∀ x ∈ c.exceptionTable.toList, False)  {p0 : Int32} {p1 : Int32} {σ : ST} (h : f_X10_byteAt  p0 p1 σ = some q) : GoA p l e ({ frames := 6, cells := 1, slots := 6, locals := 90 } : Room) s m args below meth c (vx_MQ below (qAix dC dI a k A q) (xAx dC dI a k A (q.1 = none) q.2) args s 1 6 A) dC dI a k A 3 0 σ (lv_args 0 [.ref (a 0), .int p0, .int p1]) [] := by
  have hC0 := hC
  obtain ⟨hx, hb, hr, hml, hown, hts, hlocks, hA, hN, hK⟩ := hC0
  intro H locs ls hP hD hS hl
  have hD0 : ∀ σ1 : ST, va_D A (wA a k σ1) := fun σ1 => wA_D hD
  replace hl : lv_has ls 3 [(0, .ref (a 0)), (1, .int p0), (2, .int p1)] := hl
  unfold f_X10_byteAt at h
  refine lv_aload_n hx hb dX10_byteAt_0 rfl (lv_at hl 0 rfl) ?_
  refine va_get (D := (dC, dI)) (ci := 10) (C := RX10) (T := TX10) (N := 16) hx hb hts inlX10 hown hK hP 0 gA_0 rfl 6 (by decide) (hts (.fieldLink RX10 48 "ShapeReader" "messages" "LShapeReader$Messages;") mw_21_12) (fun _ h9 => h9) rfl dX10_byteAt_1 ?_
  refine lv_iload_n hx hb dX10_byteAt_4 rfl (lv_at hl 1 rfl) ?_
  refine lv_iload_n hx hb dX10_byteAt_5 rfl (lv_at hl 2 rfl) ?_
  obtain ⟨q1, hc, h⟩ := ib h
  have hF := va_frees hD hS hA
  refine va_calli (va_runV (As := [.int p0, .int p1]) (rest := []) ⟨hx, hb, hml, hown, hts⟩ (s_X1_hasByte hc) (cwV 2 hts (gV mw_24_16 mw_4_21 mw_4_22 mw_0_5 mw_48_1) rfl rfl rfl (by decide +kernel) ⟨(Nat.le_of_ble_eq_true rfl), (Nat.le_of_ble_eq_true rfl)⟩) (vV (ci := 1) (q0 := 37) hK hP hD hN rfl gA_37) rfl rfl hl.1 rfl (lv_room (Nat.le_of_ble_eq_true rfl)) dX10_byteAt_6 ⟨(Nat.le_of_ble_eq_true rfl), (Nat.le_of_ble_eq_true rfl)⟩) hS (fun q _ h => hF q h) hF (fun r2 u t H locs ht hvm hw hB _ _ hS => ?_)
  obtain rfl : r2 = q1.1 := hw
  replace hP : va_P (dC, dI) vwCl (wA a k q1.2) H := by rw [← ht]; exact hB.1
  replace hD := hD0 (q1.2)
  clear hB hF
  refine lv_if_ne (tgt := 20) hx hb dX10_byteAt_9 (by decide) (fun hc => ?_) (fun hc => ?_)
  · replace h := iq hc h
    refine lv_aload_n hx hb dX10_byteAt_20 rfl (lv_at hl 0 rfl) ?_
    refine va_get (D := (dC, dI)) (ci := 10) (C := RX10) (T := TX10) (N := 16) hx hb hts inlX10 hown hK hP 0 gA_0 rfl 6 (by decide) (hts (.fieldLink RX10 48 "ShapeReader" "messages" "LShapeReader$Messages;") mw_21_12) (fun _ h9 => h9) rfl dX10_byteAt_21 ?_
    refine lv_iload_n hx hb dX10_byteAt_24 rfl (lv_at hl 1 rfl) ?_
    refine lv_iload_n hx hb dX10_byteAt_25 rfl (lv_at hl 2 rfl) ?_
    obtain ⟨q3, hc, h⟩ := ib h
    have hF := va_frees hD hS hA
    refine va_calli (va_runV (As := [.int p0, .int p1]) (rest := []) ⟨hx, hb, hml, hown, hts⟩ (s_X1_byteOf hc) (cwV 2 hts (gV mw_24_19 mw_4_18 mw_4_19 mw_0_5 mw_48_4) rfl rfl rfl (by decide +kernel) ⟨(Nat.le_of_ble_eq_true rfl), (Nat.le_of_ble_eq_true rfl)⟩) (vV (ci := 1) (q0 := 37) hK hP hD hN rfl gA_37) rfl rfl hl.1 rfl (lv_room (Nat.le_of_ble_eq_true rfl)) dX10_byteAt_26 ⟨(Nat.le_of_ble_eq_true rfl), (Nat.le_of_ble_eq_true rfl)⟩) hS (fun q _ h => hF q h) hF (fun r4 u t H locs ht hvm hw hB _ _ hS => ?_)
    obtain rfl : r4 = q3.1 := hw
    replace hP : va_P (dC, dI) vwCl (wA a k q3.2) H := by rw [← ht]; exact hB.1
    replace hD := hD0 (q3.2)
    clear hB hF
    refine vx_ret ?_
    refine W.widen (k := 1) (n := 6) (Nat.le_of_ble_eq_true rfl) (Nat.le_of_ble_eq_true rfl) ?_
    obtain rfl := Option.some.inj h
    exact W.iret hx hb hr (fun t ht hW => ⟨⟨_, (), rfl, rfl, ⟨by rw [ht]; exact hP, va_K.moved hW.alike hK, hD⟩⟩, hS.F ht⟩) hS.2.2 dX10_byteAt_29
  · replace h := ip hc h
    obtain rfl := Option.some.inj h
    exact vx_throw0 (A := A) (ik := 217) (ic := 219) (names := ["java/lang/RuntimeException", "java/lang/Exception"]) hx hb hst hown (by decide) (by decide) (hts (.classLink RX10 217 "java/util/NoSuchElementException") mw_24_17) (hts (.initialized "java/util/NoSuchElementException") mw_24_18) (vx_hat (L := px0) (fun w h => hts2 w (List.mem_append_right _ h)) pB_all (fun w h => va_Nw.use (pB_ot w h) (hV.1 w h))) px_ot hV.2.1 hV.2.2 hS (hl.1.trans hml.symm) dX10_byteAt_12 dX10_byteAt_15 dX10_byteAt_16 dX10_byteAt_19 (fun x h9 => (htab x h9).elim) (Nat.le_of_ble_eq_true rfl) (Nat.le_of_ble_eq_true rfl) (Nat.le_of_ble_eq_true rfl) (Nat.le_of_ble_eq_true rfl) hlocks (fun t hvm hz hk => ⟨(), rfl, ⟨rfl, fun i p hp => (hP i p hp).kept (hk p.1 (hP i p hp).lt), va_K.moved hvm hK, hD⟩, Nat.le_trans hS.1 hz, fun q h1 h2 => (hk q (Nat.lt_of_lt_of_le h1 hS.1)).trans (hS.2.1 q h1 h2)⟩) hS.2.2 (Nat.le_of_ble_eq_true rfl) (Nat.le_of_ble_eq_true rfl)

theorem s_X10_byteAt {l : Launch} {dC : Nat → ClassId} {dI : Nat → Nat → Nat} {a : Nat → Nat} {k : Nat → ClassId} {sz : Nat} {p0 : Int32} {p1 : Int32} {σ : ST} {q : Option Int32 × ST} (hst : l.stackTraces = false) (h : f_X10_byteAt  p0 p1 σ = some q) : vx_Met l yX10_byteAt (.code yX10_byteAt cX10_byteAt 3 (some .int) :: pw2) ({ frames := 6, cells := 1, slots := 6, locals := 90 } : Room) (va_Pc [.ref (a 0), .int p0, .int p1] (fun U => vPre dC dI (wA a k σ) (tA k) sz U ∧ vt (va_A (wA a k σ) sz) U U.heap)) (qAix dC dI a k (va_A (wA a k σ) sz) q) (xAx dC dI a k (va_A (wA a k σ) sz) (q.1 = none) q.2) 1 6 (va_A (wA a k σ) sz) := mexA (fun A => qAix dC dI a k A q) (fun A => xAx dC dI a k A (q.1 = none) q.2) (by decide) (Nat.le_of_ble_eq_true rfl) (fun _ _ _ _ _ _ _ _ hC hts2 hV htab => b_X10_byteAt_e hC hst hts2 hV htab h)


def f_X10_letter_30 (σ : ST) : Option (Option Int32 × ST) := some (none, σ)
def f_X10_letter (p0 : Int32) (p1 : Int32) (σ : ST) : Option (Option Int32 × ST) := (f_X7_rowAt 50 p0 σ).bind fun q1 => if q1.1 = (-1) then (f_X10_letter_30   q1.2) else ((f_X7_sortAt 50 q1.1 q1.2).bind fun q3 => if q3.1 = 5 then (if 0 ≤ p1 then ((f_X7_sizeOf 50 q1.1 q3.2).bind fun q5 => if q5.1 ≤ p1 then (some (some 0, q5.2)) else ((f_X7_worthOf 50 q1.1 q5.2).bind fun q7 => (f_X10_letterOf  q7.1 p1 q7.2).bind fun q9 => some (some q9.1, q9.2))) else (f_X10_letter_30   q3.2)) else (f_X10_letter_30   q3.2))

set_option maxRecDepth 100000 in
set_option maxHeartbeats 4000000 in
theorem b_X10_letter_30 {p : Program} {l : Launch} {e : Env} {s : State} {m : MethodId} {args : Array Value} {below : List Frame} {meth : Method} {c : Code} {dC : Nat → ClassId} {dI : Nat → Nat → Nat} {a : Nat → Nat} {k : Nat → ClassId} {A : Nat → Prop} {q : Option Int32 × ST} (hC : CxA p s m args meth c dC dI k A cX10_letter RX10 (some .int) 4) (hst : l.stackTraces = false) (hts2 : ∀ w ∈ pw2, w.before args s = true) (hV : vt A s s.heap) (htab : ∀ x ∈ c.exceptionTable.toList, False)   {σ : ST} (h : f_X10_letter_30   σ = some q) : GoA p l e ({ frames := 6, cells := 1, slots := 6, locals := 90 } : Room) s m args below meth c (vx_MQ below (qAix dC dI a k A q) (xAx dC dI a k A (q.1 = none) q.2) args s 1 6 A) dC dI a k A 4 30 σ [] [] := by
  have hC0 := hC
  obtain ⟨hx, hb, hr, hml, hown, hts, hlocks, hA, hN, hK⟩ := hC0
  intro H locs ls hP hD hS hl
  have hD0 : ∀ σ1 : ST, va_D A (wA a k σ1) := fun σ1 => wA_D hD
  unfold f_X10_letter_30 at h
  obtain rfl := Option.some.inj h
  exact vx_throw0 (A := A) (ik := 217) (ic := 219) (names := ["java/lang/RuntimeException", "java/lang/Exception"]) hx hb hst hown (by decide) (by decide) (hts (.classLink RX10 217 "java/util/NoSuchElementException") mw_24_17) (hts (.initialized "java/util/NoSuchElementException") mw_24_18) (vx_hat (L := px0) (fun w h => hts2 w (List.mem_append_right _ h)) pB_all (fun w h => va_Nw.use (pB_ot w h) (hV.1 w h))) px_ot hV.2.1 hV.2.2 hS (hl.1.trans hml.symm) dX10_letter_30 dX10_letter_33 dX10_letter_34 dX10_letter_37 (fun x h9 => (htab x h9).elim) (Nat.le_of_ble_eq_true rfl) (Nat.le_of_ble_eq_true rfl) (Nat.le_of_ble_eq_true rfl) (Nat.le_of_ble_eq_true rfl) hlocks (fun t hvm hz hk => ⟨(), rfl, ⟨rfl, fun i p hp => (hP i p hp).kept (hk p.1 (hP i p hp).lt), va_K.moved hvm hK, hD⟩, Nat.le_trans hS.1 hz, fun q h1 h2 => (hk q (Nat.lt_of_lt_of_le h1 hS.1)).trans (hS.2.1 q h1 h2)⟩) hS.2.2 (Nat.le_of_ble_eq_true rfl) (Nat.le_of_ble_eq_true rfl)

set_option maxRecDepth 100000 in
set_option maxHeartbeats 4000000 in
theorem b_X10_letter_e {p : Program} {l : Launch} {e : Env} {s : State} {m : MethodId} {args : Array Value} {below : List Frame} {meth : Method} {c : Code} {dC : Nat → ClassId} {dI : Nat → Nat → Nat} {a : Nat → Nat} {k : Nat → ClassId} {A : Nat → Prop} {q : Option Int32 × ST} (hC : CxA p s m args meth c dC dI k A cX10_letter RX10 (some .int) 4) (hst : l.stackTraces = false) (hts2 : ∀ w ∈ pw2, w.before args s = true) (hV : vt A s s.heap) (htab : ∀ x ∈ c.exceptionTable.toList, False)  {p0 : Int32} {p1 : Int32} {σ : ST} (h : f_X10_letter  p0 p1 σ = some q) : GoA p l e ({ frames := 6, cells := 1, slots := 6, locals := 90 } : Room) s m args below meth c (vx_MQ below (qAix dC dI a k A q) (xAx dC dI a k A (q.1 = none) q.2) args s 1 6 A) dC dI a k A 4 0 σ (lv_args 0 [.ref (a 0), .int p0, .int p1]) [] := by
  have hC0 := hC
  obtain ⟨hx, hb, hr, hml, hown, hts, hlocks, hA, hN, hK⟩ := hC0
  intro H locs ls hP hD hS hl
  have hD0 : ∀ σ1 : ST, va_D A (wA a k σ1) := fun σ1 => wA_D hD
  replace hl : lv_has ls 4 [(0, .ref (a 0)), (1, .int p0), (2, .int p1)] := hl
  unfold f_X10_letter at h
  refine lv_aload_n hx hb dX10_letter_0 rfl (lv_at hl 0 rfl) ?_
  refine va_get (D := (dC, dI)) (ci := 10) (C := RX10) (T := TX10) (N := 16) hx hb hts inlX10 hown hK hP 0 gA_0 rfl 9 (by decide) (hts (.fieldLink RX10 73 "ShapeReader" "shown" "LShapeReader$Tree;") mw_21_26) (fun _ h9 => h9) rfl dX10_letter_1 ?_
  refine lv_iload_n hx hb dX10_letter_4 rfl (lv_at hl 1 rfl) ?_
  obtain ⟨q1, hc, h⟩ := ib h
  have hF := va_frees hD hS hA
  refine va_calli (va_runV (As := [.int p0]) (rest := []) ⟨hx, hb, hml, hown, hts⟩ (s_X7_rowAt_50 hc) (cwV 1 hts (gV mw_25_24 mw_18_29 mw_19_0 mw_0_11 mw_52_7) rfl rfl rfl (by decide +kernel) ⟨(Nat.le_of_ble_eq_true rfl), (Nat.le_of_ble_eq_true rfl)⟩) (vV (ci := 7) (q0 := 50) hK hP hD hN rfl gA_50) rfl rfl hl.1 rfl (lv_room (Nat.le_of_ble_eq_true rfl)) dX10_letter_5 ⟨(Nat.le_of_ble_eq_true rfl), (Nat.le_of_ble_eq_true rfl)⟩) hS (fun q _ h => hF q h) hF (fun r2 u t H locs ht hvm hw hB _ _ hS => ?_)
  obtain rfl : r2 = q1.1 := hw
  replace hP : va_P (dC, dI) vwCl (wA a k q1.2) H := by rw [← ht]; exact hB.1
  replace hD := hD0 (q1.2)
  clear hB hF
  refine lv_istore_n (lv' := [(3, .int q1.1), (0, .ref (a 0)), (1, .int p0), (2, .int p1)]) hx hb dX10_letter_8 rfl hl (by decide) rfl (fun ls hl => ?_)
  refine lv_iload_n hx hb dX10_letter_9 rfl (lv_at hl 0 rfl) ?_
  refine lv_iconst (v := (-1)) hx hb dX10_letter_10 (by decide) ?_
  refine lv_icmp_eq (tgt := 30) hx hb dX10_letter_11 (by decide) (fun hc => ?_) (fun hc => ?_)
  · replace h := ip hc h
    exact b_X10_letter_30 hC hst hts2 hV htab h _ _ _ hP hD hS (lv_sub hl [] rfl)
  · replace h := iq hc h
    refine lv_aload_n hx hb dX10_letter_14 rfl (lv_at hl 1 rfl) ?_
    refine va_get (D := (dC, dI)) (ci := 10) (C := RX10) (T := TX10) (N := 16) hx hb hts inlX10 hown hK hP 0 gA_0 rfl 9 (by decide) (hts (.fieldLink RX10 73 "ShapeReader" "shown" "LShapeReader$Tree;") mw_21_26) (fun _ h9 => h9) rfl dX10_letter_15 ?_
    refine lv_iload_n hx hb dX10_letter_18 rfl (lv_at hl 0 rfl) ?_
    obtain ⟨q3, hc, h⟩ := ib h
    have hF := va_frees hD hS hA
    refine va_calli (va_runV (As := [.int q1.1]) (rest := []) ⟨hx, hb, hml, hown, hts⟩ (s_X7_sortAt_50 hc) (cwV 1 hts (gV mw_25_25 mw_5_7 mw_5_8 mw_0_11 mw_51_29) rfl rfl rfl (by decide +kernel) ⟨(Nat.le_of_ble_eq_true rfl), (Nat.le_of_ble_eq_true rfl)⟩) (vV (ci := 7) (q0 := 50) hK hP hD hN rfl gA_50) rfl rfl hl.1 rfl (lv_room (Nat.le_of_ble_eq_true rfl)) dX10_letter_19 ⟨(Nat.le_of_ble_eq_true rfl), (Nat.le_of_ble_eq_true rfl)⟩) hS (fun q _ h => hF q h) hF (fun r4 u t H locs ht hvm hw hB _ _ hS => ?_)
    obtain rfl : r4 = q3.1 := hw
    replace hP : va_P (dC, dI) vwCl (wA a k q3.2) H := by rw [← ht]; exact hB.1
    replace hD := hD0 (q3.2)
    clear hB hF
    refine lv_iconst (v := 5) hx hb dX10_letter_22 (by decide) ?_
    refine lv_icmp_ne (tgt := 30) hx hb dX10_letter_23 (by decide) (fun hc => ?_) (fun hc => ?_)
    · replace h := iq hc h
      exact b_X10_letter_30 hC hst hts2 hV htab h _ _ _ hP hD hS (lv_sub hl [] rfl)
    · replace h := ip hc h
      refine lv_iload_n hx hb dX10_letter_26 rfl (lv_at hl 3 rfl) ?_
      refine lv_if_ge (tgt := 38) hx hb dX10_letter_27 (by decide) (fun hc => ?_) (fun hc => ?_)
      · replace h := ip hc h
        refine lv_iload_n hx hb dX10_letter_38 rfl (lv_at hl 3 rfl) ?_
        refine lv_aload_n hx hb dX10_letter_39 rfl (lv_at hl 1 rfl) ?_
        refine va_get (D := (dC, dI)) (ci := 10) (C := RX10) (T := TX10) (N := 16) hx hb hts inlX10 hown hK hP 0 gA_0 rfl 9 (by decide) (hts (.fieldLink RX10 73 "ShapeReader" "shown" "LShapeReader$Tree;") mw_21_26) (fun _ h9 => h9) rfl dX10_letter_40 ?_
        refine lv_iload_n hx hb dX10_letter_43 rfl (lv_at hl 0 rfl) ?_
        obtain ⟨q5, hc, h⟩ := ib h
        have hF := va_frees hD hS hA
        refine va_calli (va_runV (As := [.int q1.1]) (rest := [.int p1]) ⟨hx, hb, hml, hown, hts⟩ (s_X7_sizeOf_50 hc) (cwV 1 hts (gV mw_26_1 mw_5_18 mw_5_19 mw_0_11 mw_52_2) rfl rfl rfl (by decide +kernel) ⟨(Nat.le_of_ble_eq_true rfl), (Nat.le_of_ble_eq_true rfl)⟩) (vV (ci := 7) (q0 := 50) hK hP hD hN rfl gA_50) rfl rfl hl.1 rfl (lv_room (Nat.le_of_ble_eq_true rfl)) dX10_letter_44 ⟨(Nat.le_of_ble_eq_true rfl), (Nat.le_of_ble_eq_true rfl)⟩) hS (fun q _ h => hF q h) hF (fun r6 u t H locs ht hvm hw hB _ _ hS => ?_)
        obtain rfl : r6 = q5.1 := hw
        replace hP : va_P (dC, dI) vwCl (wA a k q5.2) H := by rw [← ht]; exact hB.1
        replace hD := hD0 (q5.2)
        clear hB hF
        refine lv_icmp_ge (tgt := 65) hx hb dX10_letter_47 (by decide) (fun hc => ?_) (fun hc => ?_)
        · replace h := ip hc h
          refine lv_iconst (v := 0) hx hb dX10_letter_65 (by decide) ?_
          refine vx_ret ?_
          refine W.widen (k := 1) (n := 6) (Nat.le_of_ble_eq_true rfl) (Nat.le_of_ble_eq_true rfl) ?_
          obtain rfl := Option.some.inj h
          exact W.iret hx hb hr (fun t ht hW => ⟨⟨_, (), rfl, rfl, ⟨by rw [ht]; exact hP, va_K.moved hW.alike hK, hD⟩⟩, hS.F ht⟩) hS.2.2 dX10_letter_66
        · replace h := iq hc h
          refine lv_aload_n hx hb dX10_letter_50 rfl (lv_at hl 1 rfl) ?_
          refine va_get (D := (dC, dI)) (ci := 10) (C := RX10) (T := TX10) (N := 16) hx hb hts inlX10 hown hK hP 0 gA_0 rfl 9 (by decide) (hts (.fieldLink RX10 73 "ShapeReader" "shown" "LShapeReader$Tree;") mw_21_26) (fun _ h9 => h9) rfl dX10_letter_51 ?_
          refine lv_iload_n hx hb dX10_letter_54 rfl (lv_at hl 0 rfl) ?_
          obtain ⟨q7, hc, h⟩ := ib h
          have hF := va_frees hD hS hA
          refine va_calll (va_runV (As := [.int q1.1]) (rest := []) ⟨hx, hb, hml, hown, hts⟩ (s_X7_worthOf_50 hc) (cwV 1 hts (gV mw_26_5 mw_6_0 mw_6_1 mw_0_11 mw_52_4) rfl rfl rfl (by decide +kernel) ⟨(Nat.le_of_ble_eq_true rfl), (Nat.le_of_ble_eq_true rfl)⟩) (vV (ci := 7) (q0 := 50) hK hP hD hN rfl gA_50) rfl rfl hl.1 rfl (lv_room (Nat.le_of_ble_eq_true rfl)) dX10_letter_55 ⟨(Nat.le_of_ble_eq_true rfl), (Nat.le_of_ble_eq_true rfl)⟩) hS (fun q _ h => hF q h) hF (fun r8 u t H locs ht hvm hw hB _ _ hS => ?_)
          obtain rfl : r8 = q7.1 := hw
          replace hP : va_P (dC, dI) vwCl (wA a k q7.2) H := by rw [← ht]; exact hB.1
          replace hD := hD0 (q7.2)
          clear hB hF
          refine lv_iload_n hx hb dX10_letter_58 rfl (lv_at hl 3 rfl) ?_
          obtain ⟨q9, hc, h⟩ := ib h
          have hF := va_frees hD hS hA
          refine va_calli (va_runS (As := [.long q7.1, .int p1]) (rest := []) ⟨hx, hb, hml, hown, hts⟩ (s_X10_letterOf hc) (va_cwS 2 hts (gS mw_26_6 mw_6_27 mw_0_14 mw_53_20) rfl rfl rfl (by decide +kernel) ⟨(Nat.le_of_ble_eq_true rfl), (Nat.le_of_ble_eq_true rfl)⟩) (vS hK hP hD hN) rfl rfl hl.1 rfl (lv_room (Nat.le_of_ble_eq_true rfl)) dX10_letter_59 ⟨(Nat.le_of_ble_eq_true rfl), (Nat.le_of_ble_eq_true rfl)⟩) hS (fun q _ h => hF q h) hF (fun r10 u t H locs ht hvm hw hB _ _ hS => ?_)
          obtain rfl : r10 = q9.1 := hw
          replace hP : va_P (dC, dI) vwCl (wA a k q9.2) H := by rw [← ht]; exact hB.1
          replace hD := hD0 (q9.2)
          clear hB hF
          refine lv_goto (tgt := 66) hx hb dX10_letter_62 (by decide) ?_
          refine vx_ret ?_
          refine W.widen (k := 1) (n := 6) (Nat.le_of_ble_eq_true rfl) (Nat.le_of_ble_eq_true rfl) ?_
          obtain rfl := Option.some.inj h
          exact W.iret hx hb hr (fun t ht hW => ⟨⟨_, (), rfl, rfl, ⟨by rw [ht]; exact hP, va_K.moved hW.alike hK, hD⟩⟩, hS.F ht⟩) hS.2.2 dX10_letter_66
      · replace h := iq hc h
        exact b_X10_letter_30 hC hst hts2 hV htab h _ _ _ hP hD hS (lv_sub hl [] rfl)

theorem s_X10_letter {l : Launch} {dC : Nat → ClassId} {dI : Nat → Nat → Nat} {a : Nat → Nat} {k : Nat → ClassId} {sz : Nat} {p0 : Int32} {p1 : Int32} {σ : ST} {q : Option Int32 × ST} (hst : l.stackTraces = false) (h : f_X10_letter  p0 p1 σ = some q) : vx_Met l yX10_letter (.code yX10_letter cX10_letter 4 (some .int) :: pw2) ({ frames := 6, cells := 1, slots := 6, locals := 90 } : Room) (va_Pc [.ref (a 0), .int p0, .int p1] (fun U => vPre dC dI (wA a k σ) (tA k) sz U ∧ vt (va_A (wA a k σ) sz) U U.heap)) (qAix dC dI a k (va_A (wA a k σ) sz) q) (xAx dC dI a k (va_A (wA a k σ) sz) (q.1 = none) q.2) 1 6 (va_A (wA a k σ) sz) := mexA (fun A => qAix dC dI a k A q) (fun A => xAx dC dI a k A (q.1 = none) q.2) (by decide) (Nat.le_of_ble_eq_true rfl) (fun _ _ _ _ _ _ _ _ hC hts2 hV htab => b_X10_letter_e hC hst hts2 hV htab h)


def f_X10_node_23 (σ : ST) : Option (Option Int32 × ST) := some (none, σ)
def f_X10_node (p0 : Int32) (p1 : Int32) (σ : ST) : Option (Option Int32 × ST) := (f_X7_rowAt 50 p0 σ).bind fun q1 => if q1.1 = (-1) then (f_X10_node_23   q1.2) else (if p1 < 0 then (f_X10_node_23   q1.2) else (if p1 ≤ 4 then (if p1 = 0 then ((f_X7_sortAt 50 q1.1 q1.2).bind fun q7 => some (some q7.1, q7.2)) else (if p1 = 1 then ((f_X7_parentOf 50 q1.1 q1.2).bind fun q9 => (f_X7_numberOf 50 q9.1 q9.2).bind fun q11 => some (some q11.1, q11.2)) else (if p1 = 2 then ((f_X7_placeOf 50 q1.1 q1.2).bind fun q13 => some (some q13.1, q13.2)) else (if p1 = 3 then ((f_X7_sizeOf 50 q1.1 q1.2).bind fun q15 => some (some q15.1, q15.2)) else ((f_X7_isFilled 50 q1.1 q1.2).bind fun q17 => if q17.1 = 0 then (some (some 0, q17.2)) else (some (some 1, q17.2))))))) else (f_X10_node_23   q1.2)))

set_option maxRecDepth 100000 in
set_option maxHeartbeats 4000000 in
theorem b_X10_node_23 {p : Program} {l : Launch} {e : Env} {s : State} {m : MethodId} {args : Array Value} {below : List Frame} {meth : Method} {c : Code} {dC : Nat → ClassId} {dI : Nat → Nat → Nat} {a : Nat → Nat} {k : Nat → ClassId} {A : Nat → Prop} {q : Option Int32 × ST} (hC : CxA p s m args meth c dC dI k A cX10_node RX10 (some .int) 4) (hst : l.stackTraces = false) (hts2 : ∀ w ∈ pw2, w.before args s = true) (hV : vt A s s.heap) (htab : ∀ x ∈ c.exceptionTable.toList, False)   {σ : ST} (h : f_X10_node_23   σ = some q) : GoA p l e ({ frames := 6, cells := 1, slots := 6, locals := 90 } : Room) s m args below meth c (vx_MQ below (qAix dC dI a k A q) (xAx dC dI a k A (q.1 = none) q.2) args s 1 6 A) dC dI a k A 4 23 σ [] [] := by
  have hC0 := hC
  obtain ⟨hx, hb, hr, hml, hown, hts, hlocks, hA, hN, hK⟩ := hC0
  intro H locs ls hP hD hS hl
  have hD0 : ∀ σ1 : ST, va_D A (wA a k σ1) := fun σ1 => wA_D hD
  unfold f_X10_node_23 at h
  obtain rfl := Option.some.inj h
  exact vx_throw0 (A := A) (ik := 217) (ic := 219) (names := ["java/lang/RuntimeException", "java/lang/Exception"]) hx hb hst hown (by decide) (by decide) (hts (.classLink RX10 217 "java/util/NoSuchElementException") mw_24_17) (hts (.initialized "java/util/NoSuchElementException") mw_24_18) (vx_hat (L := px0) (fun w h => hts2 w (List.mem_append_right _ h)) pB_all (fun w h => va_Nw.use (pB_ot w h) (hV.1 w h))) px_ot hV.2.1 hV.2.2 hS (hl.1.trans hml.symm) dX10_node_23 dX10_node_26 dX10_node_27 dX10_node_30 (fun x h9 => (htab x h9).elim) (Nat.le_of_ble_eq_true rfl) (Nat.le_of_ble_eq_true rfl) (Nat.le_of_ble_eq_true rfl) (Nat.le_of_ble_eq_true rfl) hlocks (fun t hvm hz hk => ⟨(), rfl, ⟨rfl, fun i p hp => (hP i p hp).kept (hk p.1 (hP i p hp).lt), va_K.moved hvm hK, hD⟩, Nat.le_trans hS.1 hz, fun q h1 h2 => (hk q (Nat.lt_of_lt_of_le h1 hS.1)).trans (hS.2.1 q h1 h2)⟩) hS.2.2 (Nat.le_of_ble_eq_true rfl) (Nat.le_of_ble_eq_true rfl)

set_option maxRecDepth 100000 in
set_option maxHeartbeats 4000000 in
theorem b_X10_node_e {p : Program} {l : Launch} {e : Env} {s : State} {m : MethodId} {args : Array Value} {below : List Frame} {meth : Method} {c : Code} {dC : Nat → ClassId} {dI : Nat → Nat → Nat} {a : Nat → Nat} {k : Nat → ClassId} {A : Nat → Prop} {q : Option Int32 × ST} (hC : CxA p s m args meth c dC dI k A cX10_node RX10 (some .int) 4) (hst : l.stackTraces = false) (hts2 : ∀ w ∈ pw2, w.before args s = true) (hV : vt A s s.heap) (htab : ∀ x ∈ c.exceptionTable.toList, False)  {p0 : Int32} {p1 : Int32} {σ : ST} (h : f_X10_node  p0 p1 σ = some q) : GoA p l e ({ frames := 6, cells := 1, slots := 6, locals := 90 } : Room) s m args below meth c (vx_MQ below (qAix dC dI a k A q) (xAx dC dI a k A (q.1 = none) q.2) args s 1 6 A) dC dI a k A 4 0 σ (lv_args 0 [.ref (a 0), .int p0, .int p1]) [] := by
  have hC0 := hC
  obtain ⟨hx, hb, hr, hml, hown, hts, hlocks, hA, hN, hK⟩ := hC0
  intro H locs ls hP hD hS hl
  have hD0 : ∀ σ1 : ST, va_D A (wA a k σ1) := fun σ1 => wA_D hD
  replace hl : lv_has ls 4 [(0, .ref (a 0)), (1, .int p0), (2, .int p1)] := hl
  unfold f_X10_node at h
  refine lv_aload_n hx hb dX10_node_0 rfl (lv_at hl 0 rfl) ?_
  refine va_get (D := (dC, dI)) (ci := 10) (C := RX10) (T := TX10) (N := 16) hx hb hts inlX10 hown hK hP 0 gA_0 rfl 9 (by decide) (hts (.fieldLink RX10 73 "ShapeReader" "shown" "LShapeReader$Tree;") mw_21_26) (fun _ h9 => h9) rfl dX10_node_1 ?_
  refine lv_iload_n hx hb dX10_node_4 rfl (lv_at hl 1 rfl) ?_
  obtain ⟨q1, hc, h⟩ := ib h
  have hF := va_frees hD hS hA
  refine va_calli (va_runV (As := [.int p0]) (rest := []) ⟨hx, hb, hml, hown, hts⟩ (s_X7_rowAt_50 hc) (cwV 1 hts (gV mw_25_24 mw_18_29 mw_19_0 mw_0_11 mw_52_7) rfl rfl rfl (by decide +kernel) ⟨(Nat.le_of_ble_eq_true rfl), (Nat.le_of_ble_eq_true rfl)⟩) (vV (ci := 7) (q0 := 50) hK hP hD hN rfl gA_50) rfl rfl hl.1 rfl (lv_room (Nat.le_of_ble_eq_true rfl)) dX10_node_5 ⟨(Nat.le_of_ble_eq_true rfl), (Nat.le_of_ble_eq_true rfl)⟩) hS (fun q _ h => hF q h) hF (fun r2 u t H locs ht hvm hw hB _ _ hS => ?_)
  obtain rfl : r2 = q1.1 := hw
  replace hP : va_P (dC, dI) vwCl (wA a k q1.2) H := by rw [← ht]; exact hB.1
  replace hD := hD0 (q1.2)
  clear hB hF
  refine lv_istore_n (lv' := [(3, .int q1.1), (0, .ref (a 0)), (1, .int p0), (2, .int p1)]) hx hb dX10_node_8 rfl hl (by decide) rfl (fun ls hl => ?_)
  refine lv_iload_n hx hb dX10_node_9 rfl (lv_at hl 0 rfl) ?_
  refine lv_iconst (v := (-1)) hx hb dX10_node_10 (by decide) ?_
  refine lv_icmp_eq (tgt := 23) hx hb dX10_node_11 (by decide) (fun hc => ?_) (fun hc => ?_)
  · replace h := ip hc h
    exact b_X10_node_23 hC hst hts2 hV htab h _ _ _ hP hD hS (lv_sub hl [] rfl)
  · replace h := iq hc h
    refine lv_iload_n hx hb dX10_node_14 rfl (lv_at hl 3 rfl) ?_
    refine lv_if_lt (tgt := 23) hx hb dX10_node_15 (by decide) (fun hc => ?_) (fun hc => ?_)
    · replace h := ip hc h
      exact b_X10_node_23 hC hst hts2 hV htab h _ _ _ hP hD hS (lv_sub hl [] rfl)
    · replace h := iq hc h
      refine lv_iload_n hx hb dX10_node_18 rfl (lv_at hl 3 rfl) ?_
      refine lv_iconst (v := 4) hx hb dX10_node_19 (by decide) ?_
      refine lv_icmp_le (tgt := 31) hx hb dX10_node_20 (by decide) (fun hc => ?_) (fun hc => ?_)
      · replace h := ip hc h
        refine lv_iload_n hx hb dX10_node_31 rfl (lv_at hl 3 rfl) ?_
        rcases (il_sw4 p1 (0) (1) (2) (3)) with s3 | s4 | s5 | s6 | ⟨s3, s4, s5, s6⟩
        · replace h := ip s3 h
          refine lv_tableIn (off := 32) (tgt := 64) hx hb dX10_node_32 (by rw [s3]; decide) (by rw [s3]; decide) (by rw [s3]; rfl) (by decide) ?_
          refine lv_aload_n hx hb dX10_node_64 rfl (lv_at hl 1 rfl) ?_
          refine va_get (D := (dC, dI)) (ci := 10) (C := RX10) (T := TX10) (N := 16) hx hb hts inlX10 hown hK hP 0 gA_0 rfl 9 (by decide) (hts (.fieldLink RX10 73 "ShapeReader" "shown" "LShapeReader$Tree;") mw_21_26) (fun _ h9 => h9) rfl dX10_node_65 ?_
          refine lv_iload_n hx hb dX10_node_68 rfl (lv_at hl 0 rfl) ?_
          obtain ⟨q7, hc, h⟩ := ib h
          have hF := va_frees hD hS hA
          refine va_calli (va_runV (As := [.int q1.1]) (rest := []) ⟨hx, hb, hml, hown, hts⟩ (s_X7_sortAt_50 hc) (cwV 1 hts (gV mw_25_25 mw_5_7 mw_5_8 mw_0_11 mw_51_29) rfl rfl rfl (by decide +kernel) ⟨(Nat.le_of_ble_eq_true rfl), (Nat.le_of_ble_eq_true rfl)⟩) (vV (ci := 7) (q0 := 50) hK hP hD hN rfl gA_50) rfl rfl hl.1 rfl (lv_room (Nat.le_of_ble_eq_true rfl)) dX10_node_69 ⟨(Nat.le_of_ble_eq_true rfl), (Nat.le_of_ble_eq_true rfl)⟩) hS (fun q _ h => hF q h) hF (fun r8 u t H locs ht hvm hw hB _ _ hS => ?_)
          obtain rfl : r8 = q7.1 := hw
          replace hP : va_P (dC, dI) vwCl (wA a k q7.2) H := by rw [← ht]; exact hB.1
          replace hD := hD0 (q7.2)
          clear hB hF
          refine vx_ret ?_
          refine W.widen (k := 1) (n := 6) (Nat.le_of_ble_eq_true rfl) (Nat.le_of_ble_eq_true rfl) ?_
          obtain rfl := Option.some.inj h
          exact W.iret hx hb hr (fun t ht hW => ⟨⟨_, (), rfl, rfl, ⟨by rw [ht]; exact hP, va_K.moved hW.alike hK, hD⟩⟩, hS.F ht⟩) hS.2.2 dX10_node_72
        · replace h := ip s4 (iq (by rw [s4]; decide) h)
          refine lv_tableIn (off := 41) (tgt := 73) hx hb dX10_node_32 (by rw [s4]; decide) (by rw [s4]; decide) (by rw [s4]; rfl) (by decide) ?_
          refine lv_aload_n hx hb dX10_node_73 rfl (lv_at hl 1 rfl) ?_
          refine va_get (D := (dC, dI)) (ci := 10) (C := RX10) (T := TX10) (N := 16) hx hb hts inlX10 hown hK hP 0 gA_0 rfl 9 (by decide) (hts (.fieldLink RX10 73 "ShapeReader" "shown" "LShapeReader$Tree;") mw_21_26) (fun _ h9 => h9) rfl dX10_node_74 ?_
          refine lv_aload_n hx hb dX10_node_77 rfl (lv_at hl 1 rfl) ?_
          refine va_get (D := (dC, dI)) (ci := 10) (C := RX10) (T := TX10) (N := 16) hx hb hts inlX10 hown hK hP 0 gA_0 rfl 9 (by decide) (hts (.fieldLink RX10 73 "ShapeReader" "shown" "LShapeReader$Tree;") mw_21_26) (fun _ h9 => h9) rfl dX10_node_78 ?_
          refine lv_iload_n hx hb dX10_node_81 rfl (lv_at hl 0 rfl) ?_
          obtain ⟨q9, hc, h⟩ := ib h
          have hF := va_frees hD hS hA
          refine va_calli (va_runV (As := [.int q1.1]) (rest := [.ref (a 50)]) ⟨hx, hb, hml, hown, hts⟩ (s_X7_parentOf_50 hc) (cwV 1 hts (gV mw_25_26 mw_18_26 mw_18_27 mw_0_11 mw_52_0) rfl rfl rfl (by decide +kernel) ⟨(Nat.le_of_ble_eq_true rfl), (Nat.le_of_ble_eq_true rfl)⟩) (vV (ci := 7) (q0 := 50) hK hP hD hN rfl gA_50) rfl rfl hl.1 rfl (lv_room (Nat.le_of_ble_eq_true rfl)) dX10_node_82 ⟨(Nat.le_of_ble_eq_true rfl), (Nat.le_of_ble_eq_true rfl)⟩) hS (fun q _ h => hF q h) hF (fun r10 u t H locs ht hvm hw hB _ _ hS => ?_)
          obtain rfl : r10 = q9.1 := hw
          replace hP : va_P (dC, dI) vwCl (wA a k q9.2) H := by rw [← ht]; exact hB.1
          replace hD := hD0 (q9.2)
          clear hB hF
          obtain ⟨q11, hc, h⟩ := ib h
          have hF := va_frees hD hS hA
          refine va_calli (va_runV (As := [.int q9.1]) (rest := []) ⟨hx, hb, hml, hown, hts⟩ (s_X7_numberOf_50 hc) (cwV 1 hts (gV mw_25_27 mw_25_28 mw_25_29 mw_0_11 mw_52_8) rfl rfl rfl (by decide +kernel) ⟨(Nat.le_of_ble_eq_true rfl), (Nat.le_of_ble_eq_true rfl)⟩) (vV (ci := 7) (q0 := 50) hK hP hD hN rfl gA_50) rfl rfl hl.1 rfl (lv_room (Nat.le_of_ble_eq_true rfl)) dX10_node_85 ⟨(Nat.le_of_ble_eq_true rfl), (Nat.le_of_ble_eq_true rfl)⟩) hS (fun q _ h => hF q h) hF (fun r12 u t H locs ht hvm hw hB _ _ hS => ?_)
          obtain rfl : r12 = q11.1 := hw
          replace hP : va_P (dC, dI) vwCl (wA a k q11.2) H := by rw [← ht]; exact hB.1
          replace hD := hD0 (q11.2)
          clear hB hF
          refine vx_ret ?_
          refine W.widen (k := 1) (n := 6) (Nat.le_of_ble_eq_true rfl) (Nat.le_of_ble_eq_true rfl) ?_
          obtain rfl := Option.some.inj h
          exact W.iret hx hb hr (fun t ht hW => ⟨⟨_, (), rfl, rfl, ⟨by rw [ht]; exact hP, va_K.moved hW.alike hK, hD⟩⟩, hS.F ht⟩) hS.2.2 dX10_node_88
        · replace h := ip s5 (iq (by rw [s5]; decide) (iq (by rw [s5]; decide) h))
          refine lv_tableIn (off := 57) (tgt := 89) hx hb dX10_node_32 (by rw [s5]; decide) (by rw [s5]; decide) (by rw [s5]; rfl) (by decide) ?_
          refine lv_aload_n hx hb dX10_node_89 rfl (lv_at hl 1 rfl) ?_
          refine va_get (D := (dC, dI)) (ci := 10) (C := RX10) (T := TX10) (N := 16) hx hb hts inlX10 hown hK hP 0 gA_0 rfl 9 (by decide) (hts (.fieldLink RX10 73 "ShapeReader" "shown" "LShapeReader$Tree;") mw_21_26) (fun _ h9 => h9) rfl dX10_node_90 ?_
          refine lv_iload_n hx hb dX10_node_93 rfl (lv_at hl 0 rfl) ?_
          obtain ⟨q13, hc, h⟩ := ib h
          have hF := va_frees hD hS hA
          refine va_calli (va_runV (As := [.int q1.1]) (rest := []) ⟨hx, hb, hml, hown, hts⟩ (s_X7_placeOf_50 hc) (cwV 1 hts (gV mw_26_0 mw_6_9 mw_6_10 mw_0_11 mw_52_1) rfl rfl rfl (by decide +kernel) ⟨(Nat.le_of_ble_eq_true rfl), (Nat.le_of_ble_eq_true rfl)⟩) (vV (ci := 7) (q0 := 50) hK hP hD hN rfl gA_50) rfl rfl hl.1 rfl (lv_room (Nat.le_of_ble_eq_true rfl)) dX10_node_94 ⟨(Nat.le_of_ble_eq_true rfl), (Nat.le_of_ble_eq_true rfl)⟩) hS (fun q _ h => hF q h) hF (fun r14 u t H locs ht hvm hw hB _ _ hS => ?_)
          obtain rfl : r14 = q13.1 := hw
          replace hP : va_P (dC, dI) vwCl (wA a k q13.2) H := by rw [← ht]; exact hB.1
          replace hD := hD0 (q13.2)
          clear hB hF
          refine vx_ret ?_
          refine W.widen (k := 1) (n := 6) (Nat.le_of_ble_eq_true rfl) (Nat.le_of_ble_eq_true rfl) ?_
          obtain rfl := Option.some.inj h
          exact W.iret hx hb hr (fun t ht hW => ⟨⟨_, (), rfl, rfl, ⟨by rw [ht]; exact hP, va_K.moved hW.alike hK, hD⟩⟩, hS.F ht⟩) hS.2.2 dX10_node_97
        · replace h := ip s6 (iq (by rw [s6]; decide) (iq (by rw [s6]; decide) (iq (by rw [s6]; decide) h)))
          refine lv_tableIn (off := 66) (tgt := 98) hx hb dX10_node_32 (by rw [s6]; decide) (by rw [s6]; decide) (by rw [s6]; rfl) (by decide) ?_
          refine lv_aload_n hx hb dX10_node_98 rfl (lv_at hl 1 rfl) ?_
          refine va_get (D := (dC, dI)) (ci := 10) (C := RX10) (T := TX10) (N := 16) hx hb hts inlX10 hown hK hP 0 gA_0 rfl 9 (by decide) (hts (.fieldLink RX10 73 "ShapeReader" "shown" "LShapeReader$Tree;") mw_21_26) (fun _ h9 => h9) rfl dX10_node_99 ?_
          refine lv_iload_n hx hb dX10_node_102 rfl (lv_at hl 0 rfl) ?_
          obtain ⟨q15, hc, h⟩ := ib h
          have hF := va_frees hD hS hA
          refine va_calli (va_runV (As := [.int q1.1]) (rest := []) ⟨hx, hb, hml, hown, hts⟩ (s_X7_sizeOf_50 hc) (cwV 1 hts (gV mw_26_1 mw_5_18 mw_5_19 mw_0_11 mw_52_2) rfl rfl rfl (by decide +kernel) ⟨(Nat.le_of_ble_eq_true rfl), (Nat.le_of_ble_eq_true rfl)⟩) (vV (ci := 7) (q0 := 50) hK hP hD hN rfl gA_50) rfl rfl hl.1 rfl (lv_room (Nat.le_of_ble_eq_true rfl)) dX10_node_103 ⟨(Nat.le_of_ble_eq_true rfl), (Nat.le_of_ble_eq_true rfl)⟩) hS (fun q _ h => hF q h) hF (fun r16 u t H locs ht hvm hw hB _ _ hS => ?_)
          obtain rfl : r16 = q15.1 := hw
          replace hP : va_P (dC, dI) vwCl (wA a k q15.2) H := by rw [← ht]; exact hB.1
          replace hD := hD0 (q15.2)
          clear hB hF
          refine vx_ret ?_
          refine W.widen (k := 1) (n := 6) (Nat.le_of_ble_eq_true rfl) (Nat.le_of_ble_eq_true rfl) ?_
          obtain rfl := Option.some.inj h
          exact W.iret hx hb hr (fun t ht hW => ⟨⟨_, (), rfl, rfl, ⟨by rw [ht]; exact hP, va_K.moved hW.alike hK, hD⟩⟩, hS.F ht⟩) hS.2.2 dX10_node_106
        · replace h := (iq s6 (iq s5 (iq s4 (iq s3 h))))
          refine lv_tableOut (tgt := 107) hx hb dX10_node_32 (by have a0 := il_ne s3; have e0 : (0 : Int32).toInt = 0 := (by decide); have a1 := il_ne s4; have e1 : (1 : Int32).toInt = 1 := (by decide); have a2 := il_ne s5; have e2 : (2 : Int32).toInt = 2 := (by decide); have a3 := il_ne s6; have e3 : (3 : Int32).toInt = 3 := (by decide); omega) (by decide) ?_
          refine lv_aload_n hx hb dX10_node_107 rfl (lv_at hl 1 rfl) ?_
          refine va_get (D := (dC, dI)) (ci := 10) (C := RX10) (T := TX10) (N := 16) hx hb hts inlX10 hown hK hP 0 gA_0 rfl 9 (by decide) (hts (.fieldLink RX10 73 "ShapeReader" "shown" "LShapeReader$Tree;") mw_21_26) (fun _ h9 => h9) rfl dX10_node_108 ?_
          refine lv_iload_n hx hb dX10_node_111 rfl (lv_at hl 0 rfl) ?_
          obtain ⟨q17, hc, h⟩ := ib h
          have hF := va_frees hD hS hA
          refine va_calli (va_runV (As := [.int q1.1]) (rest := []) ⟨hx, hb, hml, hown, hts⟩ (s_X7_isFilled_50 hc) (cwV 1 hts (gV mw_26_2 mw_26_3 mw_26_4 mw_0_11 mw_52_3) rfl rfl rfl (by decide +kernel) ⟨(Nat.le_of_ble_eq_true rfl), (Nat.le_of_ble_eq_true rfl)⟩) (vV (ci := 7) (q0 := 50) hK hP hD hN rfl gA_50) rfl rfl hl.1 rfl (lv_room (Nat.le_of_ble_eq_true rfl)) dX10_node_112 ⟨(Nat.le_of_ble_eq_true rfl), (Nat.le_of_ble_eq_true rfl)⟩) hS (fun q _ h => hF q h) hF (fun r18 u t H locs ht hvm hw hB _ _ hS => ?_)
          obtain rfl : r18 = q17.1 := hw
          replace hP : va_P (dC, dI) vwCl (wA a k q17.2) H := by rw [← ht]; exact hB.1
          replace hD := hD0 (q17.2)
          clear hB hF
          refine lv_if_eq (tgt := 122) hx hb dX10_node_115 (by decide) (fun hc => ?_) (fun hc => ?_)
          · replace h := ip hc h
            refine lv_iconst (v := 0) hx hb dX10_node_122 (by decide) ?_
            refine vx_ret ?_
            refine W.widen (k := 1) (n := 6) (Nat.le_of_ble_eq_true rfl) (Nat.le_of_ble_eq_true rfl) ?_
            obtain rfl := Option.some.inj h
            exact W.iret hx hb hr (fun t ht hW => ⟨⟨_, (), rfl, rfl, ⟨by rw [ht]; exact hP, va_K.moved hW.alike hK, hD⟩⟩, hS.F ht⟩) hS.2.2 dX10_node_123
          · replace h := iq hc h
            refine lv_iconst (v := 1) hx hb dX10_node_118 (by decide) ?_
            refine lv_goto (tgt := 123) hx hb dX10_node_119 (by decide) ?_
            refine vx_ret ?_
            refine W.widen (k := 1) (n := 6) (Nat.le_of_ble_eq_true rfl) (Nat.le_of_ble_eq_true rfl) ?_
            obtain rfl := Option.some.inj h
            exact W.iret hx hb hr (fun t ht hW => ⟨⟨_, (), rfl, rfl, ⟨by rw [ht]; exact hP, va_K.moved hW.alike hK, hD⟩⟩, hS.F ht⟩) hS.2.2 dX10_node_123
      · replace h := iq hc h
        exact b_X10_node_23 hC hst hts2 hV htab h _ _ _ hP hD hS (lv_sub hl [] rfl)

theorem s_X10_node {l : Launch} {dC : Nat → ClassId} {dI : Nat → Nat → Nat} {a : Nat → Nat} {k : Nat → ClassId} {sz : Nat} {p0 : Int32} {p1 : Int32} {σ : ST} {q : Option Int32 × ST} (hst : l.stackTraces = false) (h : f_X10_node  p0 p1 σ = some q) : vx_Met l yX10_node (.code yX10_node cX10_node 4 (some .int) :: pw2) ({ frames := 6, cells := 1, slots := 6, locals := 90 } : Room) (va_Pc [.ref (a 0), .int p0, .int p1] (fun U => vPre dC dI (wA a k σ) (tA k) sz U ∧ vt (va_A (wA a k σ) sz) U U.heap)) (qAix dC dI a k (va_A (wA a k σ) sz) q) (xAx dC dI a k (va_A (wA a k σ) sz) (q.1 = none) q.2) 1 6 (va_A (wA a k σ) sz) := mexA (fun A => qAix dC dI a k A q) (fun A => xAx dC dI a k A (q.1 = none) q.2) (by decide) (Nat.le_of_ble_eq_true rfl) (fun _ _ _ _ _ _ _ _ hC hts2 hV htab => b_X10_node_e hC hst hts2 hV htab h)


def f_X10_value (p0 : Int32) (σ : ST) : Option (Option Int64 × ST) := (f_X7_rowAt 50 p0 σ).bind fun q1 => if q1.1 = (-1) then (some (none, q1.2)) else ((f_X7_sortAt 50 q1.1 q1.2).bind fun q3 => if q3.1 = 5 then (some (some 0, q3.2)) else ((f_X7_worthOf 50 q1.1 q3.2).bind fun q5 => some (some q5.1, q5.2)))

set_option maxRecDepth 100000 in
set_option maxHeartbeats 4000000 in
theorem b_X10_value_e {p : Program} {l : Launch} {e : Env} {s : State} {m : MethodId} {args : Array Value} {below : List Frame} {meth : Method} {c : Code} {dC : Nat → ClassId} {dI : Nat → Nat → Nat} {a : Nat → Nat} {k : Nat → ClassId} {A : Nat → Prop} {q : Option Int64 × ST} (hC : CxA p s m args meth c dC dI k A cX10_value RX10 (some .long) 3) (hst : l.stackTraces = false) (hts2 : ∀ w ∈ pw2, w.before args s = true) (hV : vt A s s.heap) (htab : ∀ x ∈ c.exceptionTable.toList, False)  {p0 : Int32} {σ : ST} (h : f_X10_value  p0 σ = some q) : GoA p l e ({ frames := 6, cells := 1, slots := 6, locals := 90 } : Room) s m args below meth c (vx_MQ below (qAlx dC dI a k A q) (xAx dC dI a k A (q.1 = none) q.2) args s 1 6 A) dC dI a k A 3 0 σ (lv_args 0 [.ref (a 0), .int p0]) [] := by
  have hC0 := hC
  obtain ⟨hx, hb, hr, hml, hown, hts, hlocks, hA, hN, hK⟩ := hC0
  intro H locs ls hP hD hS hl
  have hD0 : ∀ σ1 : ST, va_D A (wA a k σ1) := fun σ1 => wA_D hD
  replace hl : lv_has ls 3 [(0, .ref (a 0)), (1, .int p0)] := hl
  unfold f_X10_value at h
  refine lv_aload_n hx hb dX10_value_0 rfl (lv_at hl 0 rfl) ?_
  refine va_get (D := (dC, dI)) (ci := 10) (C := RX10) (T := TX10) (N := 16) hx hb hts inlX10 hown hK hP 0 gA_0 rfl 9 (by decide) (hts (.fieldLink RX10 73 "ShapeReader" "shown" "LShapeReader$Tree;") mw_21_26) (fun _ h9 => h9) rfl dX10_value_1 ?_
  refine lv_iload_n hx hb dX10_value_4 rfl (lv_at hl 1 rfl) ?_
  obtain ⟨q1, hc, h⟩ := ib h
  have hF := va_frees hD hS hA
  refine va_calli (va_runV (As := [.int p0]) (rest := []) ⟨hx, hb, hml, hown, hts⟩ (s_X7_rowAt_50 hc) (cwV 1 hts (gV mw_25_24 mw_18_29 mw_19_0 mw_0_11 mw_52_7) rfl rfl rfl (by decide +kernel) ⟨(Nat.le_of_ble_eq_true rfl), (Nat.le_of_ble_eq_true rfl)⟩) (vV (ci := 7) (q0 := 50) hK hP hD hN rfl gA_50) rfl rfl hl.1 rfl (lv_room (Nat.le_of_ble_eq_true rfl)) dX10_value_5 ⟨(Nat.le_of_ble_eq_true rfl), (Nat.le_of_ble_eq_true rfl)⟩) hS (fun q _ h => hF q h) hF (fun r2 u t H locs ht hvm hw hB _ _ hS => ?_)
  obtain rfl : r2 = q1.1 := hw
  replace hP : va_P (dC, dI) vwCl (wA a k q1.2) H := by rw [← ht]; exact hB.1
  replace hD := hD0 (q1.2)
  clear hB hF
  refine lv_istore_n (lv' := [(2, .int q1.1), (0, .ref (a 0)), (1, .int p0)]) hx hb dX10_value_8 rfl hl (by decide) rfl (fun ls hl => ?_)
  refine lv_iload_n hx hb dX10_value_9 rfl (lv_at hl 0 rfl) ?_
  refine lv_iconst (v := (-1)) hx hb dX10_value_10 (by decide) ?_
  refine lv_icmp_ne (tgt := 22) hx hb dX10_value_11 (by decide) (fun hc => ?_) (fun hc => ?_)
  · replace h := iq hc h
    refine lv_aload_n hx hb dX10_value_22 rfl (lv_at hl 1 rfl) ?_
    refine va_get (D := (dC, dI)) (ci := 10) (C := RX10) (T := TX10) (N := 16) hx hb hts inlX10 hown hK hP 0 gA_0 rfl 9 (by decide) (hts (.fieldLink RX10 73 "ShapeReader" "shown" "LShapeReader$Tree;") mw_21_26) (fun _ h9 => h9) rfl dX10_value_23 ?_
    refine lv_iload_n hx hb dX10_value_26 rfl (lv_at hl 0 rfl) ?_
    obtain ⟨q3, hc, h⟩ := ib h
    have hF := va_frees hD hS hA
    refine va_calli (va_runV (As := [.int q1.1]) (rest := []) ⟨hx, hb, hml, hown, hts⟩ (s_X7_sortAt_50 hc) (cwV 1 hts (gV mw_25_25 mw_5_7 mw_5_8 mw_0_11 mw_51_29) rfl rfl rfl (by decide +kernel) ⟨(Nat.le_of_ble_eq_true rfl), (Nat.le_of_ble_eq_true rfl)⟩) (vV (ci := 7) (q0 := 50) hK hP hD hN rfl gA_50) rfl rfl hl.1 rfl (lv_room (Nat.le_of_ble_eq_true rfl)) dX10_value_27 ⟨(Nat.le_of_ble_eq_true rfl), (Nat.le_of_ble_eq_true rfl)⟩) hS (fun q _ h => hF q h) hF (fun r4 u t H locs ht hvm hw hB _ _ hS => ?_)
    obtain rfl : r4 = q3.1 := hw
    replace hP : va_P (dC, dI) vwCl (wA a k q3.2) H := by rw [← ht]; exact hB.1
    replace hD := hD0 (q3.2)
    clear hB hF
    refine lv_iconst (v := 5) hx hb dX10_value_30 (by decide) ?_
    refine lv_icmp_ne (tgt := 38) hx hb dX10_value_31 (by decide) (fun hc => ?_) (fun hc => ?_)
    · replace h := iq hc h
      refine lv_aload_n hx hb dX10_value_38 rfl (lv_at hl 1 rfl) ?_
      refine va_get (D := (dC, dI)) (ci := 10) (C := RX10) (T := TX10) (N := 16) hx hb hts inlX10 hown hK hP 0 gA_0 rfl 9 (by decide) (hts (.fieldLink RX10 73 "ShapeReader" "shown" "LShapeReader$Tree;") mw_21_26) (fun _ h9 => h9) rfl dX10_value_39 ?_
      refine lv_iload_n hx hb dX10_value_42 rfl (lv_at hl 0 rfl) ?_
      obtain ⟨q5, hc, h⟩ := ib h
      have hF := va_frees hD hS hA
      refine va_calll (va_runV (As := [.int q1.1]) (rest := []) ⟨hx, hb, hml, hown, hts⟩ (s_X7_worthOf_50 hc) (cwV 1 hts (gV mw_26_5 mw_6_0 mw_6_1 mw_0_11 mw_52_4) rfl rfl rfl (by decide +kernel) ⟨(Nat.le_of_ble_eq_true rfl), (Nat.le_of_ble_eq_true rfl)⟩) (vV (ci := 7) (q0 := 50) hK hP hD hN rfl gA_50) rfl rfl hl.1 rfl (lv_room (Nat.le_of_ble_eq_true rfl)) dX10_value_43 ⟨(Nat.le_of_ble_eq_true rfl), (Nat.le_of_ble_eq_true rfl)⟩) hS (fun q _ h => hF q h) hF (fun r6 u t H locs ht hvm hw hB _ _ hS => ?_)
      obtain rfl : r6 = q5.1 := hw
      replace hP : va_P (dC, dI) vwCl (wA a k q5.2) H := by rw [← ht]; exact hB.1
      replace hD := hD0 (q5.2)
      clear hB hF
      refine vx_ret ?_
      refine W.widen (k := 1) (n := 6) (Nat.le_of_ble_eq_true rfl) (Nat.le_of_ble_eq_true rfl) ?_
      obtain rfl := Option.some.inj h
      exact W.lret hx hb hr (fun t ht hW => ⟨⟨_, (), rfl, rfl, ⟨by rw [ht]; exact hP, va_K.moved hW.alike hK, hD⟩⟩, hS.F ht⟩) hS.2.2 dX10_value_46
    · replace h := ip hc h
      refine lv_lconst (v := 0) hx hb dX10_value_34 (by decide) ?_
      refine lv_goto (tgt := 46) hx hb dX10_value_35 (by decide) ?_
      refine vx_ret ?_
      refine W.widen (k := 1) (n := 6) (Nat.le_of_ble_eq_true rfl) (Nat.le_of_ble_eq_true rfl) ?_
      obtain rfl := Option.some.inj h
      exact W.lret hx hb hr (fun t ht hW => ⟨⟨_, (), rfl, rfl, ⟨by rw [ht]; exact hP, va_K.moved hW.alike hK, hD⟩⟩, hS.F ht⟩) hS.2.2 dX10_value_46
  · replace h := ip hc h
    obtain rfl := Option.some.inj h
    exact vx_throw0 (A := A) (ik := 217) (ic := 219) (names := ["java/lang/RuntimeException", "java/lang/Exception"]) hx hb hst hown (by decide) (by decide) (hts (.classLink RX10 217 "java/util/NoSuchElementException") mw_24_17) (hts (.initialized "java/util/NoSuchElementException") mw_24_18) (vx_hat (L := px0) (fun w h => hts2 w (List.mem_append_right _ h)) pB_all (fun w h => va_Nw.use (pB_ot w h) (hV.1 w h))) px_ot hV.2.1 hV.2.2 hS (hl.1.trans hml.symm) dX10_value_14 dX10_value_17 dX10_value_18 dX10_value_21 (fun x h9 => (htab x h9).elim) (Nat.le_of_ble_eq_true rfl) (Nat.le_of_ble_eq_true rfl) (Nat.le_of_ble_eq_true rfl) (Nat.le_of_ble_eq_true rfl) hlocks (fun t hvm hz hk => ⟨(), rfl, ⟨rfl, fun i p hp => (hP i p hp).kept (hk p.1 (hP i p hp).lt), va_K.moved hvm hK, hD⟩, Nat.le_trans hS.1 hz, fun q h1 h2 => (hk q (Nat.lt_of_lt_of_le h1 hS.1)).trans (hS.2.1 q h1 h2)⟩) hS.2.2 (Nat.le_of_ble_eq_true rfl) (Nat.le_of_ble_eq_true rfl)

theorem s_X10_value {l : Launch} {dC : Nat → ClassId} {dI : Nat → Nat → Nat} {a : Nat → Nat} {k : Nat → ClassId} {sz : Nat} {p0 : Int32} {σ : ST} {q : Option Int64 × ST} (hst : l.stackTraces = false) (h : f_X10_value  p0 σ = some q) : vx_Met l yX10_value (.code yX10_value cX10_value 3 (some .long) :: pw2) ({ frames := 6, cells := 1, slots := 6, locals := 90 } : Room) (va_Pc [.ref (a 0), .int p0] (fun U => vPre dC dI (wA a k σ) (tA k) sz U ∧ vt (va_A (wA a k σ) sz) U U.heap)) (qAlx dC dI a k (va_A (wA a k σ) sz) q) (xAx dC dI a k (va_A (wA a k σ) sz) (q.1 = none) q.2) 1 6 (va_A (wA a k σ) sz) := mexA (fun A => qAlx dC dI a k A q) (fun A => xAx dC dI a k A (q.1 = none) q.2) (by decide) (Nat.le_of_ble_eq_true rfl) (fun _ _ _ _ _ _ _ _ hC hts2 hV htab => b_X10_value_e hC hst hts2 hV htab h)


theorem dL_byteAt_0 : decode cL_byteAt 0 = .ok (.aload_n 3, 1) := by decide +kernel
theorem dL_byteAt_1 : decode cL_byteAt 1 = .ok (.iconst 0, 1) := by decide +kernel
theorem dL_byteAt_2 : decode cL_byteAt 2 = .ok (.aload_n 0, 1) := by decide +kernel
theorem dL_byteAt_3 : decode cL_byteAt 3 = .ok (.iload_n 1, 1) := by decide +kernel
theorem dL_byteAt_4 : decode cL_byteAt 4 = .ok (.iload_n 2, 1) := by decide +kernel
theorem dL_byteAt_5 : decode cL_byteAt 5 = .ok (.invokevirtual 7, 3) := by decide +kernel
theorem dL_byteAt_8 : decode cL_byteAt 8 = .ok (.i2l, 1) := by decide +kernel
theorem dL_byteAt_9 : decode cL_byteAt 9 = .ok (.lastore, 1) := by decide +kernel
theorem dL_byteAt_10 : decode cL_byteAt 10 = .ok (.goto 7, 3) := by decide +kernel
theorem dL_byteAt_13 : decode cL_byteAt 13 = .ok (.astore 4, 2) := by decide +kernel
theorem dL_byteAt_15 : decode cL_byteAt 15 = .ok (.iconst 1, 1) := by decide +kernel
theorem dL_byteAt_16 : decode cL_byteAt 16 = .ok (.ireturn, 1) := by decide +kernel
theorem dL_byteAt_17 : decode cL_byteAt 17 = .ok (.iconst 0, 1) := by decide +kernel
theorem dL_byteAt_18 : decode cL_byteAt 18 = .ok (.ireturn, 1) := by decide +kernel
def f_L_byteAt (p0 : Int32) (p1 : Int32) (σ : ST) : Option (Int32 × ST) := (f_X10_byteAt p0 p1 σ).bind fun q => match q.1 with
  | none => some (1, q.2)
  | some r => some (0, stL q.2 95 (0 : Int32).toNatClampNeg r.toInt64)
set_option maxRecDepth 100000 in
set_option maxHeartbeats 4000000 in
theorem s_L_byteAt {l : Launch} (hst : l.stackTraces = false) {dC : Nat → ClassId} {dI : Nat → Nat → Nat} {a : Nat → Nat} {k : Nat → ClassId} {sz : Nat} {p0 : Int32} {p1 : Int32} {σ : ST} {q : Int32 × ST} (h : f_L_byteAt p0 p1 σ = some q) : vx_Met l yL_byteAt (.codeWith yL_byteAt cL_byteAt 5 (some .int) [(0, 10, 13, 13)] :: pw2) ({ frames := 7, cells := 1, slots := 6, locals := 112 } : Room) (va_Pc [.ref (a 0), .int p0, .int p1, .ref (a 95)] (fun U => vPre dC dI (wA a k σ) (tA k) sz U ∧ vt (va_A (wA a k σ) sz) U U.heap)) (qAi dC dI a k (va_A (wA a k σ) sz) q) (vx_X (fun _ : Unit => False) (fun _ _ _ => True) (va_A (wA a k σ) sz)) 1 6 (va_A (wA a k σ) sz) := by
  refine vx_ofWH (cc := cL_byteAt) (maxL := 5) (ret := (some .int)) (hh := [(0, 10, 13, 13)]) (by decide) rfl ?_
  intro p e s m args below meth c s₁ B hml hv
  obtain ⟨rfl, ⟨hsz, hP, hK, hD0, hN⟩, hV⟩ := hv
  have hx := B.exec
  have hb := B.bytes
  have hr := B.returns
  have hts0 := atoms_spec (ws := .codeWith yL_byteAt cL_byteAt 5 (some .int) [(0, 10, 13, 13)] :: pw2) B.pre
  have htab := vx_table (x := yL_byteAt) B (hts0 _ List.mem_cons_self)
  have hts2 : ∀ w ∈ pw2, w.before _ s = true := fun w h => hts0 w (List.mem_cons_of_mem _ h)
  have hts : ∀ w ∈ pw, w.before _ s = true := fun w h => hts2 w (pw_to2 h)
  have hown : s.vm.findClass RL = some m.cls := findClass_of_methodNamed B.named
  have hlocks := B.notSynchronized
  subst hsz
  have hD := hD0.self (sz := s.heap.size)
  generalize hAe : va_A (wA a k σ) s.heap.size = A at hD hV ⊢
  have hA : ∀ q : Nat, s.heap.size ≤ q → A q := fun q h => by rw [← hAe]; exact Or.inr h
  have hS : va_S A s.heap s.heap [] := va_S.rf
  have hD0' : ∀ σ1 : ST, va_D A (wA a k σ1) := fun σ1 => wA_D hD
  have hl := lv_entry ([.ref (a 0), .int p0, .int p1, .ref (a 95)]) (n := 5) (Nat.le_of_ble_eq_true rfl)
  rw [lg_entry_eq]
  generalize (lg_sl ([.ref (a 0), .int p0, .int p1, .ref (a 95)]) ++ List.replicate (5 - (lg_sl ([.ref (a 0), .int p0, .int p1, .ref (a 95)])).length) Slot.unset).toArray = ls at hl ⊢
  replace hl : lv_has ls 5 [(0, .ref (a 0)), (1, .int p0), (2, .int p1), (3, .ref (a 95))] := hl
  obtain ⟨q1, hc, h⟩ := ib h
  refine lv_aload_n hx hb dL_byteAt_0 rfl (lv_at hl 3 rfl) ?_
  refine lv_iconst (v := 0) hx hb dL_byteAt_1 (by decide) ?_
  refine lv_aload_n hx hb dL_byteAt_2 rfl (lv_at hl 0 rfl) ?_
  refine lv_iload_n hx hb dL_byteAt_3 rfl (lv_at hl 1 rfl) ?_
  refine lv_iload_n hx hb dL_byteAt_4 rfl (lv_at hl 2 rfl) ?_
  have hF := va_frees hD hS hA
  refine vx_calli (vx_runV (As := [.int p0, .int p1]) (rest := [.int 0, .ref (a 95)]) ⟨hx, hb, hml, hown, hts2⟩ (s_X10_byteAt hst hc) (cwV 2 hts2 (gV2 mw_40_29 mw_41_0 mw_41_1 mw_0_14 mw_53_3) rfl rfl rfl (by decide +kernel) ⟨(Nat.le_of_ble_eq_true rfl), (Nat.le_of_ble_eq_true rfl)⟩) (vVT (ci := 10) (q0 := 0) hK hP hD hN hV hS hF rfl gA_0) rfl rfl hl.1 rfl (lv_room (Nat.le_of_ble_eq_true rfl)) dL_byteAt_5 ⟨(Nat.le_of_ble_eq_true rfl), (Nat.le_of_ble_eq_true rfl)⟩) hS (fun q _ h => hF q h) hF (fun q _ h => hF q h) (fun E ce q9 u t H locs ht hvm hw hB _ _ hS h91 h92 h93 => ?_) (fun r u t H locs ht hvm hw hB _ _ hS => ?_)
  · obtain ⟨hE, hB⟩ := hB
    subst hE
    replace hP : va_P (dC, dI) vwCl (wA a k q1.2) H := by rw [← ht]; exact hB.1
    replace hD := hD0' q1.2
    rw [show q1.1 = none from hw] at h
    obtain rfl := Option.some.inj h
    refine vx_catch hown [] _ [] htab (fun z h => absurd h List.not_mem_nil) (by decide) (by decide) (hts2 _ (pw_to2 mw_46_4)) (va_Nw.use rfl (hV.1 _ (List.mem_of_getElem? (i := 3) rfl))) h91 h92 h93 ?_
    refine W.eq (g2 := F0 m 13 ls [.ref q9]) rfl ?_
    refine lv_astore (lv' := [(4, .ref q9), (0, .ref (a 0)), (1, .int p0), (2, .int p1), (3, .ref (a 95))]) hx hb dL_byteAt_13 hl (by decide) rfl (fun ls hl => ?_)
    refine lv_iconst (v := 1) hx hb dL_byteAt_15 (by decide) ?_
    refine vx_ret ?_
    exact W.iret hx hb hr (fun t ht hW => ⟨⟨_, (), rfl, rfl, ⟨by rw [ht]; exact hP, va_K.moved hW.alike hK, hD⟩⟩, hS.F ht⟩) hS.2.2 dL_byteAt_16
  · replace hP : va_P (dC, dI) vwCl (wA a k q1.2) H := by rw [← ht]; exact hB.1
    replace hD := hD0' q1.2
    rw [← show some r = q1.1 from hw] at h
    obtain rfl := Option.some.inj h
    refine lv_i2l (v := r.toInt64) hx hb dL_byteAt_8 rfl ?_
    refine va_last hx hb hK hP hD hS 95 80 gA_95 yA_95 (vp_in_iff.mpr (by decide)) dL_byteAt_9 (fun H locs hP hD hS => ?_)
    replace hP := uA_95 hP
    replace hD := hD0' (stL q1.2 95 (0 : Int32).toNatClampNeg r.toInt64)
    refine lv_goto (tgt := 17) hx hb dL_byteAt_10 (by decide) ?_
    refine lv_iconst (v := 0) hx hb dL_byteAt_17 (by decide) ?_
    refine vx_ret ?_
    exact W.iret hx hb hr (fun t ht hW => ⟨⟨_, (), rfl, rfl, ⟨by rw [ht]; exact hP, va_K.moved hW.alike hK, hD⟩⟩, hS.F ht⟩) hS.2.2 dL_byteAt_18


theorem dL_node_0 : decode cL_node 0 = .ok (.aload_n 3, 1) := by decide +kernel
theorem dL_node_1 : decode cL_node 1 = .ok (.iconst 0, 1) := by decide +kernel
theorem dL_node_2 : decode cL_node 2 = .ok (.aload_n 0, 1) := by decide +kernel
theorem dL_node_3 : decode cL_node 3 = .ok (.iload_n 1, 1) := by decide +kernel
theorem dL_node_4 : decode cL_node 4 = .ok (.iload_n 2, 1) := by decide +kernel
theorem dL_node_5 : decode cL_node 5 = .ok (.invokevirtual 15, 3) := by decide +kernel
theorem dL_node_8 : decode cL_node 8 = .ok (.i2l, 1) := by decide +kernel
theorem dL_node_9 : decode cL_node 9 = .ok (.lastore, 1) := by decide +kernel
theorem dL_node_10 : decode cL_node 10 = .ok (.goto 7, 3) := by decide +kernel
theorem dL_node_13 : decode cL_node 13 = .ok (.astore 4, 2) := by decide +kernel
theorem dL_node_15 : decode cL_node 15 = .ok (.iconst 1, 1) := by decide +kernel
theorem dL_node_16 : decode cL_node 16 = .ok (.ireturn, 1) := by decide +kernel
theorem dL_node_17 : decode cL_node 17 = .ok (.iconst 0, 1) := by decide +kernel
theorem dL_node_18 : decode cL_node 18 = .ok (.ireturn, 1) := by decide +kernel
def f_L_node (p0 : Int32) (p1 : Int32) (σ : ST) : Option (Int32 × ST) := (f_X10_node p0 p1 σ).bind fun q => match q.1 with
  | none => some (1, q.2)
  | some r => some (0, stL q.2 95 (0 : Int32).toNatClampNeg r.toInt64)
set_option maxRecDepth 100000 in
set_option maxHeartbeats 4000000 in
theorem s_L_node {l : Launch} (hst : l.stackTraces = false) {dC : Nat → ClassId} {dI : Nat → Nat → Nat} {a : Nat → Nat} {k : Nat → ClassId} {sz : Nat} {p0 : Int32} {p1 : Int32} {σ : ST} {q : Int32 × ST} (h : f_L_node p0 p1 σ = some q) : vx_Met l yL_node (.codeWith yL_node cL_node 5 (some .int) [(0, 10, 13, 13)] :: pw2) ({ frames := 7, cells := 1, slots := 6, locals := 113 } : Room) (va_Pc [.ref (a 0), .int p0, .int p1, .ref (a 95)] (fun U => vPre dC dI (wA a k σ) (tA k) sz U ∧ vt (va_A (wA a k σ) sz) U U.heap)) (qAi dC dI a k (va_A (wA a k σ) sz) q) (vx_X (fun _ : Unit => False) (fun _ _ _ => True) (va_A (wA a k σ) sz)) 1 6 (va_A (wA a k σ) sz) := by
  refine vx_ofWH (cc := cL_node) (maxL := 5) (ret := (some .int)) (hh := [(0, 10, 13, 13)]) (by decide) rfl ?_
  intro p e s m args below meth c s₁ B hml hv
  obtain ⟨rfl, ⟨hsz, hP, hK, hD0, hN⟩, hV⟩ := hv
  have hx := B.exec
  have hb := B.bytes
  have hr := B.returns
  have hts0 := atoms_spec (ws := .codeWith yL_node cL_node 5 (some .int) [(0, 10, 13, 13)] :: pw2) B.pre
  have htab := vx_table (x := yL_node) B (hts0 _ List.mem_cons_self)
  have hts2 : ∀ w ∈ pw2, w.before _ s = true := fun w h => hts0 w (List.mem_cons_of_mem _ h)
  have hts : ∀ w ∈ pw, w.before _ s = true := fun w h => hts2 w (pw_to2 h)
  have hown : s.vm.findClass RL = some m.cls := findClass_of_methodNamed B.named
  have hlocks := B.notSynchronized
  subst hsz
  have hD := hD0.self (sz := s.heap.size)
  generalize hAe : va_A (wA a k σ) s.heap.size = A at hD hV ⊢
  have hA : ∀ q : Nat, s.heap.size ≤ q → A q := fun q h => by rw [← hAe]; exact Or.inr h
  have hS : va_S A s.heap s.heap [] := va_S.rf
  have hD0' : ∀ σ1 : ST, va_D A (wA a k σ1) := fun σ1 => wA_D hD
  have hl := lv_entry ([.ref (a 0), .int p0, .int p1, .ref (a 95)]) (n := 5) (Nat.le_of_ble_eq_true rfl)
  rw [lg_entry_eq]
  generalize (lg_sl ([.ref (a 0), .int p0, .int p1, .ref (a 95)]) ++ List.replicate (5 - (lg_sl ([.ref (a 0), .int p0, .int p1, .ref (a 95)])).length) Slot.unset).toArray = ls at hl ⊢
  replace hl : lv_has ls 5 [(0, .ref (a 0)), (1, .int p0), (2, .int p1), (3, .ref (a 95))] := hl
  obtain ⟨q1, hc, h⟩ := ib h
  refine lv_aload_n hx hb dL_node_0 rfl (lv_at hl 3 rfl) ?_
  refine lv_iconst (v := 0) hx hb dL_node_1 (by decide) ?_
  refine lv_aload_n hx hb dL_node_2 rfl (lv_at hl 0 rfl) ?_
  refine lv_iload_n hx hb dL_node_3 rfl (lv_at hl 1 rfl) ?_
  refine lv_iload_n hx hb dL_node_4 rfl (lv_at hl 2 rfl) ?_
  have hF := va_frees hD hS hA
  refine vx_calli (vx_runV (As := [.int p0, .int p1]) (rest := [.int 0, .ref (a 95)]) ⟨hx, hb, hml, hown, hts2⟩ (s_X10_node hst hc) (cwV 2 hts2 (gV2 mw_41_2 mw_41_3 mw_41_4 mw_0_14 mw_53_13) rfl rfl rfl (by decide +kernel) ⟨(Nat.le_of_ble_eq_true rfl), (Nat.le_of_ble_eq_true rfl)⟩) (vVT (ci := 10) (q0 := 0) hK hP hD hN hV hS hF rfl gA_0) rfl rfl hl.1 rfl (lv_room (Nat.le_of_ble_eq_true rfl)) dL_node_5 ⟨(Nat.le_of_ble_eq_true rfl), (Nat.le_of_ble_eq_true rfl)⟩) hS (fun q _ h => hF q h) hF (fun q _ h => hF q h) (fun E ce q9 u t H locs ht hvm hw hB _ _ hS h91 h92 h93 => ?_) (fun r u t H locs ht hvm hw hB _ _ hS => ?_)
  · obtain ⟨hE, hB⟩ := hB
    subst hE
    replace hP : va_P (dC, dI) vwCl (wA a k q1.2) H := by rw [← ht]; exact hB.1
    replace hD := hD0' q1.2
    rw [show q1.1 = none from hw] at h
    obtain rfl := Option.some.inj h
    refine vx_catch hown [] _ [] htab (fun z h => absurd h List.not_mem_nil) (by decide) (by decide) (hts2 _ (pw_to2 mw_46_4)) (va_Nw.use rfl (hV.1 _ (List.mem_of_getElem? (i := 3) rfl))) h91 h92 h93 ?_
    refine W.eq (g2 := F0 m 13 ls [.ref q9]) rfl ?_
    refine lv_astore (lv' := [(4, .ref q9), (0, .ref (a 0)), (1, .int p0), (2, .int p1), (3, .ref (a 95))]) hx hb dL_node_13 hl (by decide) rfl (fun ls hl => ?_)
    refine lv_iconst (v := 1) hx hb dL_node_15 (by decide) ?_
    refine vx_ret ?_
    exact W.iret hx hb hr (fun t ht hW => ⟨⟨_, (), rfl, rfl, ⟨by rw [ht]; exact hP, va_K.moved hW.alike hK, hD⟩⟩, hS.F ht⟩) hS.2.2 dL_node_16
  · replace hP : va_P (dC, dI) vwCl (wA a k q1.2) H := by rw [← ht]; exact hB.1
    replace hD := hD0' q1.2
    rw [← show some r = q1.1 from hw] at h
    obtain rfl := Option.some.inj h
    refine lv_i2l (v := r.toInt64) hx hb dL_node_8 rfl ?_
    refine va_last hx hb hK hP hD hS 95 80 gA_95 yA_95 (vp_in_iff.mpr (by decide)) dL_node_9 (fun H locs hP hD hS => ?_)
    replace hP := uA_95 hP
    replace hD := hD0' (stL q1.2 95 (0 : Int32).toNatClampNeg r.toInt64)
    refine lv_goto (tgt := 17) hx hb dL_node_10 (by decide) ?_
    refine lv_iconst (v := 0) hx hb dL_node_17 (by decide) ?_
    refine vx_ret ?_
    exact W.iret hx hb hr (fun t ht hW => ⟨⟨_, (), rfl, rfl, ⟨by rw [ht]; exact hP, va_K.moved hW.alike hK, hD⟩⟩, hS.F ht⟩) hS.2.2 dL_node_18


theorem dL_letter_0 : decode cL_letter 0 = .ok (.aload_n 3, 1) := by decide +kernel
theorem dL_letter_1 : decode cL_letter 1 = .ok (.iconst 0, 1) := by decide +kernel
theorem dL_letter_2 : decode cL_letter 2 = .ok (.aload_n 0, 1) := by decide +kernel
theorem dL_letter_3 : decode cL_letter 3 = .ok (.iload_n 1, 1) := by decide +kernel
theorem dL_letter_4 : decode cL_letter 4 = .ok (.iload_n 2, 1) := by decide +kernel
theorem dL_letter_5 : decode cL_letter 5 = .ok (.invokevirtual 22, 3) := by decide +kernel
theorem dL_letter_8 : decode cL_letter 8 = .ok (.i2l, 1) := by decide +kernel
theorem dL_letter_9 : decode cL_letter 9 = .ok (.lastore, 1) := by decide +kernel
theorem dL_letter_10 : decode cL_letter 10 = .ok (.goto 7, 3) := by decide +kernel
theorem dL_letter_13 : decode cL_letter 13 = .ok (.astore 4, 2) := by decide +kernel
theorem dL_letter_15 : decode cL_letter 15 = .ok (.iconst 1, 1) := by decide +kernel
theorem dL_letter_16 : decode cL_letter 16 = .ok (.ireturn, 1) := by decide +kernel
theorem dL_letter_17 : decode cL_letter 17 = .ok (.iconst 0, 1) := by decide +kernel
theorem dL_letter_18 : decode cL_letter 18 = .ok (.ireturn, 1) := by decide +kernel
def f_L_letter (p0 : Int32) (p1 : Int32) (σ : ST) : Option (Int32 × ST) := (f_X10_letter p0 p1 σ).bind fun q => match q.1 with
  | none => some (1, q.2)
  | some r => some (0, stL q.2 95 (0 : Int32).toNatClampNeg r.toInt64)
set_option maxRecDepth 100000 in
set_option maxHeartbeats 4000000 in
theorem s_L_letter {l : Launch} (hst : l.stackTraces = false) {dC : Nat → ClassId} {dI : Nat → Nat → Nat} {a : Nat → Nat} {k : Nat → ClassId} {sz : Nat} {p0 : Int32} {p1 : Int32} {σ : ST} {q : Int32 × ST} (h : f_L_letter p0 p1 σ = some q) : vx_Met l yL_letter (.codeWith yL_letter cL_letter 5 (some .int) [(0, 10, 13, 13)] :: pw2) ({ frames := 7, cells := 1, slots := 6, locals := 113 } : Room) (va_Pc [.ref (a 0), .int p0, .int p1, .ref (a 95)] (fun U => vPre dC dI (wA a k σ) (tA k) sz U ∧ vt (va_A (wA a k σ) sz) U U.heap)) (qAi dC dI a k (va_A (wA a k σ) sz) q) (vx_X (fun _ : Unit => False) (fun _ _ _ => True) (va_A (wA a k σ) sz)) 1 6 (va_A (wA a k σ) sz) := by
  refine vx_ofWH (cc := cL_letter) (maxL := 5) (ret := (some .int)) (hh := [(0, 10, 13, 13)]) (by decide) rfl ?_
  intro p e s m args below meth c s₁ B hml hv
  obtain ⟨rfl, ⟨hsz, hP, hK, hD0, hN⟩, hV⟩ := hv
  have hx := B.exec
  have hb := B.bytes
  have hr := B.returns
  have hts0 := atoms_spec (ws := .codeWith yL_letter cL_letter 5 (some .int) [(0, 10, 13, 13)] :: pw2) B.pre
  have htab := vx_table (x := yL_letter) B (hts0 _ List.mem_cons_self)
  have hts2 : ∀ w ∈ pw2, w.before _ s = true := fun w h => hts0 w (List.mem_cons_of_mem _ h)
  have hts : ∀ w ∈ pw, w.before _ s = true := fun w h => hts2 w (pw_to2 h)
  have hown : s.vm.findClass RL = some m.cls := findClass_of_methodNamed B.named
  have hlocks := B.notSynchronized
  subst hsz
  have hD := hD0.self (sz := s.heap.size)
  generalize hAe : va_A (wA a k σ) s.heap.size = A at hD hV ⊢
  have hA : ∀ q : Nat, s.heap.size ≤ q → A q := fun q h => by rw [← hAe]; exact Or.inr h
  have hS : va_S A s.heap s.heap [] := va_S.rf
  have hD0' : ∀ σ1 : ST, va_D A (wA a k σ1) := fun σ1 => wA_D hD
  have hl := lv_entry ([.ref (a 0), .int p0, .int p1, .ref (a 95)]) (n := 5) (Nat.le_of_ble_eq_true rfl)
  rw [lg_entry_eq]
  generalize (lg_sl ([.ref (a 0), .int p0, .int p1, .ref (a 95)]) ++ List.replicate (5 - (lg_sl ([.ref (a 0), .int p0, .int p1, .ref (a 95)])).length) Slot.unset).toArray = ls at hl ⊢
  replace hl : lv_has ls 5 [(0, .ref (a 0)), (1, .int p0), (2, .int p1), (3, .ref (a 95))] := hl
  obtain ⟨q1, hc, h⟩ := ib h
  refine lv_aload_n hx hb dL_letter_0 rfl (lv_at hl 3 rfl) ?_
  refine lv_iconst (v := 0) hx hb dL_letter_1 (by decide) ?_
  refine lv_aload_n hx hb dL_letter_2 rfl (lv_at hl 0 rfl) ?_
  refine lv_iload_n hx hb dL_letter_3 rfl (lv_at hl 1 rfl) ?_
  refine lv_iload_n hx hb dL_letter_4 rfl (lv_at hl 2 rfl) ?_
  have hF := va_frees hD hS hA
  refine vx_calli (vx_runV (As := [.int p0, .int p1]) (rest := [.int 0, .ref (a 95)]) ⟨hx, hb, hml, hown, hts2⟩ (s_X10_letter hst hc) (cwV 2 hts2 (gV2 mw_41_8 mw_41_9 mw_41_10 mw_0_14 mw_53_15) rfl rfl rfl (by decide +kernel) ⟨(Nat.le_of_ble_eq_true rfl), (Nat.le_of_ble_eq_true rfl)⟩) (vVT (ci := 10) (q0 := 0) hK hP hD hN hV hS hF rfl gA_0) rfl rfl hl.1 rfl (lv_room (Nat.le_of_ble_eq_true rfl)) dL_letter_5 ⟨(Nat.le_of_ble_eq_true rfl), (Nat.le_of_ble_eq_true rfl)⟩) hS (fun q _ h => hF q h) hF (fun q _ h => hF q h) (fun E ce q9 u t H locs ht hvm hw hB _ _ hS h91 h92 h93 => ?_) (fun r u t H locs ht hvm hw hB _ _ hS => ?_)
  · obtain ⟨hE, hB⟩ := hB
    subst hE
    replace hP : va_P (dC, dI) vwCl (wA a k q1.2) H := by rw [← ht]; exact hB.1
    replace hD := hD0' q1.2
    rw [show q1.1 = none from hw] at h
    obtain rfl := Option.some.inj h
    refine vx_catch hown [] _ [] htab (fun z h => absurd h List.not_mem_nil) (by decide) (by decide) (hts2 _ (pw_to2 mw_46_4)) (va_Nw.use rfl (hV.1 _ (List.mem_of_getElem? (i := 3) rfl))) h91 h92 h93 ?_
    refine W.eq (g2 := F0 m 13 ls [.ref q9]) rfl ?_
    refine lv_astore (lv' := [(4, .ref q9), (0, .ref (a 0)), (1, .int p0), (2, .int p1), (3, .ref (a 95))]) hx hb dL_letter_13 hl (by decide) rfl (fun ls hl => ?_)
    refine lv_iconst (v := 1) hx hb dL_letter_15 (by decide) ?_
    refine vx_ret ?_
    exact W.iret hx hb hr (fun t ht hW => ⟨⟨_, (), rfl, rfl, ⟨by rw [ht]; exact hP, va_K.moved hW.alike hK, hD⟩⟩, hS.F ht⟩) hS.2.2 dL_letter_16
  · replace hP : va_P (dC, dI) vwCl (wA a k q1.2) H := by rw [← ht]; exact hB.1
    replace hD := hD0' q1.2
    rw [← show some r = q1.1 from hw] at h
    obtain rfl := Option.some.inj h
    refine lv_i2l (v := r.toInt64) hx hb dL_letter_8 rfl ?_
    refine va_last hx hb hK hP hD hS 95 80 gA_95 yA_95 (vp_in_iff.mpr (by decide)) dL_letter_9 (fun H locs hP hD hS => ?_)
    replace hP := uA_95 hP
    replace hD := hD0' (stL q1.2 95 (0 : Int32).toNatClampNeg r.toInt64)
    refine lv_goto (tgt := 17) hx hb dL_letter_10 (by decide) ?_
    refine lv_iconst (v := 0) hx hb dL_letter_17 (by decide) ?_
    refine vx_ret ?_
    exact W.iret hx hb hr (fun t ht hW => ⟨⟨_, (), rfl, rfl, ⟨by rw [ht]; exact hP, va_K.moved hW.alike hK, hD⟩⟩, hS.F ht⟩) hS.2.2 dL_letter_18


theorem dL_value_0 : decode cL_value 0 = .ok (.aload_n 2, 1) := by decide +kernel
theorem dL_value_1 : decode cL_value 1 = .ok (.iconst 0, 1) := by decide +kernel
theorem dL_value_2 : decode cL_value 2 = .ok (.aload_n 0, 1) := by decide +kernel
theorem dL_value_3 : decode cL_value 3 = .ok (.iload_n 1, 1) := by decide +kernel
theorem dL_value_4 : decode cL_value 4 = .ok (.invokevirtual 18, 3) := by decide +kernel
theorem dL_value_7 : decode cL_value 7 = .ok (.lastore, 1) := by decide +kernel
theorem dL_value_8 : decode cL_value 8 = .ok (.goto 6, 3) := by decide +kernel
theorem dL_value_11 : decode cL_value 11 = .ok (.astore_n 3, 1) := by decide +kernel
theorem dL_value_12 : decode cL_value 12 = .ok (.iconst 1, 1) := by decide +kernel
theorem dL_value_13 : decode cL_value 13 = .ok (.ireturn, 1) := by decide +kernel
theorem dL_value_14 : decode cL_value 14 = .ok (.iconst 0, 1) := by decide +kernel
theorem dL_value_15 : decode cL_value 15 = .ok (.ireturn, 1) := by decide +kernel
def f_L_value (p0 : Int32) (σ : ST) : Option (Int32 × ST) := (f_X10_value p0 σ).bind fun q => match q.1 with
  | none => some (1, q.2)
  | some r => some (0, stL q.2 95 (0 : Int32).toNatClampNeg r)
set_option maxRecDepth 100000 in
set_option maxHeartbeats 4000000 in
theorem s_L_value {l : Launch} (hst : l.stackTraces = false) {dC : Nat → ClassId} {dI : Nat → Nat → Nat} {a : Nat → Nat} {k : Nat → ClassId} {sz : Nat} {p0 : Int32} {σ : ST} {q : Int32 × ST} (h : f_L_value p0 σ = some q) : vx_Met l yL_value (.codeWith yL_value cL_value 4 (some .int) [(0, 8, 11, 13)] :: pw2) ({ frames := 7, cells := 1, slots := 6, locals := 112 } : Room) (va_Pc [.ref (a 0), .int p0, .ref (a 95)] (fun U => vPre dC dI (wA a k σ) (tA k) sz U ∧ vt (va_A (wA a k σ) sz) U U.heap)) (qAi dC dI a k (va_A (wA a k σ) sz) q) (vx_X (fun _ : Unit => False) (fun _ _ _ => True) (va_A (wA a k σ) sz)) 1 6 (va_A (wA a k σ) sz) := by
  refine vx_ofWH (cc := cL_value) (maxL := 4) (ret := (some .int)) (hh := [(0, 8, 11, 13)]) (by decide) rfl ?_
  intro p e s m args below meth c s₁ B hml hv
  obtain ⟨rfl, ⟨hsz, hP, hK, hD0, hN⟩, hV⟩ := hv
  have hx := B.exec
  have hb := B.bytes
  have hr := B.returns
  have hts0 := atoms_spec (ws := .codeWith yL_value cL_value 4 (some .int) [(0, 8, 11, 13)] :: pw2) B.pre
  have htab := vx_table (x := yL_value) B (hts0 _ List.mem_cons_self)
  have hts2 : ∀ w ∈ pw2, w.before _ s = true := fun w h => hts0 w (List.mem_cons_of_mem _ h)
  have hts : ∀ w ∈ pw, w.before _ s = true := fun w h => hts2 w (pw_to2 h)
  have hown : s.vm.findClass RL = some m.cls := findClass_of_methodNamed B.named
  have hlocks := B.notSynchronized
  subst hsz
  have hD := hD0.self (sz := s.heap.size)
  generalize hAe : va_A (wA a k σ) s.heap.size = A at hD hV ⊢
  have hA : ∀ q : Nat, s.heap.size ≤ q → A q := fun q h => by rw [← hAe]; exact Or.inr h
  have hS : va_S A s.heap s.heap [] := va_S.rf
  have hD0' : ∀ σ1 : ST, va_D A (wA a k σ1) := fun σ1 => wA_D hD
  have hl := lv_entry ([.ref (a 0), .int p0, .ref (a 95)]) (n := 4) (Nat.le_of_ble_eq_true rfl)
  rw [lg_entry_eq]
  generalize (lg_sl ([.ref (a 0), .int p0, .ref (a 95)]) ++ List.replicate (4 - (lg_sl ([.ref (a 0), .int p0, .ref (a 95)])).length) Slot.unset).toArray = ls at hl ⊢
  replace hl : lv_has ls 4 [(0, .ref (a 0)), (1, .int p0), (2, .ref (a 95))] := hl
  obtain ⟨q1, hc, h⟩ := ib h
  refine lv_aload_n hx hb dL_value_0 rfl (lv_at hl 2 rfl) ?_
  refine lv_iconst (v := 0) hx hb dL_value_1 (by decide) ?_
  refine lv_aload_n hx hb dL_value_2 rfl (lv_at hl 0 rfl) ?_
  refine lv_iload_n hx hb dL_value_3 rfl (lv_at hl 1 rfl) ?_
  have hF := va_frees hD hS hA
  refine vx_calll (vx_runV (As := [.int p0]) (rest := [.int 0, .ref (a 95)]) ⟨hx, hb, hml, hown, hts2⟩ (s_X10_value hst hc) (cwV 1 hts2 (gV2 mw_41_5 mw_41_6 mw_41_7 mw_0_14 mw_53_14) rfl rfl rfl (by decide +kernel) ⟨(Nat.le_of_ble_eq_true rfl), (Nat.le_of_ble_eq_true rfl)⟩) (vVT (ci := 10) (q0 := 0) hK hP hD hN hV hS hF rfl gA_0) rfl rfl hl.1 rfl (lv_room (Nat.le_of_ble_eq_true rfl)) dL_value_4 ⟨(Nat.le_of_ble_eq_true rfl), (Nat.le_of_ble_eq_true rfl)⟩) hS (fun q _ h => hF q h) hF (fun q _ h => hF q h) (fun E ce q9 u t H locs ht hvm hw hB _ _ hS h91 h92 h93 => ?_) (fun r u t H locs ht hvm hw hB _ _ hS => ?_)
  · obtain ⟨hE, hB⟩ := hB
    subst hE
    replace hP : va_P (dC, dI) vwCl (wA a k q1.2) H := by rw [← ht]; exact hB.1
    replace hD := hD0' q1.2
    rw [show q1.1 = none from hw] at h
    obtain rfl := Option.some.inj h
    refine vx_catch hown [] _ [] htab (fun z h => absurd h List.not_mem_nil) (by decide) (by decide) (hts2 _ (pw_to2 mw_46_4)) (va_Nw.use rfl (hV.1 _ (List.mem_of_getElem? (i := 3) rfl))) h91 h92 h93 ?_
    refine W.eq (g2 := F0 m 11 ls [.ref q9]) rfl ?_
    refine lv_astore_n (lv' := [(3, .ref q9), (0, .ref (a 0)), (1, .int p0), (2, .ref (a 95))]) hx hb dL_value_11 rfl hl (by decide) rfl (fun ls hl => ?_)
    refine lv_iconst (v := 1) hx hb dL_value_12 (by decide) ?_
    refine vx_ret ?_
    exact W.iret hx hb hr (fun t ht hW => ⟨⟨_, (), rfl, rfl, ⟨by rw [ht]; exact hP, va_K.moved hW.alike hK, hD⟩⟩, hS.F ht⟩) hS.2.2 dL_value_13
  · replace hP : va_P (dC, dI) vwCl (wA a k q1.2) H := by rw [← ht]; exact hB.1
    replace hD := hD0' q1.2
    rw [← show some r = q1.1 from hw] at h
    obtain rfl := Option.some.inj h
    refine va_last hx hb hK hP hD hS 95 80 gA_95 yA_95 (vp_in_iff.mpr (by decide)) dL_value_7 (fun H locs hP hD hS => ?_)
    replace hP := uA_95 hP
    replace hD := hD0' (stL q1.2 95 (0 : Int32).toNatClampNeg r)
    refine lv_goto (tgt := 14) hx hb dL_value_8 (by decide) ?_
    refine lv_iconst (v := 0) hx hb dL_value_14 (by decide) ?_
    refine vx_ret ?_
    exact W.iret hx hb hr (fun t ht hW => ⟨⟨_, (), rfl, rfl, ⟨by rw [ht]; exact hP, va_K.moved hW.alike hK, hD⟩⟩, hS.F ht⟩) hS.2.2 dL_value_15

