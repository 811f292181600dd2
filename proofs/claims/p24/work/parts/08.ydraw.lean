/-! longBitsToDouble of a signalling NaN draws whether it stays one -/
theorem l2d_sig {E : CtlPost} {e : Env} {d : Bool} {acts : List Action} {s : State} {Q : Option Value → Pre} (v : Int64) (hv : (v.toUInt64 &&& 0x7fffffffffffffff > 0x7ff0000000000000 && v.toUInt64 &&& 0x0008000000000000 == 0) = true)
    (hq : ∀ d' acts', Q (some (.double (if e.choices (.named "NaN.copy") (s.drawn.count (.named "NaN.copy")) % 2 == 0 then v.toUInt64 else v.toUInt64 ||| 0x0008000000000000))) d' acts' (s.draw (.named "NaN.copy"))) :
    wp (Native.java_lang_Float.bits.rowLongBitsToDouble.sem #[.long v]) Q E e d acts s := by
  rw [Native.java_lang_Float.bits.longBitsToDouble_on]
  simp only [hv, if_true, wp_bind', W.choose, W.mark, wp_pure']
  exact hq _ _
theorem Steps_l2d_sig {e : Env} {below : List Frame} {s target : State} {g : JFrame} {c : Code} {m : MethodId} {meth : Method} {k : Class} {ig : Instr} {len : Nat} (p : Program) (h : At s g.method c below) (acts : List Action)
    (N : NativeOf s.vm m k meth "java/lang/Double" "longBitsToDouble" "(J)D" true [.long]) (v : Int64)
    (hroom : e.platform.stackFull (((s.setTop g).threads[(s.setTop g).cur]?).getD { frames := [] }) (s.setTop g).frames (nativeFrameWords "java/lang/Double" "longBitsToDouble" 2) = false)
    (hv : (v.toUInt64 &&& 0x7fffffffffffffff > 0x7ff0000000000000 && v.toUInt64 &&& 0x0008000000000000 == 0) = true)
    (hdg : decode c.code g.pc = .ok (ig, len))
    (hrest : Steps p.tables e below ((s.draw (.named "NaN.copy")).setTop { g with pc := g.pc + len, stack := .double (if e.choices (.named "NaN.copy") (s.drawn.count (.named "NaN.copy")) % 2 == 0 then v.toUInt64 else v.toUInt64 ||| 0x0008000000000000) :: g.stack }) target) :
    Steps p.tables e below (doInvoke e (s.setTop g) acts m #[.long v]).1 target := by
  have hseen : seenByNative meth #[.long v] = #[.long v] := by simp [seenByNative, N.static, N.sig, narrow]
  refine Steps.nativeEnds (row := Native.java_lang_Float.bits.rowLongBitsToDouble) (v := some (.double (if e.choices (.named "NaN.copy") (s.drawn.count (.named "NaN.copy")) % 2 == 0 then v.toUInt64 else v.toUInt64 ||| 0x0008000000000000))) (T := fun st => st.draw (.named "NaN.copy")) h acts N.cls N.meth N.boot N.native N.noCode N.noLock
    (by rw [N.className, N.name, N.desc]; exact longBitsToDouble_row p) (by rw [N.className, N.name]; exact hroom) (fun _ => rfl) rfl (fun _ => h.code) ?_ hdg hrest
  intro Q hq
  rw [hseen] at hq ⊢
  exact l2d_sig v hv (fun d' acts' => hq d' acts')
theorem l2d_any0 {p : Program} {l : Launch} {e : Env} {R : Room} {s : State} {m : MethodId} {args : Array Value} {below : List Frame} {meth : Method} {c : Code} {locs : List Loc} {cells slots : Nat} {T : State} (X : Stand p l e R s m args below meth c T locs cells slots) (hexec : p.tables.exec = Jvm.exec) {own : String} {index : Nat} (hown : s.vm.findClass own = some m.cls) (hlink : (Cond.methodLink own index ⟨"java/lang/Double", "longBitsToDouble", "(J)D"⟩).before args s = true) (hnat : (Cond.native ⟨"java/lang/Double", "longBitsToDouble", "(J)D"⟩).before args s = true) (hstat : (Cond.static ⟨"java/lang/Double", "longBitsToDouble", "(J)D"⟩).before args s = true) (hinit : (Cond.initialized "java/lang/Double").before args s = true)
    {g : JFrame} (hg : g.method = m) (hsize : g.locals.size = c.maxLocals) {rest : List Value} {b : Int64} (hv : (b.toUInt64 &&& 0x7fffffffffffffff > 0x7ff0000000000000 && b.toUInt64 &&& 0x0008000000000000 == 0) = true) (hstack : g.stack = .long b :: rest) (hdg : decode c.code g.pc = .ok (.invokestatic index, 3)) (hframes : 1 ≤ R.frames) (hlocals : 2 * g.monitorRoom + (rest.map fun v => v.category).sum + (nativeFrameWords "java/lang/Double" "longBitsToDouble" 2 + 11) ≤ R.locals) :
    ∃ (r : UInt64) (vm' : Vm), (r = b.toUInt64 ∨ r = b.toUInt64 ||| 0x0008000000000000) ∧ Stand p l e R (s.setDrawn (T.drawn.next (.named "NaN.copy"))) m args below meth c ((T.setVm vm').setDrawn (T.drawn.next (.named "NaN.copy"))) locs cells slots ∧ ∀ target, Steps p.tables e below (((T.setVm vm').setDrawn (T.drawn.next (.named "NaN.copy"))).setTop { g with pc := g.pc + 3, stack := .double r :: rest }) target → Steps p.tables e below (T.setTop g) target := by
  obtain ⟨r, kS, methS, hnS, hmS, hkS, N⟩ := NativeOf.of_static hnat hstat (ps := [.long]) (ret := some .double) (by decide +kernel)
  have hinitS : kS.init = .initialized := Cond.initialized_spec (findClass_of_methodNamed hnS) hkS hinit
  obtain ⟨vm', X', step⟩ := X.invokestatic hexec hown hlink hnS hmS N.static hkS hinitS (by decide) hg (argsL := [.long b]) (rest := rest) (by rw [N.sig]; rfl) hstack hdg
  refine ⟨(if e.choices (.named "NaN.copy") (T.drawn.count (.named "NaN.copy")) % 2 == 0 then b.toUInt64 else b.toUInt64 ||| 0x0008000000000000), vm', ?_, X'.drew _, fun target hrest => step target fun acts => ?_⟩
  · split
    · exact Or.inl rfl
    · exact Or.inr rfl
  subst hg
  obtain ⟨kS', N'⟩ := N.alike X'.warmed.alike
  exact Steps_l2d_sig (g := { g with stack := rest }) (ig := .invokestatic index) (len := 3) p X'.here acts N' b (X'.notFull (g := { g with stack := rest }) hsize (vars := nativeFrameWords "java/lang/Double" "longBitsToDouble" 2) hframes hlocals) hv hdg hrest
theorem lv_l2d_any {cs : List Choice} {p : Program} {l : Launch} {e : Env} {R : Room} {s : State} {m : MethodId} {args : Array Value} {below : List Frame} {meth : Method} {c : Code} {H : Heap} {locs : List Loc} {cells slots : Nat} {Q : State → Prop} {cc : ByteArray} {pc : Nat} {ls : Array Slot} {rest : List Value} {d0 : Drawn} (hd0 : s.drawn.sameBut d0 cs) (hn : Choice.named "NaN.copy" ∈ cs) (hexec : p.tables.exec = Jvm.exec) (hb : c.code = cc) (hml : c.maxLocals = ls.size) {own : String} {index : Nat} (hown : s.vm.findClass own = some m.cls) (hlink : (Cond.methodLink own index ⟨"java/lang/Double", "longBitsToDouble", "(J)D"⟩).before args (s.setDrawn d0) = true) (hnat : (Cond.native ⟨"java/lang/Double", "longBitsToDouble", "(J)D"⟩).before args (s.setDrawn d0) = true) (hstat : (Cond.static ⟨"java/lang/Double", "longBitsToDouble", "(J)D"⟩).before args (s.setDrawn d0) = true) (hinit : (Cond.initialized "java/lang/Double").before args (s.setDrawn d0) = true) {b : Int64}
    (hframes : 1 ≤ R.frames) (hlocals : (rest.map fun v => v.category).sum + 15 ≤ R.locals) (hdg : decode cc pc = .ok (.invokestatic index, 3))
    (k : ∀ (r : UInt64) (d' : Drawn), (r = b.toUInt64 ∨ vn_snl2d b = true ∧ r = b.toUInt64 ||| 0x0008000000000000) → s.drawn.sameBut d' cs → W p l e R (s.setDrawn d') m args below meth c H locs cells slots Q (F0 m (pc + 3) ls (.double r :: rest))) : W p l e R (s.setDrawn d0) m args below meth c H locs cells slots Q (F0 m pc ls (.long b :: rest)) := by
  cases hs : vn_snl2d b with
  | false => exact vn_l2d hexec hb hml (s := s.setDrawn d0) hown hlink hnat hstat hinit hs hframes hlocals hdg (k _ d0 (Or.inl rfl) hd0)
  | true =>
    intro T hT X
    obtain ⟨r, vm', hr, X', st⟩ := l2d_any0 (s := s.setDrawn d0) X hexec hown hlink hnat hstat hinit (b := b) (hv := hs) (g := F0 m pc ls (.long b :: rest)) rfl (by rw [hml]) rfl (by rw [hb]; exact hdg) hframes (by show 2 * 0 + _ + _ ≤ _; have hw : nativeFrameWords "java/lang/Double" "longBitsToDouble" 2 = 4 := (by decide); omega)
    have hd : T.drawn = d0 := X.drawn_eq
    have hd1 : s.drawn.sameBut (T.drawn.next (.named "NaN.copy")) cs := by
      rw [hd]
      exact Drawn.sameBut.trans hd0 (Drawn.sameBut.mono (Drawn.next_named d0 "NaN.copy") (fun c hc => by
        simp only [List.mem_cons, List.not_mem_nil, or_false] at hc
        rw [hc]; exact hn))
    obtain ⟨t, a1, b1⟩ := k r _ (hr.elim Or.inl (fun h => Or.inr ⟨hs, h⟩)) hd1 ((T.setVm vm').setDrawn _) hT X'
    exact ⟨t, st t a1, b1⟩
