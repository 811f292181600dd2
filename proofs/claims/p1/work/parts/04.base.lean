/-! what the contracts are said in: a start over a list of cells, an end over a list of cells -/
abbrev vPre (dC : Nat → ClassId) (dI : Nat → Nat → Nat) (ws : va_W) (tys : List (ClassId × FieldType)) (sz : Nat) : State → Prop := fun U => U.heap.size = sz ∧ va_P (dC, dI) vwCl ws U.heap ∧ va_K (dC, dI) vwCl tys U ∧ va_D (fun _ => True) ws
abbrev vPst (dC : Nat → ClassId) (dI : Nat → Nat → Nat) (A : Nat → Prop) (ws : va_W) (tys : List (ClassId × FieldType)) (t : State) : Prop := va_P (dC, dI) vwCl ws t.heap ∧ va_K (dC, dI) vwCl tys t ∧ va_D A ws
theorem vPre_call {dC : Nat → ClassId} {dI : Nat → Nat → Nat} {ws : va_W} {tys : List (ClassId × FieldType)} {sz : Nat} {a : Array Value} {U : State} {g : JFrame} {mk : MethodId} (q : vPre dC dI ws tys sz U) : vPre dC dI ws tys sz (U.calling g mk a) := by
  obtain ⟨q1, qP, qK, qD⟩ := q
  exact ⟨q1, qP, va_K.moved (u := U) (U := U.calling g mk a) (Vm.Alike.refl U.vm) qK, qD⟩
theorem vPre_at {dC : Nat → ClassId} {dI : Nat → Nat → Nat} {s : State} {H : Heap} {A : Nat → Prop} {ws : va_W} {tys : List (ClassId × FieldType)} (hKc : va_K (dC, dI) vwCl tys s) (hPc : va_P (dC, dI) vwCl ws H) (hDc : va_D A ws) {U : State} (hU : U.heap = H) (hW : s.WarmedH U.vm) : vPre dC dI ws tys H.size U :=
  ⟨by rw [hU], by rw [hU]; exact hPc, va_K.moved hW.alike hKc, hDc.weaken (fun _ _ _ _ => trivial)⟩
theorem vBlind {dC : Nat → ClassId} {dI : Nat → Nat → Nat} {ws : va_W} {tys : List (ClassId × FieldType)} {sz : Nat} {av : List Value} : FrameBlind (va_Pc av (vPre dC dI ws tys sz)) := fun _ _ _ _ q => ⟨q.1, vPre_call q.2⟩
theorem vS {dC : Nat → ClassId} {dI : Nat → Nat → Nat} {s : State} {H : Heap} {A : Nat → Prop} {ws : va_W} {tys : List (ClassId × FieldType)} {As : List Value} (hKc : va_K (dC, dI) vwCl tys s) (hPc : va_P (dC, dI) vwCl ws H) (hDc : va_D A ws) : PreS s H (va_Pc As (vPre dC dI ws tys H.size)) As :=
  ⟨vBlind, fun _ hU hW => ⟨rfl, vPre_at hKc hPc hDc hU hW⟩⟩
theorem vV {dC : Nat → ClassId} {dI : Nat → Nat → Nat} {s : State} {H : Heap} {A : Nat → Prop} {ws : va_W} {tys : List (ClassId × FieldType)} {As : List Value} {ci q0 b N : Nat} {C : String} {T : u_T} {fs : List Value} (hKc : va_K (dC, dI) vwCl tys s) (hPc : va_P (dC, dI) vwCl ws H) (hDc : va_D A ws) (hc : vwCl[ci]? = some (C, T, N)) (he : ws[q0]? = some (b, .inr (ci, fs))) : PreV s H C b (va_Pc (.ref b :: As) (vPre dC dI ws tys H.size)) As :=
  ⟨vBlind, va_recv hKc hPc hc he, fun _ hU hW => ⟨rfl, vPre_at hKc hPc hDc hU hW⟩⟩
theorem gI {y : MethodName} {c : ByteArray} {n : Nat} {r : Option FieldType} (h : Cond.code y c n r ∈ pw) : GoodIn pw (.code y c n r :: pw) := fun w hw => (List.mem_cons.mp hw).elim (fun e => by rw [e]; exact pw_self _ h) (fun h => pw_self w h)
theorem gS {own : String} {i : Nat} {y : MethodName} {c : ByteArray} {n : Nat} {r : Option FieldType} (h1 : Cond.methodLink own i y ∈ pw) (h2 : Cond.static y ∈ pw) (h3 : Cond.initialized y.cls ∈ pw) (h : Cond.code y c n r ∈ pw) : GoodIn pw (va_wsS own i y (.code y c n r :: pw)) := by
  unfold va_wsS
  refine goodIn_app ?_ (gI h)
  intro w hw
  simp only [List.mem_cons, List.not_mem_nil, or_false] at hw
  rcases hw with rfl | rfl | rfl
  · exact pw_self _ h1
  · exact pw_self _ h2
  · exact pw_self _ h3
theorem gV {own C : String} {i : Nat} {y : MethodName} {c : ByteArray} {n : Nat} {r : Option FieldType} (h1 : Cond.methodLink own i y ∈ pw) (h2 : Cond.instanceMethod y ∈ pw) (h3 : Cond.selects C y y ∈ pw) (h4 : Cond.initialized C ∈ pw) (h : Cond.code y c n r ∈ pw) : GoodIn pw (wsV own i C y (.code y c n r :: pw)) := by
  unfold wsV
  refine goodIn_app ?_ (gI h)
  intro w hw
  simp only [List.mem_cons, List.not_mem_nil, or_false] at hw
  rcases hw with rfl | rfl | rfl | rfl
  · exact pw_self _ h1
  · exact pw_self _ h2
  · exact pw_self _ h3
  · exact pw_self _ h4
theorem il_lt {x y : Int32} (h : x < y) : x.toInt < y.toInt := Int32.lt_iff_toInt_lt.mp h
theorem il_le {x y : Int32} (h : x ≤ y) : x.toInt ≤ y.toInt := Int32.le_iff_toInt_le.mp h
theorem il_nlt {x y : Int32} (h : ¬ x < y) : y.toInt ≤ x.toInt := by rw [Int32.lt_iff_toInt_lt] at h; omega
theorem il_nle {x y : Int32} (h : ¬ x ≤ y) : y.toInt < x.toInt := by rw [Int32.le_iff_toInt_le] at h; omega
theorem il_eq {x y : Int32} (h : x = y) : x.toInt = y.toInt := by rw [h]
theorem va_P_arr {D : va_G} {cl : List vw_C} {ws : va_W} {H : Heap} {k q n : Nat} {cA : ClassId} {f : Nat → Int32} (g : Nat → Int32) (hP : va_P D cl ws H) (hk : ws[k]? = some (q, .inl (cA, n, .inl f))) (h : ∀ j, j < n → f j = g j) : va_P D cl (ws.set k (q, .inl (cA, n, .inl g))) H := by
  have hc : vp_cell cA (n, .inl f) = vp_cell cA (n, .inl g) := by
    show arrV cA n (fun j => .int (f j)) = arrV cA n (fun j => .int (g j))
    unfold arrV
    congr 1
    apply Array.ext
    · simp
    · intro i h1 h2
      simp only [Array.size_ofFn] at h1
      simp only [Array.getElem_ofFn]
      rw [h i h1]
  intro i p hp
  by_cases hi : i = k
  · subst hi
    have hlt : i < ws.length := (List.getElem?_eq_some_iff.mp hk).1
    rw [List.getElem?_set_self hlt] at hp
    cases hp
    have h0 := hP i _ hk
    show H[q]? = some (vp_cell cA (n, .inl g))
    rw [← hc]
    exact h0
  · rw [List.getElem?_set_ne (fun e => hi e.symm)] at hp
    exact hP i p hp
theorem vd_X0 : ∀ j, j < 13 → defaultValue (tyX0 j) = vp_V [.null, .null, .long 0, .null, .long 0, .int 0, .int 0, .null, .null, .null, .null, .int 0, .long 0] j := by decide +kernel
