/-- the links to private methods of a nest mate -/
def nW : List Cond := [.methodLinkNest RX10 28 yX5_init RX10, .methodLinkNest RX10 63 yX9_init RX10, .methodLinkNest RX6 110 yX10_isInt RX10, .methodLinkNest RX6 119 yX10_bitsOfPositive RX10, .methodLinkNest RX8 63 yX10_lettersIn RX10, .methodLinkNest RX2 99 yX10_lettersIn RX10, .methodLinkNest RX2 103 yX10_letterOf RX10, .methodLinkNest RX4 185 yX10_lettersIn RX10, .methodLinkNest RX4 200 yX10_isInt RX10, .methodLinkNest RX4 211 yX10_bitsOfWhole RX10]
/-- .. hold -/
def nN (U : State) : Prop := ∀ w ∈ nW, va_Nw w U
theorem nN.same {u U : State} (h : u.vm = U.vm) (hN : nN u) : nN U := fun w hw => va_Nw.same ((by decide +kernel : ∀ w ∈ nW, w.onTables = true) w hw) h (hN w hw)
theorem nN.warm {s U : State} (hW : s.WarmedH U.vm) (hN : nN s) : nN U := by
  intro w hw
  have h1 := hN w hw
  simp only [nW, List.mem_cons, List.not_mem_nil, or_false] at hw
  rcases hw with rfl | rfl | rfl | rfl | rfl | rfl | rfl | rfl | rfl | rfl
  · exact va_Nw.warmM hW h1
  · exact va_Nw.warmM hW h1
  · exact va_Nw.warmM hW h1
  · exact va_Nw.warmM hW h1
  · exact va_Nw.warmM hW h1
  · exact va_Nw.warmM hW h1
  · exact va_Nw.warmM hW h1
  · exact va_Nw.warmM hW h1
  · exact va_Nw.warmM hW h1
  · exact va_Nw.warmM hW h1
/-! what the contracts are said in: a start over a list of cells, an end over a list of cells -/
abbrev vPre (dC : Nat → ClassId) (dI : Nat → Nat → Nat) (ws : va_W) (tys : List (ClassId × FieldType)) (sz : Nat) : State → Prop := fun U => U.heap.size = sz ∧ va_P (dC, dI) vwCl ws U.heap ∧ va_K (dC, dI) vwCl tys U ∧ va_D (fun _ => True) ws ∧ nN U
abbrev vPst (dC : Nat → ClassId) (dI : Nat → Nat → Nat) (A : Nat → Prop) (ws : va_W) (tys : List (ClassId × FieldType)) (t : State) : Prop := va_P (dC, dI) vwCl ws t.heap ∧ va_K (dC, dI) vwCl tys t ∧ va_D A ws
theorem vPre_call {dC : Nat → ClassId} {dI : Nat → Nat → Nat} {ws : va_W} {tys : List (ClassId × FieldType)} {sz : Nat} {a : Array Value} {U : State} {g : JFrame} {mk : MethodId} (q : vPre dC dI ws tys sz U) : vPre dC dI ws tys sz (U.calling g mk a) := by
  obtain ⟨q1, qP, qK, qD, qN⟩ := q
  exact ⟨q1, qP, va_K.moved (u := U) (U := U.calling g mk a) (Vm.Alike.refl U.vm) qK, qD, nN.same (u := U) (U := U.calling g mk a) rfl qN⟩
theorem vPre_at {dC : Nat → ClassId} {dI : Nat → Nat → Nat} {s : State} {H : Heap} {A : Nat → Prop} {ws : va_W} {tys : List (ClassId × FieldType)} (hKc : va_K (dC, dI) vwCl tys s) (hPc : va_P (dC, dI) vwCl ws H) (hDc : va_D A ws) (hN : nN s) {U : State} (hU : U.heap = H) (hW : s.WarmedH U.vm) : vPre dC dI ws tys H.size U :=
  ⟨by rw [hU], by rw [hU]; exact hPc, va_K.moved hW.alike hKc, hDc.weaken (fun _ _ _ _ => trivial), hN.warm hW⟩
theorem vBlind {dC : Nat → ClassId} {dI : Nat → Nat → Nat} {ws : va_W} {tys : List (ClassId × FieldType)} {sz : Nat} {av : List Value} : FrameBlind (va_Pc av (vPre dC dI ws tys sz)) := fun _ _ _ _ q => ⟨q.1, vPre_call q.2⟩
theorem vS {dC : Nat → ClassId} {dI : Nat → Nat → Nat} {s : State} {H : Heap} {A : Nat → Prop} {ws : va_W} {tys : List (ClassId × FieldType)} {As : List Value} (hKc : va_K (dC, dI) vwCl tys s) (hPc : va_P (dC, dI) vwCl ws H) (hDc : va_D A ws) (hN : nN s) : PreS s H (va_Pc As (vPre dC dI ws tys H.size)) As :=
  ⟨vBlind, fun _ hU hW => ⟨rfl, vPre_at hKc hPc hDc hN hU hW⟩⟩
theorem vV {dC : Nat → ClassId} {dI : Nat → Nat → Nat} {s : State} {H : Heap} {A : Nat → Prop} {ws : va_W} {tys : List (ClassId × FieldType)} {As : List Value} {ci q0 b N : Nat} {C : String} {T : u_T} {fs : List Value} (hKc : va_K (dC, dI) vwCl tys s) (hPc : va_P (dC, dI) vwCl ws H) (hDc : va_D A ws) (hN : nN s) (hc : vwCl[ci]? = some (C, T, N)) (he : ws[q0]? = some (b, .inr (ci, fs))) : PreV s H C b (va_Pc (.ref b :: As) (vPre dC dI ws tys H.size)) As :=
  ⟨vBlind, va_recv hKc hPc hc he, fun _ hU hW => ⟨rfl, vPre_at hKc hPc hDc hN hU hW⟩⟩
theorem gI {y : MethodName} {c : ByteArray} {n : Nat} {r : Option FieldType} (h : Cond.code y c n r ∈ pw) : GoodIn pw (.code y c n r :: pw) := fun w hw => (List.mem_cons.mp hw).elim (fun e => by rw [e]; exact pw_self _ h) (fun h => pw_self w h)
theorem gS {own : String} {i : Nat} {y : MethodName} {c : ByteArray} {n : Nat} {r : Option FieldType} (h1 : Cond.methodLink own i y ∈ pw) (h2 : Cond.static y ∈ pw) (h3 : Cond.initialized y.cls ∈ pw) (h : Cond.code y c n r ∈ pw) : GoodIn pw (va_wsS own i y (.code y c n r :: pw)) := by
  unfold va_wsS
  refine goodIn_app ?_ (gI h)
  intro w hw
  simp only [List.mem_cons, List.not_mem_nil, or_false] at hw
  rcases hw with rfl | rfl | rfl
  · exact pw_self _ h1
  · exact pw_self _ h2
  · exact pw_self _ h3
theorem gV {own C : String} {i : Nat} {y : MethodName} {c : ByteArray} {n : Nat} {r : Option FieldType} (h1 : Cond.methodLink own i y ∈ pw) (h2 : Cond.instanceMethod y ∈ pw) (h3 : Cond.selects C y y ∈ pw) (h4 : Cond.initialized C ∈ pw) (h : Cond.code y c n r ∈ pw) : GoodIn pw (wsV own i C y (.code y c n r :: pw)) := by
  unfold wsV
  refine goodIn_app ?_ (gI h)
  intro w hw
  simp only [List.mem_cons, List.not_mem_nil, or_false] at hw
  rcases hw with rfl | rfl | rfl | rfl
  · exact pw_self _ h1
  · exact pw_self _ h2
  · exact pw_self _ h3
  · exact pw_self _ h4
theorem il_lt {x y : Int32} (h : x < y) : x.toInt < y.toInt := Int32.lt_iff_toInt_lt.mp h
theorem il_le {x y : Int32} (h : x ≤ y) : x.toInt ≤ y.toInt := Int32.le_iff_toInt_le.mp h
theorem il_nlt {x y : Int32} (h : ¬ x < y) : y.toInt ≤ x.toInt := by rw [Int32.lt_iff_toInt_lt] at h; omega
theorem il_nle {x y : Int32} (h : ¬ x ≤ y) : y.toInt < x.toInt := by rw [Int32.le_iff_toInt_le] at h; omega
theorem il_eq {x y : Int32} (h : x = y) : x.toInt = y.toInt := by rw [h]
theorem va_P_arr {D : va_G} {cl : List vw_C} {ws : va_W} {H : Heap} {k q n : Nat} {cA : ClassId} {f : Nat → Int32} (g : Nat → Int32) (hP : va_P D cl ws H) (hk : ws[k]? = some (q, .inl (cA, n, .inl f))) (h : ∀ j, j < n → f j = g j) : va_P D cl (ws.set k (q, .inl (cA, n, .inl g))) H := by
  have hc : vp_cell cA (n, .inl f) = vp_cell cA (n, .inl g) := by
    show arrV cA n (fun j => .int (f j)) = arrV cA n (fun j => .int (g j))
    unfold arrV
    congr 1
    apply Array.ext
    · simp
    · intro i h1 h2
      simp only [Array.size_ofFn] at h1
      simp only [Array.getElem_ofFn]
      rw [h i h1]
  intro i p hp
  by_cases hi : i = k
  · subst hi
    have hlt : i < ws.length := (List.getElem?_eq_some_iff.mp hk).1
    rw [List.getElem?_set_self hlt] at hp
    cases hp
    have h0 := hP i _ hk
    show H[q]? = some (vp_cell cA (n, .inl g))
    rw [← hc]
    exact h0
  · rw [List.getElem?_set_ne (fun e => hi e.symm)] at hp
    exact hP i p hp
theorem il_ne {x y : Int32} (h : ¬ x = y) : ¬ x.toInt = y.toInt := fun e => h (Int32.toInt_inj.mp e)
theorem il_addE {x y : Int32} (h1 : -2147483648 ≤ x.toInt + y.toInt) (h2 : x.toInt + y.toInt < 2147483648) : (x + y).toInt = x.toInt + y.toInt := by
  rw [Int32.toInt_add]
  exact Int.bmod_eq_of_le (by omega) (by omega)
theorem il_subE {x y : Int32} (h1 : -2147483648 ≤ x.toInt - y.toInt) (h2 : x.toInt - y.toInt < 2147483648) : (x - y).toInt = x.toInt - y.toInt := by
  rw [Int32.toInt_sub]
  exact Int.bmod_eq_of_le (by omega) (by omega)
theorem il_mulE {x y : Int32} (h1 : -2147483648 ≤ x.toInt * y.toInt) (h2 : x.toInt * y.toInt < 2147483648) : (x * y).toInt = x.toInt * y.toInt := by
  rw [Int32.toInt_mul]
  exact Int.bmod_eq_of_le (by omega) (by omega)
theorem il_ltn {x y : Int32} (h : x < y) : ¬ y ≤ x := by
  intro h2
  have a := il_lt h
  have b := il_le h2
  omega
theorem vp_in_ltn {x : Int32} {n : Nat} (h0 : 0 ≤ x.toInt) (h : ¬ nI n ≤ x) (hn : n < 2 ^ 31) : vp_in x n := by
  have a := il_nle h
  rw [nI_toInt hn] at a
  exact vp_in_iff.mpr ⟨h0, a⟩
theorem il_sw1 (x k0 : Int32) : x = k0 ∨ (¬ x = k0) := by
  by_cases g0 : x = k0
  · exact Or.inl g0
  exact Or.inr (g0)
theorem il_sw2 (x k0 k1 : Int32) : x = k0 ∨ x = k1 ∨ (¬ x = k0 ∧ ¬ x = k1) := by
  by_cases g0 : x = k0
  · exact Or.inl g0
  by_cases g1 : x = k1
  · exact Or.inr (Or.inl g1)
  exact Or.inr (Or.inr (⟨g0, g1⟩))
theorem il_sw3 (x k0 k1 k2 : Int32) : x = k0 ∨ x = k1 ∨ x = k2 ∨ (¬ x = k0 ∧ ¬ x = k1 ∧ ¬ x = k2) := by
  by_cases g0 : x = k0
  · exact Or.inl g0
  by_cases g1 : x = k1
  · exact Or.inr (Or.inl g1)
  by_cases g2 : x = k2
  · exact Or.inr (Or.inr (Or.inl g2))
  exact Or.inr (Or.inr (Or.inr (⟨g0, g1, g2⟩)))
theorem il_sw4 (x k0 k1 k2 k3 : Int32) : x = k0 ∨ x = k1 ∨ x = k2 ∨ x = k3 ∨ (¬ x = k0 ∧ ¬ x = k1 ∧ ¬ x = k2 ∧ ¬ x = k3) := by
  by_cases g0 : x = k0
  · exact Or.inl g0
  by_cases g1 : x = k1
  · exact Or.inr (Or.inl g1)
  by_cases g2 : x = k2
  · exact Or.inr (Or.inr (Or.inl g2))
  by_cases g3 : x = k3
  · exact Or.inr (Or.inr (Or.inr (Or.inl g3)))
  exact Or.inr (Or.inr (Or.inr (Or.inr (⟨g0, g1, g2, g3⟩))))
theorem il_sw5 (x k0 k1 k2 k3 k4 : Int32) : x = k0 ∨ x = k1 ∨ x = k2 ∨ x = k3 ∨ x = k4 ∨ (¬ x = k0 ∧ ¬ x = k1 ∧ ¬ x = k2 ∧ ¬ x = k3 ∧ ¬ x = k4) := by
  by_cases g0 : x = k0
  · exact Or.inl g0
  by_cases g1 : x = k1
  · exact Or.inr (Or.inl g1)
  by_cases g2 : x = k2
  · exact Or.inr (Or.inr (Or.inl g2))
  by_cases g3 : x = k3
  · exact Or.inr (Or.inr (Or.inr (Or.inl g3)))
  by_cases g4 : x = k4
  · exact Or.inr (Or.inr (Or.inr (Or.inr (Or.inl g4))))
  exact Or.inr (Or.inr (Or.inr (Or.inr (Or.inr (⟨g0, g1, g2, g3, g4⟩)))))
theorem il_sw6 (x k0 k1 k2 k3 k4 k5 : Int32) : x = k0 ∨ x = k1 ∨ x = k2 ∨ x = k3 ∨ x = k4 ∨ x = k5 ∨ (¬ x = k0 ∧ ¬ x = k1 ∧ ¬ x = k2 ∧ ¬ x = k3 ∧ ¬ x = k4 ∧ ¬ x = k5) := by
  by_cases g0 : x = k0
  · exact Or.inl g0
  by_cases g1 : x = k1
  · exact Or.inr (Or.inl g1)
  by_cases g2 : x = k2
  · exact Or.inr (Or.inr (Or.inl g2))
  by_cases g3 : x = k3
  · exact Or.inr (Or.inr (Or.inr (Or.inl g3)))
  by_cases g4 : x = k4
  · exact Or.inr (Or.inr (Or.inr (Or.inr (Or.inl g4))))
  by_cases g5 : x = k5
  · exact Or.inr (Or.inr (Or.inr (Or.inr (Or.inr (Or.inl g5)))))
  exact Or.inr (Or.inr (Or.inr (Or.inr (Or.inr (Or.inr (⟨g0, g1, g2, g3, g4, g5⟩))))))
theorem il_sw7 (x k0 k1 k2 k3 k4 k5 k6 : Int32) : x = k0 ∨ x = k1 ∨ x = k2 ∨ x = k3 ∨ x = k4 ∨ x = k5 ∨ x = k6 ∨ (¬ x = k0 ∧ ¬ x = k1 ∧ ¬ x = k2 ∧ ¬ x = k3 ∧ ¬ x = k4 ∧ ¬ x = k5 ∧ ¬ x = k6) := by
  by_cases g0 : x = k0
  · exact Or.inl g0
  by_cases g1 : x = k1
  · exact Or.inr (Or.inl g1)
  by_cases g2 : x = k2
  · exact Or.inr (Or.inr (Or.inl g2))
  by_cases g3 : x = k3
  · exact Or.inr (Or.inr (Or.inr (Or.inl g3)))
  by_cases g4 : x = k4
  · exact Or.inr (Or.inr (Or.inr (Or.inr (Or.inl g4))))
  by_cases g5 : x = k5
  · exact Or.inr (Or.inr (Or.inr (Or.inr (Or.inr (Or.inl g5)))))
  by_cases g6 : x = k6
  · exact Or.inr (Or.inr (Or.inr (Or.inr (Or.inr (Or.inr (Or.inl g6))))))
  exact Or.inr (Or.inr (Or.inr (Or.inr (Or.inr (Or.inr (Or.inr (⟨g0, g1, g2, g3, g4, g5, g6⟩)))))))
theorem il_sw8 (x k0 k1 k2 k3 k4 k5 k6 k7 : Int32) : x = k0 ∨ x = k1 ∨ x = k2 ∨ x = k3 ∨ x = k4 ∨ x = k5 ∨ x = k6 ∨ x = k7 ∨ (¬ x = k0 ∧ ¬ x = k1 ∧ ¬ x = k2 ∧ ¬ x = k3 ∧ ¬ x = k4 ∧ ¬ x = k5 ∧ ¬ x = k6 ∧ ¬ x = k7) := by
  by_cases g0 : x = k0
  · exact Or.inl g0
  by_cases g1 : x = k1
  · exact Or.inr (Or.inl g1)
  by_cases g2 : x = k2
  · exact Or.inr (Or.inr (Or.inl g2))
  by_cases g3 : x = k3
  · exact Or.inr (Or.inr (Or.inr (Or.inl g3)))
  by_cases g4 : x = k4
  · exact Or.inr (Or.inr (Or.inr (Or.inr (Or.inl g4))))
  by_cases g5 : x = k5
  · exact Or.inr (Or.inr (Or.inr (Or.inr (Or.inr (Or.inl g5)))))
  by_cases g6 : x = k6
  · exact Or.inr (Or.inr (Or.inr (Or.inr (Or.inr (Or.inr (Or.inl g6))))))
  by_cases g7 : x = k7
  · exact Or.inr (Or.inr (Or.inr (Or.inr (Or.inr (Or.inr (Or.inr (Or.inl g7)))))))
  exact Or.inr (Or.inr (Or.inr (Or.inr (Or.inr (Or.inr (Or.inr (Or.inr (⟨g0, g1, g2, g3, g4, g5, g6, g7⟩))))))))
theorem lk_dflt1 {a0 o0 : Int} {df k : Int} (h : ¬ k = a0) : Op.lookupswitch.offset [(a0, o0)] df k = df := by
  have g0 := h
  rw [Op.lookupswitch.offset_cons, if_neg (fun e => g0 e.symm), Op.lookupswitch.offset_nil]
theorem lk_dflt2 {a0 o0 : Int} {a1 o1 : Int} {df k : Int} (h : ¬ k = a0 ∧ ¬ k = a1) : Op.lookupswitch.offset [(a0, o0), (a1, o1)] df k = df := by
  obtain ⟨g0, g1⟩ := h
  rw [Op.lookupswitch.offset_cons, if_neg (fun e => g0 e.symm), Op.lookupswitch.offset_cons, if_neg (fun e => g1 e.symm), Op.lookupswitch.offset_nil]
theorem lk_dflt3 {a0 o0 : Int} {a1 o1 : Int} {a2 o2 : Int} {df k : Int} (h : ¬ k = a0 ∧ ¬ k = a1 ∧ ¬ k = a2) : Op.lookupswitch.offset [(a0, o0), (a1, o1), (a2, o2)] df k = df := by
  obtain ⟨g0, g1, g2⟩ := h
  rw [Op.lookupswitch.offset_cons, if_neg (fun e => g0 e.symm), Op.lookupswitch.offset_cons, if_neg (fun e => g1 e.symm), Op.lookupswitch.offset_cons, if_neg (fun e => g2 e.symm), Op.lookupswitch.offset_nil]
theorem lk_dflt4 {a0 o0 : Int} {a1 o1 : Int} {a2 o2 : Int} {a3 o3 : Int} {df k : Int} (h : ¬ k = a0 ∧ ¬ k = a1 ∧ ¬ k = a2 ∧ ¬ k = a3) : Op.lookupswitch.offset [(a0, o0), (a1, o1), (a2, o2), (a3, o3)] df k = df := by
  obtain ⟨g0, g1, g2, g3⟩ := h
  rw [Op.lookupswitch.offset_cons, if_neg (fun e => g0 e.symm), Op.lookupswitch.offset_cons, if_neg (fun e => g1 e.symm), Op.lookupswitch.offset_cons, if_neg (fun e => g2 e.symm), Op.lookupswitch.offset_cons, if_neg (fun e => g3 e.symm), Op.lookupswitch.offset_nil]
theorem lk_dflt5 {a0 o0 : Int} {a1 o1 : Int} {a2 o2 : Int} {a3 o3 : Int} {a4 o4 : Int} {df k : Int} (h : ¬ k = a0 ∧ ¬ k = a1 ∧ ¬ k = a2 ∧ ¬ k = a3 ∧ ¬ k = a4) : Op.lookupswitch.offset [(a0, o0), (a1, o1), (a2, o2), (a3, o3), (a4, o4)] df k = df := by
  obtain ⟨g0, g1, g2, g3, g4⟩ := h
  rw [Op.lookupswitch.offset_cons, if_neg (fun e => g0 e.symm), Op.lookupswitch.offset_cons, if_neg (fun e => g1 e.symm), Op.lookupswitch.offset_cons, if_neg (fun e => g2 e.symm), Op.lookupswitch.offset_cons, if_neg (fun e => g3 e.symm), Op.lookupswitch.offset_cons, if_neg (fun e => g4 e.symm), Op.lookupswitch.offset_nil]
theorem lk_dflt6 {a0 o0 : Int} {a1 o1 : Int} {a2 o2 : Int} {a3 o3 : Int} {a4 o4 : Int} {a5 o5 : Int} {df k : Int} (h : ¬ k = a0 ∧ ¬ k = a1 ∧ ¬ k = a2 ∧ ¬ k = a3 ∧ ¬ k = a4 ∧ ¬ k = a5) : Op.lookupswitch.offset [(a0, o0), (a1, o1), (a2, o2), (a3, o3), (a4, o4), (a5, o5)] df k = df := by
  obtain ⟨g0, g1, g2, g3, g4, g5⟩ := h
  rw [Op.lookupswitch.offset_cons, if_neg (fun e => g0 e.symm), Op.lookupswitch.offset_cons, if_neg (fun e => g1 e.symm), Op.lookupswitch.offset_cons, if_neg (fun e => g2 e.symm), Op.lookupswitch.offset_cons, if_neg (fun e => g3 e.symm), Op.lookupswitch.offset_cons, if_neg (fun e => g4 e.symm), Op.lookupswitch.offset_cons, if_neg (fun e => g5 e.symm), Op.lookupswitch.offset_nil]
theorem il_rng (x : Int32) : -2147483648 ≤ x.toInt ∧ x.toInt < 2147483648 := ⟨Int32.le_toInt x, Int32.toInt_lt x⟩
