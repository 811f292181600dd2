theorem dX4_addNode_0 : decode cX4_addNode 0 = .ok (.iload_n 1, 1) := by decide +kernel
theorem dX4_addNode_1 : decode cX4_addNode 1 = .ok (.iconst (-1), 1) := by decide +kernel
theorem dX4_addNode_2 : decode cX4_addNode 2 = .ok (.if_icmp .eq 10, 3) := by decide +kernel
theorem dX4_addNode_5 : decode cX4_addNode 5 = .ok (.aload_n 0, 1) := by decide +kernel
theorem dX4_addNode_6 : decode cX4_addNode 6 = .ok (.getfield 21, 3) := by decide +kernel
theorem dX4_addNode_9 : decode cX4_addNode 9 = .ok (.ifCond .eq 5, 3) := by decide +kernel
theorem dX4_addNode_12 : decode cX4_addNode 12 = .ok (.iconst (-1), 1) := by decide +kernel
theorem dX4_addNode_13 : decode cX4_addNode 13 = .ok (.ireturn, 1) := by decide +kernel
theorem dX4_addNode_14 : decode cX4_addNode 14 = .ok (.aload_n 0, 1) := by decide +kernel
theorem dX4_addNode_15 : decode cX4_addNode 15 = .ok (.getfield 49, 3) := by decide +kernel
theorem dX4_addNode_18 : decode cX4_addNode 18 = .ok (.getfield 92, 3) := by decide +kernel
theorem dX4_addNode_21 : decode cX4_addNode 21 = .ok (.sipush 400, 3) := by decide +kernel
theorem dX4_addNode_24 : decode cX4_addNode 24 = .ok (.if_icmp .ge 23, 3) := by decide +kernel
theorem dX4_addNode_27 : decode cX4_addNode 27 = .ok (.aload_n 0, 1) := by decide +kernel
theorem dX4_addNode_28 : decode cX4_addNode 28 = .ok (.getfield 49, 3) := by decide +kernel
theorem dX4_addNode_31 : decode cX4_addNode 31 = .ok (.aload_n 0, 1) := by decide +kernel
theorem dX4_addNode_32 : decode cX4_addNode 32 = .ok (.getfield 37, 3) := by decide +kernel
theorem dX4_addNode_35 : decode cX4_addNode 35 = .ok (.iload_n 1, 1) := by decide +kernel
theorem dX4_addNode_36 : decode cX4_addNode 36 = .ok (.invokevirtual 99, 3) := by decide +kernel
theorem dX4_addNode_39 : decode cX4_addNode 39 = .ok (.iload_n 2, 1) := by decide +kernel
theorem dX4_addNode_40 : decode cX4_addNode 40 = .ok (.iload_n 3, 1) := by decide +kernel
theorem dX4_addNode_41 : decode cX4_addNode 41 = .ok (.invokevirtual 144, 3) := by decide +kernel
theorem dX4_addNode_44 : decode cX4_addNode 44 = .ok (.goto 4, 3) := by decide +kernel
theorem dX4_addNode_47 : decode cX4_addNode 47 = .ok (.iconst (-1), 1) := by decide +kernel
theorem dX4_addNode_48 : decode cX4_addNode 48 = .ok (.istore 7, 2) := by decide +kernel
theorem dX4_addNode_50 : decode cX4_addNode 50 = .ok (.iload 7, 2) := by decide +kernel
theorem dX4_addNode_52 : decode cX4_addNode 52 = .ok (.iconst (-1), 1) := by decide +kernel
theorem dX4_addNode_53 : decode cX4_addNode 53 = .ok (.if_icmp .ne 10, 3) := by decide +kernel
theorem dX4_addNode_56 : decode cX4_addNode 56 = .ok (.aload_n 0, 1) := by decide +kernel
theorem dX4_addNode_57 : decode cX4_addNode 57 = .ok (.bipush 15, 2) := by decide +kernel
theorem dX4_addNode_59 : decode cX4_addNode 59 = .ok (.iconst (-1), 1) := by decide +kernel
theorem dX4_addNode_60 : decode cX4_addNode 60 = .ok (.invokevirtual 86, 3) := by decide +kernel
theorem dX4_addNode_63 : decode cX4_addNode 63 = .ok (.aload_n 0, 1) := by decide +kernel
theorem dX4_addNode_64 : decode cX4_addNode 64 = .ok (.getfield 49, 3) := by decide +kernel
theorem dX4_addNode_67 : decode cX4_addNode 67 = .ok (.iload 7, 2) := by decide +kernel
theorem dX4_addNode_69 : decode cX4_addNode 69 = .ok (.iload 4, 2) := by decide +kernel
theorem dX4_addNode_71 : decode cX4_addNode 71 = .ok (.lload 5, 2) := by decide +kernel
theorem dX4_addNode_73 : decode cX4_addNode 73 = .ok (.invokevirtual 148, 3) := by decide +kernel
theorem dX4_addNode_76 : decode cX4_addNode 76 = .ok (.iload 7, 2) := by decide +kernel
theorem dX4_addNode_78 : decode cX4_addNode 78 = .ok (.ireturn, 1) := by decide +kernel
theorem dX7_grow_0 : decode cX7_grow 0 = .ok (.aload_n 0, 1) := by decide +kernel
theorem dX7_grow_1 : decode cX7_grow 1 = .ok (.getfield 9, 3) := by decide +kernel
theorem dX7_grow_4 : decode cX7_grow 4 = .ok (.aload_n 0, 1) := by decide +kernel
theorem dX7_grow_5 : decode cX7_grow 5 = .ok (.getfield 15, 3) := by decide +kernel
theorem dX7_grow_8 : decode cX7_grow 8 = .ok (.if_icmp .lt 5, 3) := by decide +kernel
theorem dX7_grow_11 : decode cX7_grow 11 = .ok (.iconst (-1), 1) := by decide +kernel
theorem dX7_grow_12 : decode cX7_grow 12 = .ok (.ireturn, 1) := by decide +kernel
theorem dX7_grow_13 : decode cX7_grow 13 = .ok (.aload_n 0, 1) := by decide +kernel
theorem dX7_grow_14 : decode cX7_grow 14 = .ok (.getfield 9, 3) := by decide +kernel
theorem dX7_grow_17 : decode cX7_grow 17 = .ok (.istore 4, 2) := by decide +kernel
theorem dX7_grow_19 : decode cX7_grow 19 = .ok (.aload_n 0, 1) := by decide +kernel
theorem dX7_grow_20 : decode cX7_grow 20 = .ok (.dup, 1) := by decide +kernel
theorem dX7_grow_21 : decode cX7_grow 21 = .ok (.getfield 9, 3) := by decide +kernel
theorem dX7_grow_24 : decode cX7_grow 24 = .ok (.iconst 1, 1) := by decide +kernel
theorem dX7_grow_25 : decode cX7_grow 25 = .ok (.iadd, 1) := by decide +kernel
theorem dX7_grow_26 : decode cX7_grow 26 = .ok (.putfield 9, 3) := by decide +kernel
theorem dX7_grow_29 : decode cX7_grow 29 = .ok (.aload_n 0, 1) := by decide +kernel
theorem dX7_grow_30 : decode cX7_grow 30 = .ok (.getfield 18, 3) := by decide +kernel
theorem dX7_grow_33 : decode cX7_grow 33 = .ok (.iload 4, 2) := by decide +kernel
theorem dX7_grow_35 : decode cX7_grow 35 = .ok (.iload_n 1, 1) := by decide +kernel
theorem dX7_grow_36 : decode cX7_grow 36 = .ok (.iastore, 1) := by decide +kernel
theorem dX7_grow_37 : decode cX7_grow 37 = .ok (.aload_n 0, 1) := by decide +kernel
theorem dX7_grow_38 : decode cX7_grow 38 = .ok (.getfield 22, 3) := by decide +kernel
theorem dX7_grow_41 : decode cX7_grow 41 = .ok (.iload 4, 2) := by decide +kernel
theorem dX7_grow_43 : decode cX7_grow 43 = .ok (.iload_n 2, 1) := by decide +kernel
theorem dX7_grow_44 : decode cX7_grow 44 = .ok (.iastore, 1) := by decide +kernel
theorem dX7_grow_45 : decode cX7_grow 45 = .ok (.aload_n 0, 1) := by decide +kernel
theorem dX7_grow_46 : decode cX7_grow 46 = .ok (.getfield 25, 3) := by decide +kernel
theorem dX7_grow_49 : decode cX7_grow 49 = .ok (.iload 4, 2) := by decide +kernel
theorem dX7_grow_51 : decode cX7_grow 51 = .ok (.iload_n 3, 1) := by decide +kernel
theorem dX7_grow_52 : decode cX7_grow 52 = .ok (.iastore, 1) := by decide +kernel
theorem dX7_grow_53 : decode cX7_grow 53 = .ok (.aload_n 0, 1) := by decide +kernel
theorem dX7_grow_54 : decode cX7_grow 54 = .ok (.getfield 28, 3) := by decide +kernel
theorem dX7_grow_57 : decode cX7_grow 57 = .ok (.iload 4, 2) := by decide +kernel
theorem dX7_grow_59 : decode cX7_grow 59 = .ok (.iconst 0, 1) := by decide +kernel
theorem dX7_grow_60 : decode cX7_grow 60 = .ok (.iastore, 1) := by decide +kernel
theorem dX7_grow_61 : decode cX7_grow 61 = .ok (.aload_n 0, 1) := by decide +kernel
theorem dX7_grow_62 : decode cX7_grow 62 = .ok (.getfield 31, 3) := by decide +kernel
theorem dX7_grow_65 : decode cX7_grow 65 = .ok (.iload 4, 2) := by decide +kernel
theorem dX7_grow_67 : decode cX7_grow 67 = .ok (.iconst 0, 1) := by decide +kernel
theorem dX7_grow_68 : decode cX7_grow 68 = .ok (.bastore, 1) := by decide +kernel
theorem dX7_grow_69 : decode cX7_grow 69 = .ok (.aload_n 0, 1) := by decide +kernel
theorem dX7_grow_70 : decode cX7_grow 70 = .ok (.getfield 35, 3) := by decide +kernel
theorem dX7_grow_73 : decode cX7_grow 73 = .ok (.iload 4, 2) := by decide +kernel
theorem dX7_grow_75 : decode cX7_grow 75 = .ok (.lconst 0, 1) := by decide +kernel
theorem dX7_grow_76 : decode cX7_grow 76 = .ok (.lastore, 1) := by decide +kernel
theorem dX7_grow_77 : decode cX7_grow 77 = .ok (.aload_n 0, 1) := by decide +kernel
theorem dX7_grow_78 : decode cX7_grow 78 = .ok (.getfield 39, 3) := by decide +kernel
theorem dX7_grow_81 : decode cX7_grow 81 = .ok (.iload 4, 2) := by decide +kernel
theorem dX7_grow_83 : decode cX7_grow 83 = .ok (.iconst (-1), 1) := by decide +kernel
theorem dX7_grow_84 : decode cX7_grow 84 = .ok (.iastore, 1) := by decide +kernel
theorem dX7_grow_85 : decode cX7_grow 85 = .ok (.aload_n 0, 1) := by decide +kernel
theorem dX7_grow_86 : decode cX7_grow 86 = .ok (.getfield 42, 3) := by decide +kernel
theorem dX7_grow_89 : decode cX7_grow 89 = .ok (.iload 4, 2) := by decide +kernel
theorem dX7_grow_91 : decode cX7_grow 91 = .ok (.iconst (-1), 1) := by decide +kernel
theorem dX7_grow_92 : decode cX7_grow 92 = .ok (.iastore, 1) := by decide +kernel
theorem dX7_grow_93 : decode cX7_grow 93 = .ok (.aload_n 0, 1) := by decide +kernel
theorem dX7_grow_94 : decode cX7_grow 94 = .ok (.getfield 45, 3) := by decide +kernel
theorem dX7_grow_97 : decode cX7_grow 97 = .ok (.iload 4, 2) := by decide +kernel
theorem dX7_grow_99 : decode cX7_grow 99 = .ok (.iconst (-1), 1) := by decide +kernel
theorem dX7_grow_100 : decode cX7_grow 100 = .ok (.iastore, 1) := by decide +kernel
theorem dX7_grow_101 : decode cX7_grow 101 = .ok (.aload_n 0, 1) := by decide +kernel
theorem dX7_grow_102 : decode cX7_grow 102 = .ok (.iload_n 2, 1) := by decide +kernel
theorem dX7_grow_103 : decode cX7_grow 103 = .ok (.invokevirtual 54, 3) := by decide +kernel
theorem dX7_grow_106 : decode cX7_grow 106 = .ok (.ifCond .eq 10, 3) := by decide +kernel
theorem dX7_grow_109 : decode cX7_grow 109 = .ok (.aload_n 0, 1) := by decide +kernel
theorem dX7_grow_110 : decode cX7_grow 110 = .ok (.iload 4, 2) := by decide +kernel
theorem dX7_grow_112 : decode cX7_grow 112 = .ok (.iload_n 2, 1) := by decide +kernel
theorem dX7_grow_113 : decode cX7_grow 113 = .ok (.invokevirtual 58, 3) := by decide +kernel
theorem dX7_grow_116 : decode cX7_grow 116 = .ok (.iload 4, 2) := by decide +kernel
theorem dX7_grow_118 : decode cX7_grow 118 = .ok (.ireturn, 1) := by decide +kernel
theorem dX7_setWorth_0 : decode cX7_setWorth 0 = .ok (.aload_n 0, 1) := by decide +kernel
theorem dX7_setWorth_1 : decode cX7_setWorth 1 = .ok (.iload_n 1, 1) := by decide +kernel
theorem dX7_setWorth_2 : decode cX7_setWorth 2 = .ok (.invokevirtual 54, 3) := by decide +kernel
theorem dX7_setWorth_5 : decode cX7_setWorth 5 = .ok (.ifCond .eq 17, 3) := by decide +kernel
theorem dX7_setWorth_8 : decode cX7_setWorth 8 = .ok (.aload_n 0, 1) := by decide +kernel
theorem dX7_setWorth_9 : decode cX7_setWorth 9 = .ok (.getfield 28, 3) := by decide +kernel
theorem dX7_setWorth_12 : decode cX7_setWorth 12 = .ok (.iload_n 1, 1) := by decide +kernel
theorem dX7_setWorth_13 : decode cX7_setWorth 13 = .ok (.iload_n 2, 1) := by decide +kernel
theorem dX7_setWorth_14 : decode cX7_setWorth 14 = .ok (.iastore, 1) := by decide +kernel
theorem dX7_setWorth_15 : decode cX7_setWorth 15 = .ok (.aload_n 0, 1) := by decide +kernel
theorem dX7_setWorth_16 : decode cX7_setWorth 16 = .ok (.getfield 35, 3) := by decide +kernel
theorem dX7_setWorth_19 : decode cX7_setWorth 19 = .ok (.iload_n 1, 1) := by decide +kernel
theorem dX7_setWorth_20 : decode cX7_setWorth 20 = .ok (.lload_n 3, 1) := by decide +kernel
theorem dX7_setWorth_21 : decode cX7_setWorth 21 = .ok (.lastore, 1) := by decide +kernel
theorem dX7_setWorth_22 : decode cX7_setWorth 22 = .ok (.return_, 1) := by decide +kernel
def f_X7_link_155 (b : Nat) (x1 : Int32) (x2 : Int32) (σ : ST) : Option (ST) := if 0 ≤ x1.toInt ∧ x1.toInt < (ln7 b : Nat) then (if (σ.1 (b + 9) x1.toNatClampNeg) = (-1) then (if 0 ≤ x2.toInt ∧ x2.toInt < (ln7 b : Nat) then (some (stI σ (b + 8) x2.toNatClampNeg x1)) else none) else (some σ)) else none
def f_X7_link_103 (b : Nat) (x1 : Int32) (x2 : Int32) (x4 : Int32) (σ : ST) : Option (ST) := (f_X7_isRow b x4 σ).bind fun q1 => if q1.1 = 0 then (if 0 ≤ x2.toInt ∧ x2.toInt < (ln7 b : Nat) then (if 0 ≤ x1.toInt ∧ x1.toInt < (ln7 b : Nat) then ((some (stI (stI q1.2 (b + 9) x1.toNatClampNeg (q1.2.1 (b + 7) x2.toNatClampNeg)) (b + 7) x2.toNatClampNeg x1)).bind fun z5 => f_X7_link_155 b x1 x2 z5) else none) else none) else (if 0 ≤ x4.toInt ∧ x4.toInt < (ln7 b : Nat) then (if 0 ≤ x1.toInt ∧ x1.toInt < (ln7 b : Nat) then ((some (stI (stI q1.2 (b + 9) x1.toNatClampNeg (q1.2.1 (b + 9) x4.toNatClampNeg)) (b + 9) x4.toNatClampNeg x1)).bind fun z8 => f_X7_link_155 b x1 x2 z8) else none) else none)
def f_X7_link_50 (b : Nat) : Nat → Int32 → Int32 → Int32 → Int32 → Int32 → ST → Option (ST)
  | 0, _, _, _, _, _, _ => none
  | n + 1, x1, x2, x4, x5, x6, σ => if (σ.1 b 1) ≤ x6 then (f_X7_link_103 b x1 x2 x4 σ) else ((f_X7_isRow b x5 σ).bind fun q1 => if q1.1 = 0 then (f_X7_link_103 b x1 x2 x4 q1.2) else (if 0 ≤ x5.toInt ∧ x5.toInt < (ln7 b : Nat) then (if 0 ≤ x1.toInt ∧ x1.toInt < (ln7 b : Nat) then (if (q1.2.1 (b + 3) x1.toNatClampNeg) ≤ (q1.2.1 (b + 3) x5.toNatClampNeg) then (f_X7_link_103 b x1 x2 x4 q1.2) else (f_X7_link_50 b n x1 x2 x5 (q1.2.1 (b + 9) x5.toNatClampNeg) (x6 + 1) q1.2)) else none) else none))
def f_X7_link_39 (b : Nat) (x1 : Int32) (x2 : Int32) (x4 : Int32) (σ : ST) : Option (ST) := if 0 ≤ x2.toInt ∧ x2.toInt < (ln7 b : Nat) then (f_X7_link_50 b FU x1 x2 x4 (σ.1 (b + 7) x2.toNatClampNeg) 0 σ) else none
def f_X7_link (b : Nat) (p0 : Int32) (p1 : Int32) (σ : ST) : Option (ST) := if 0 ≤ p1.toInt ∧ p1.toInt < (ln7 b : Nat) then ((f_X7_isRow b (σ.1 (b + 8) p1.toNatClampNeg) σ).bind fun q2 => if q2.1 = 0 then (f_X7_link_39 b p0 p1 (-1) q2.2) else (if 0 ≤ (σ.1 (b + 8) p1.toNatClampNeg).toInt ∧ (σ.1 (b + 8) p1.toNatClampNeg).toInt < (ln7 b : Nat) then (if 0 ≤ p0.toInt ∧ p0.toInt < (ln7 b : Nat) then (if (q2.2.1 (b + 3) p0.toNatClampNeg) ≤ (q2.2.1 (b + 3) (σ.1 (b + 8) p1.toNatClampNeg).toNatClampNeg) then (f_X7_link_39 b p0 p1 (-1) q2.2) else (f_X7_link_103 b p0 p1 (σ.1 (b + 8) p1.toNatClampNeg) q2.2)) else none) else none)) else none

set_option maxRecDepth 100000 in
set_option maxHeartbeats 4000000 in
theorem b_X7_link_155_50 {p : Program} {l : Launch} {e : Env} {s : State} {m : MethodId} {args : Array Value} {below : List Frame} {meth : Method} {c : Code} {dC : Nat → ClassId} {dI : Nat → Nat → Nat} {a : Nat → Nat} {k : Nat → ClassId} {A : Nat → Prop} {q : ST} (hC : CxA p s m args meth c dC dI k A cX7_link RX7 none 7)   {x1 : Int32} {x2 : Int32} {σ : ST} (h : f_X7_link_155 50 x1 x2 σ = some q) : GoA p l e ({ frames := 1, cells := 0, slots := 0, locals := 21 } : Room) s m args below meth c (MQ below (qAv dC dI a k A q) args s 0 0 A) dC dI a k A 7 155 σ [(0, .ref (a 50)), (1, .int x1), (2, .int x2)] [] := by
  have hC0 := hC
  obtain ⟨hx, hb, hr, hml, hown, hts, hlocks, hA, hN, hK⟩ := hC0
  intro H locs ls hP hD hS hl
  have hD0 : ∀ σ1 : ST, va_D A (wA a k σ1) := fun σ1 => wA_D hD
  unfold f_X7_link_155 at h
  refine lv_aload_n hx hb dX7_link_155 rfl (lv_at hl 0 rfl) ?_
  refine va_get (D := (dC, dI)) (ci := 7) (C := RX7) (T := TX7) (N := 13) hx hb hts inlX7 hown hK hP 50 gA_50 rfl 10 (by decide) (hts (.fieldLink RX7 45 "ShapeReader$Tree" "nexts" "[I") mw_18_11) (fun _ h9 => h9) rfl dX7_link_156 ?_
  refine lv_iload_n hx hb dX7_link_159 rfl (lv_at hl 1 rfl) ?_
  obtain ⟨hg1, h⟩ := ig h
  refine va_iald hx hb hK hP 59 50 gA_59 yA_59 (vp_in_iff.mpr hg1) dX7_link_160 ?_
  refine lv_iconst (v := (-1)) hx hb dX7_link_161 (by decide) ?_
  refine lv_icmp_ne (tgt := 172) hx hb dX7_link_162 (by decide) (fun hc => ?_) (fun hc => ?_)
  · replace h := iq hc h
    obtain rfl := Option.some.inj h
    exact W.vret hx hb hr (fun t ht hW => ⟨⟨(), rfl, trivial, ⟨by rw [ht]; exact hP, va_K.moved hW.alike hK, hD⟩⟩, hS.F ht⟩) hS.2.2 dX7_link_172
  · replace h := ip hc h
    refine lv_aload_n hx hb dX7_link_165 rfl (lv_at hl 0 rfl) ?_
    refine va_get (D := (dC, dI)) (ci := 7) (C := RX7) (T := TX7) (N := 13) hx hb hts inlX7 hown hK hP 50 gA_50 rfl 9 (by decide) (hts (.fieldLink RX7 42 "ShapeReader$Tree" "lasts" "[I") mw_18_10) (fun _ h9 => h9) rfl dX7_link_166 ?_
    refine lv_iload_n hx hb dX7_link_169 rfl (lv_at hl 2 rfl) ?_
    refine lv_iload_n hx hb dX7_link_170 rfl (lv_at hl 1 rfl) ?_
    obtain ⟨hg2, h⟩ := ig h
    refine va_iast hx hb hK hP hD hS 58 49 gA_58 yA_58 (vp_in_iff.mpr hg2) dX7_link_171 (fun H locs hP hD hS => ?_)
    replace hP := uA_58 hP
    replace hD := hD0 ((stI σ 58 x2.toNatClampNeg x1))
    obtain rfl := Option.some.inj h
    exact W.vret hx hb hr (fun t ht hW => ⟨⟨(), rfl, trivial, ⟨by rw [ht]; exact hP, va_K.moved hW.alike hK, hD⟩⟩, hS.F ht⟩) hS.2.2 dX7_link_172

set_option maxRecDepth 100000 in
set_option maxHeartbeats 4000000 in
theorem b_X7_link_103_50 {p : Program} {l : Launch} {e : Env} {s : State} {m : MethodId} {args : Array Value} {below : List Frame} {meth : Method} {c : Code} {dC : Nat → ClassId} {dI : Nat → Nat → Nat} {a : Nat → Nat} {k : Nat → ClassId} {A : Nat → Prop} {q : ST} (hC : CxA p s m args meth c dC dI k A cX7_link RX7 none 7)   {x1 : Int32} {x2 : Int32} {x4 : Int32} {σ : ST} (h : f_X7_link_103 50 x1 x2 x4 σ = some q) : GoA p l e ({ frames := 1, cells := 0, slots := 0, locals := 21 } : Room) s m args below meth c (MQ below (qAv dC dI a k A q) args s 0 0 A) dC dI a k A 7 103 σ [(0, .ref (a 50)), (1, .int x1), (2, .int x2), (4, .int x4)] [] := by
  have hC0 := hC
  obtain ⟨hx, hb, hr, hml, hown, hts, hlocks, hA, hN, hK⟩ := hC0
  intro H locs ls hP hD hS hl
  have hD0 : ∀ σ1 : ST, va_D A (wA a k σ1) := fun σ1 => wA_D hD
  unfold f_X7_link_103 at h
  refine lv_aload_n hx hb dX7_link_103 rfl (lv_at hl 0 rfl) ?_
  refine lv_iload hx hb dX7_link_104 (lv_at hl 3 rfl) ?_
  obtain ⟨q1, hc, h⟩ := ib h
  have hF := va_frees hD hS hA
  refine va_calli (va_runV (As := [.int x4]) (rest := []) ⟨hx, hb, hml, hown, hts⟩ (s_X7_isRow_50 hc) (cwV 1 hts (gV mw_18_14 mw_18_15 mw_18_16 mw_0_11 mw_51_24) rfl rfl rfl (by decide +kernel) ⟨(Nat.le_of_ble_eq_true rfl), (Nat.le_of_ble_eq_true rfl)⟩) (vV (ci := 7) (q0 := 50) hK hP hD hN rfl gA_50) rfl rfl hl.1 rfl (lv_room (Nat.le_of_ble_eq_true rfl)) dX7_link_106 ⟨(Nat.le_of_ble_eq_true rfl), (Nat.le_of_ble_eq_true rfl)⟩) hS (fun q _ h => hF q h) hF (fun r2 u t H locs ht hvm hw hB _ _ hS => ?_)
  obtain rfl : r2 = q1.1 := hw
  replace hP : va_P (dC, dI) vwCl (wA a k q1.2) H := by rw [← ht]; exact hB.1
  replace hD := hD0 (q1.2)
  clear hB hF
  refine lv_if_eq (tgt := 136) hx hb dX7_link_109 (by decide) (fun hc => ?_) (fun hc => ?_)
  · replace h := ip hc h
    refine lv_aload_n hx hb dX7_link_136 rfl (lv_at hl 0 rfl) ?_
    refine va_get (D := (dC, dI)) (ci := 7) (C := RX7) (T := TX7) (N := 13) hx hb hts inlX7 hown hK hP 50 gA_50 rfl 10 (by decide) (hts (.fieldLink RX7 45 "ShapeReader$Tree" "nexts" "[I") mw_18_11) (fun _ h9 => h9) rfl dX7_link_137 ?_
    refine lv_iload_n hx hb dX7_link_140 rfl (lv_at hl 1 rfl) ?_
    refine lv_aload_n hx hb dX7_link_141 rfl (lv_at hl 0 rfl) ?_
    refine va_get (D := (dC, dI)) (ci := 7) (C := RX7) (T := TX7) (N := 13) hx hb hts inlX7 hown hK hP 50 gA_50 rfl 8 (by decide) (hts (.fieldLink RX7 39 "ShapeReader$Tree" "firsts" "[I") mw_18_9) (fun _ h9 => h9) rfl dX7_link_142 ?_
    refine lv_iload_n hx hb dX7_link_145 rfl (lv_at hl 2 rfl) ?_
    obtain ⟨hg3, h⟩ := ig h
    refine va_iald hx hb hK hP 57 48 gA_57 yA_57 (vp_in_iff.mpr hg3) dX7_link_146 ?_
    obtain ⟨hg4, h⟩ := ig h
    refine va_iast hx hb hK hP hD hS 59 50 gA_59 yA_59 (vp_in_iff.mpr hg4) dX7_link_147 (fun H locs hP hD hS => ?_)
    replace hP := uA_59 hP
    replace hD := hD0 ((stI q1.2 59 x1.toNatClampNeg (q1.2.1 57 x2.toNatClampNeg)))
    refine lv_aload_n hx hb dX7_link_148 rfl (lv_at hl 0 rfl) ?_
    refine va_get (D := (dC, dI)) (ci := 7) (C := RX7) (T := TX7) (N := 13) hx hb hts inlX7 hown hK hP 50 gA_50 rfl 8 (by decide) (hts (.fieldLink RX7 39 "ShapeReader$Tree" "firsts" "[I") mw_18_9) (fun _ h9 => h9) rfl dX7_link_149 ?_
    refine lv_iload_n hx hb dX7_link_152 rfl (lv_at hl 2 rfl) ?_
    refine lv_iload_n hx hb dX7_link_153 rfl (lv_at hl 1 rfl) ?_
    refine va_iast hx hb hK hP hD hS 57 48 gA_57 yA_57 (vp_in_iff.mpr hg3) dX7_link_154 (fun H locs hP hD hS => ?_)
    replace hP := uA_57 hP
    replace hD := hD0 ((stI (stI q1.2 59 x1.toNatClampNeg (q1.2.1 57 x2.toNatClampNeg)) 57 x2.toNatClampNeg x1))
    obtain ⟨z5, hs, h⟩ := ib h
    replace hs := Option.some.inj hs
    replace hP : va_P (dC, dI) vwCl (wA a k z5) H := by rw [← hs]; exact hP
    replace hD := hD0 z5
    clear hs
    exact b_X7_link_155_50 hC h _ _ _ hP hD hS (lv_sub hl [0, 1, 2] rfl)
  · replace h := iq hc h
    refine lv_aload_n hx hb dX7_link_112 rfl (lv_at hl 0 rfl) ?_
    refine va_get (D := (dC, dI)) (ci := 7) (C := RX7) (T := TX7) (N := 13) hx hb hts inlX7 hown hK hP 50 gA_50 rfl 10 (by decide) (hts (.fieldLink RX7 45 "ShapeReader$Tree" "nexts" "[I") mw_18_11) (fun _ h9 => h9) rfl dX7_link_113 ?_
    refine lv_iload_n hx hb dX7_link_116 rfl (lv_at hl 1 rfl) ?_
    refine lv_aload_n hx hb dX7_link_117 rfl (lv_at hl 0 rfl) ?_
    refine va_get (D := (dC, dI)) (ci := 7) (C := RX7) (T := TX7) (N := 13) hx hb hts inlX7 hown hK hP 50 gA_50 rfl 10 (by decide) (hts (.fieldLink RX7 45 "ShapeReader$Tree" "nexts" "[I") mw_18_11) (fun _ h9 => h9) rfl dX7_link_118 ?_
    refine lv_iload hx hb dX7_link_121 (lv_at hl 3 rfl) ?_
    obtain ⟨hg6, h⟩ := ig h
    refine va_iald hx hb hK hP 59 50 gA_59 yA_59 (vp_in_iff.mpr hg6) dX7_link_123 ?_
    obtain ⟨hg7, h⟩ := ig h
    refine va_iast hx hb hK hP hD hS 59 50 gA_59 yA_59 (vp_in_iff.mpr hg7) dX7_link_124 (fun H locs hP hD hS => ?_)
    replace hP := uA_59 hP
    replace hD := hD0 ((stI q1.2 59 x1.toNatClampNeg (q1.2.1 59 x4.toNatClampNeg)))
    refine lv_aload_n hx hb dX7_link_125 rfl (lv_at hl 0 rfl) ?_
    refine va_get (D := (dC, dI)) (ci := 7) (C := RX7) (T := TX7) (N := 13) hx hb hts inlX7 hown hK hP 50 gA_50 rfl 10 (by decide) (hts (.fieldLink RX7 45 "ShapeReader$Tree" "nexts" "[I") mw_18_11) (fun _ h9 => h9) rfl dX7_link_126 ?_
    refine lv_iload hx hb dX7_link_129 (lv_at hl 3 rfl) ?_
    refine lv_iload_n hx hb dX7_link_131 rfl (lv_at hl 1 rfl) ?_
    refine va_iast hx hb hK hP hD hS 59 50 gA_59 yA_59 (vp_in_iff.mpr hg6) dX7_link_132 (fun H locs hP hD hS => ?_)
    replace hP := uA_59 hP
    replace hD := hD0 ((stI (stI q1.2 59 x1.toNatClampNeg (q1.2.1 59 x4.toNatClampNeg)) 59 x4.toNatClampNeg x1))
    obtain ⟨z8, hs, h⟩ := ib h
    replace hs := Option.some.inj hs
    replace hP : va_P (dC, dI) vwCl (wA a k z8) H := by rw [← hs]; exact hP
    replace hD := hD0 z8
    clear hs
    refine lv_goto (tgt := 155) hx hb dX7_link_133 (by decide) ?_
    exact b_X7_link_155_50 hC h _ _ _ hP hD hS (lv_sub hl [0, 1, 2] rfl)

set_option maxRecDepth 100000 in
set_option maxHeartbeats 4000000 in
theorem b_X7_link_50_50 {p : Program} {l : Launch} {e : Env} {s : State} {m : MethodId} {args : Array Value} {below : List Frame} {meth : Method} {c : Code} {dC : Nat → ClassId} {dI : Nat → Nat → Nat} {a : Nat → Nat} {k : Nat → ClassId} {A : Nat → Prop} {q : ST} (hC : CxA p s m args meth c dC dI k A cX7_link RX7 none 7)   : ∀ (n : Nat) (x1 : Int32) (x2 : Int32) (x4 : Int32) (x5 : Int32) (x6 : Int32) (σ : ST), f_X7_link_50 50 n x1 x2 x4 x5 x6 σ = some q → GoA p l e ({ frames := 1, cells := 0, slots := 0, locals := 21 } : Room) s m args below meth c (MQ below (qAv dC dI a k A q) args s 0 0 A) dC dI a k A 7 50 σ [(0, .ref (a 50)), (1, .int x1), (2, .int x2), (4, .int x4), (5, .int x5), (6, .int x6)] [] := by
  intro n
  induction n with
  | zero =>
    intro x1 x2 x4 x5 x6 σ h
    rw [f_X7_link_50] at h
    cases h
  | succ n ih =>
    intro x1 x2 x4 x5 x6 σ h
    have hC0 := hC
    obtain ⟨hx, hb, hr, hml, hown, hts, hlocks, hA, hN, hK⟩ := hC0
    intro H locs ls hP hD hS hl
    have hD0 : ∀ σ1 : ST, va_D A (wA a k σ1) := fun σ1 => wA_D hD
    rw [f_X7_link_50] at h
    refine lv_iload hx hb dX7_link_50 (lv_at hl 5 rfl) ?_
    refine lv_aload_n hx hb dX7_link_52 rfl (lv_at hl 0 rfl) ?_
    refine va_get (D := (dC, dI)) (ci := 7) (C := RX7) (T := TX7) (N := 13) hx hb hts inlX7 hown hK hP 50 gA_50 rfl 1 (by decide) (hts (.fieldLink RX7 9 "ShapeReader$Tree" "size" "I") mw_18_1) (fun _ h9 => h9) rfl dX7_link_53 ?_
    refine lv_icmp_ge (tgt := 103) hx hb dX7_link_56 (by decide) (fun hc => ?_) (fun hc => ?_)
    · replace h := ip hc h
      exact b_X7_link_103_50 hC h _ _ _ hP hD hS (lv_sub hl [0, 1, 2, 3] rfl)
    · replace h := iq hc h
      refine lv_aload_n hx hb dX7_link_59 rfl (lv_at hl 0 rfl) ?_
      refine lv_iload hx hb dX7_link_60 (lv_at hl 4 rfl) ?_
      obtain ⟨q1, hc, h⟩ := ib h
      have hF := va_frees hD hS hA
      refine va_calli (va_runV (As := [.int x5]) (rest := []) ⟨hx, hb, hml, hown, hts⟩ (s_X7_isRow_50 hc) (cwV 1 hts (gV mw_18_14 mw_18_15 mw_18_16 mw_0_11 mw_51_24) rfl rfl rfl (by decide +kernel) ⟨(Nat.le_of_ble_eq_true rfl), (Nat.le_of_ble_eq_true rfl)⟩) (vV (ci := 7) (q0 := 50) hK hP hD hN rfl gA_50) rfl rfl hl.1 rfl (lv_room (Nat.le_of_ble_eq_true rfl)) dX7_link_62 ⟨(Nat.le_of_ble_eq_true rfl), (Nat.le_of_ble_eq_true rfl)⟩) hS (fun q _ h => hF q h) hF (fun r2 u t H locs ht hvm hw hB _ _ hS => ?_)
      obtain rfl : r2 = q1.1 := hw
      replace hP : va_P (dC, dI) vwCl (wA a k q1.2) H := by rw [← ht]; exact hB.1
      replace hD := hD0 (q1.2)
      clear hB hF
      refine lv_if_eq (tgt := 103) hx hb dX7_link_65 (by decide) (fun hc => ?_) (fun hc => ?_)
      · replace h := ip hc h
        exact b_X7_link_103_50 hC h _ _ _ hP hD hS (lv_sub hl [0, 1, 2, 3] rfl)
      · replace h := iq hc h
        refine lv_aload_n hx hb dX7_link_68 rfl (lv_at hl 0 rfl) ?_
        refine va_get (D := (dC, dI)) (ci := 7) (C := RX7) (T := TX7) (N := 13) hx hb hts inlX7 hown hK hP 50 gA_50 rfl 4 (by decide) (hts (.fieldLink RX7 25 "ShapeReader$Tree" "places" "[I") mw_18_5) (fun _ h9 => h9) rfl dX7_link_69 ?_
        refine lv_iload hx hb dX7_link_72 (lv_at hl 4 rfl) ?_
        obtain ⟨hg3, h⟩ := ig h
        refine va_iald hx hb hK hP 53 44 gA_53 yA_53 (vp_in_iff.mpr hg3) dX7_link_74 ?_
        refine lv_aload_n hx hb dX7_link_75 rfl (lv_at hl 0 rfl) ?_
        refine va_get (D := (dC, dI)) (ci := 7) (C := RX7) (T := TX7) (N := 13) hx hb hts inlX7 hown hK hP 50 gA_50 rfl 4 (by decide) (hts (.fieldLink RX7 25 "ShapeReader$Tree" "places" "[I") mw_18_5) (fun _ h9 => h9) rfl dX7_link_76 ?_
        refine lv_iload_n hx hb dX7_link_79 rfl (lv_at hl 1 rfl) ?_
        obtain ⟨hg4, h⟩ := ig h
        refine va_iald hx hb hK hP 53 44 gA_53 yA_53 (vp_in_iff.mpr hg4) dX7_link_80 ?_
        refine lv_icmp_ge (tgt := 103) hx hb dX7_link_81 (by decide) (fun hc => ?_) (fun hc => ?_)
        · replace h := ip hc h
          exact b_X7_link_103_50 hC h _ _ _ hP hD hS (lv_sub hl [0, 1, 2, 3] rfl)
        · replace h := iq hc h
          refine lv_iload hx hb dX7_link_84 (lv_at hl 4 rfl) ?_
          refine lv_istore (lv' := [(4, .int x5), (0, .ref (a 50)), (1, .int x1), (2, .int x2), (5, .int x5), (6, .int x6)]) hx hb dX7_link_86 hl (by decide) rfl (fun ls hl => ?_)
          refine lv_aload_n hx hb dX7_link_88 rfl (lv_at hl 1 rfl) ?_
          refine va_get (D := (dC, dI)) (ci := 7) (C := RX7) (T := TX7) (N := 13) hx hb hts inlX7 hown hK hP 50 gA_50 rfl 10 (by decide) (hts (.fieldLink RX7 45 "ShapeReader$Tree" "nexts" "[I") mw_18_11) (fun _ h9 => h9) rfl dX7_link_89 ?_
          refine lv_iload hx hb dX7_link_92 (lv_at hl 4 rfl) ?_
          refine va_iald hx hb hK hP 59 50 gA_59 yA_59 (vp_in_iff.mpr hg3) dX7_link_94 ?_
          refine lv_istore (lv' := [(5, .int (q1.2.1 59 x5.toNatClampNeg)), (4, .int x5), (0, .ref (a 50)), (1, .int x1), (2, .int x2), (6, .int x6)]) hx hb dX7_link_95 hl (by decide) rfl (fun ls hl => ?_)
          refine lv_iinc (v := (x6 + 1)) (lv' := [(6, .int (x6 + 1)), (5, .int (q1.2.1 59 x5.toNatClampNeg)), (4, .int x5), (0, .ref (a 50)), (1, .int x1), (2, .int x2)]) hx hb dX7_link_97 hl (k := 5) rfl rfl (by decide) rfl (fun ls hl => ?_)
          refine lv_goto (tgt := 50) hx hb dX7_link_100 (by decide) ?_
          exact ih _ _ _ _ _ _ h _ _ _ hP hD hS (lv_sub hl [3, 4, 5, 2, 1, 0] rfl)

set_option maxRecDepth 100000 in
set_option maxHeartbeats 4000000 in
theorem b_X7_link_39_50 {p : Program} {l : Launch} {e : Env} {s : State} {m : MethodId} {args : Array Value} {below : List Frame} {meth : Method} {c : Code} {dC : Nat → ClassId} {dI : Nat → Nat → Nat} {a : Nat → Nat} {k : Nat → ClassId} {A : Nat → Prop} {q : ST} (hC : CxA p s m args meth c dC dI k A cX7_link RX7 none 7)   {x1 : Int32} {x2 : Int32} {x4 : Int32} {σ : ST} (h : f_X7_link_39 50 x1 x2 x4 σ = some q) : GoA p l e ({ frames := 1, cells := 0, slots := 0, locals := 21 } : Room) s m args below meth c (MQ below (qAv dC dI a k A q) args s 0 0 A) dC dI a k A 7 39 σ [(0, .ref (a 50)), (1, .int x1), (2, .int x2), (4, .int x4)] [] := by
  have hC0 := hC
  obtain ⟨hx, hb, hr, hml, hown, hts, hlocks, hA, hN, hK⟩ := hC0
  intro H locs ls hP hD hS hl
  have hD0 : ∀ σ1 : ST, va_D A (wA a k σ1) := fun σ1 => wA_D hD
  unfold f_X7_link_39 at h
  refine lv_aload_n hx hb dX7_link_39 rfl (lv_at hl 0 rfl) ?_
  refine va_get (D := (dC, dI)) (ci := 7) (C := RX7) (T := TX7) (N := 13) hx hb hts inlX7 hown hK hP 50 gA_50 rfl 8 (by decide) (hts (.fieldLink RX7 39 "ShapeReader$Tree" "firsts" "[I") mw_18_9) (fun _ h9 => h9) rfl dX7_link_40 ?_
  refine lv_iload_n hx hb dX7_link_43 rfl (lv_at hl 2 rfl) ?_
  obtain ⟨hg1, h⟩ := ig h
  refine va_iald hx hb hK hP 57 48 gA_57 yA_57 (vp_in_iff.mpr hg1) dX7_link_44 ?_
  refine lv_istore (lv' := [(5, .int (σ.1 57 x2.toNatClampNeg)), (0, .ref (a 50)), (1, .int x1), (2, .int x2), (4, .int x4)]) hx hb dX7_link_45 hl (by decide) rfl (fun ls hl => ?_)
  refine lv_iconst (v := 0) hx hb dX7_link_47 (by decide) ?_
  refine lv_istore (lv' := [(6, .int 0), (5, .int (σ.1 57 x2.toNatClampNeg)), (0, .ref (a 50)), (1, .int x1), (2, .int x2), (4, .int x4)]) hx hb dX7_link_48 hl (by decide) rfl (fun ls hl => ?_)
  exact b_X7_link_50_50 hC FU _ _ _ _ _ _ h _ _ _ hP hD hS (lv_sub hl [2, 3, 4, 5, 1, 0] rfl)

set_option maxRecDepth 100000 in
set_option maxHeartbeats 4000000 in
theorem b_X7_link_e_50 {p : Program} {l : Launch} {e : Env} {s : State} {m : MethodId} {args : Array Value} {below : List Frame} {meth : Method} {c : Code} {dC : Nat → ClassId} {dI : Nat → Nat → Nat} {a : Nat → Nat} {k : Nat → ClassId} {A : Nat → Prop} {q : ST} (hC : CxA p s m args meth c dC dI k A cX7_link RX7 none 7)   {p0 : Int32} {p1 : Int32} {σ : ST} (h : f_X7_link 50 p0 p1 σ = some q) : GoA p l e ({ frames := 1, cells := 0, slots := 0, locals := 21 } : Room) s m args below meth c (MQ below (qAv dC dI a k A q) args s 0 0 A) dC dI a k A 7 0 σ (lv_args 0 [.ref (a 50), .int p0, .int p1]) [] := by
  have hC0 := hC
  obtain ⟨hx, hb, hr, hml, hown, hts, hlocks, hA, hN, hK⟩ := hC0
  intro H locs ls hP hD hS hl
  have hD0 : ∀ σ1 : ST, va_D A (wA a k σ1) := fun σ1 => wA_D hD
  replace hl : lv_has ls 7 [(0, .ref (a 50)), (1, .int p0), (2, .int p1)] := hl
  unfold f_X7_link at h
  refine lv_aload_n hx hb dX7_link_0 rfl (lv_at hl 0 rfl) ?_
  refine va_get (D := (dC, dI)) (ci := 7) (C := RX7) (T := TX7) (N := 13) hx hb hts inlX7 hown hK hP 50 gA_50 rfl 9 (by decide) (hts (.fieldLink RX7 42 "ShapeReader$Tree" "lasts" "[I") mw_18_10) (fun _ h9 => h9) rfl dX7_link_1 ?_
  refine lv_iload_n hx hb dX7_link_4 rfl (lv_at hl 2 rfl) ?_
  obtain ⟨hg1, h⟩ := ig h
  refine va_iald hx hb hK hP 58 49 gA_58 yA_58 (vp_in_iff.mpr hg1) dX7_link_5 ?_
  refine lv_istore_n (lv' := [(3, .int (σ.1 58 p1.toNatClampNeg)), (0, .ref (a 50)), (1, .int p0), (2, .int p1)]) hx hb dX7_link_6 rfl hl (by decide) rfl (fun ls hl => ?_)
  refine lv_iconst (v := (-1)) hx hb dX7_link_7 (by decide) ?_
  refine lv_istore (lv' := [(4, .int (-1)), (3, .int (σ.1 58 p1.toNatClampNeg)), (0, .ref (a 50)), (1, .int p0), (2, .int p1)]) hx hb dX7_link_8 hl (by decide) rfl (fun ls hl => ?_)
  refine lv_aload_n hx hb dX7_link_10 rfl (lv_at hl 2 rfl) ?_
  refine lv_iload_n hx hb dX7_link_11 rfl (lv_at hl 1 rfl) ?_
  obtain ⟨q2, hc, h⟩ := ib h
  have hF := va_frees hD hS hA
  refine va_calli (va_runV (As := [.int (σ.1 58 p1.toNatClampNeg)]) (rest := []) ⟨hx, hb, hml, hown, hts⟩ (s_X7_isRow_50 hc) (cwV 1 hts (gV mw_18_14 mw_18_15 mw_18_16 mw_0_11 mw_51_24) rfl rfl rfl (by decide +kernel) ⟨(Nat.le_of_ble_eq_true rfl), (Nat.le_of_ble_eq_true rfl)⟩) (vV (ci := 7) (q0 := 50) hK hP hD hN rfl gA_50) rfl rfl hl.1 rfl (lv_room (Nat.le_of_ble_eq_true rfl)) dX7_link_12 ⟨(Nat.le_of_ble_eq_true rfl), (Nat.le_of_ble_eq_true rfl)⟩) hS (fun q _ h => hF q h) hF (fun r3 u t H locs ht hvm hw hB _ _ hS => ?_)
  obtain rfl : r3 = q2.1 := hw
  replace hP : va_P (dC, dI) vwCl (wA a k q2.2) H := by rw [← ht]; exact hB.1
  replace hD := hD0 (q2.2)
  clear hB hF
  refine lv_if_eq (tgt := 39) hx hb dX7_link_15 (by decide) (fun hc => ?_) (fun hc => ?_)
  · replace h := ip hc h
    exact b_X7_link_39_50 hC h _ _ _ hP hD hS (lv_sub hl [2, 3, 4, 0] rfl)
  · replace h := iq hc h
    refine lv_aload_n hx hb dX7_link_18 rfl (lv_at hl 2 rfl) ?_
    refine va_get (D := (dC, dI)) (ci := 7) (C := RX7) (T := TX7) (N := 13) hx hb hts inlX7 hown hK hP 50 gA_50 rfl 4 (by decide) (hts (.fieldLink RX7 25 "ShapeReader$Tree" "places" "[I") mw_18_5) (fun _ h9 => h9) rfl dX7_link_19 ?_
    refine lv_iload_n hx hb dX7_link_22 rfl (lv_at hl 1 rfl) ?_
    obtain ⟨hg4, h⟩ := ig h
    refine va_iald hx hb hK hP 53 44 gA_53 yA_53 (vp_in_iff.mpr hg4) dX7_link_23 ?_
    refine lv_aload_n hx hb dX7_link_24 rfl (lv_at hl 2 rfl) ?_
    refine va_get (D := (dC, dI)) (ci := 7) (C := RX7) (T := TX7) (N := 13) hx hb hts inlX7 hown hK hP 50 gA_50 rfl 4 (by decide) (hts (.fieldLink RX7 25 "ShapeReader$Tree" "places" "[I") mw_18_5) (fun _ h9 => h9) rfl dX7_link_25 ?_
    refine lv_iload_n hx hb dX7_link_28 rfl (lv_at hl 3 rfl) ?_
    obtain ⟨hg5, h⟩ := ig h
    refine va_iald hx hb hK hP 53 44 gA_53 yA_53 (vp_in_iff.mpr hg5) dX7_link_29 ?_
    refine lv_icmp_ge (tgt := 39) hx hb dX7_link_30 (by decide) (fun hc => ?_) (fun hc => ?_)
    · replace h := ip hc h
      exact b_X7_link_39_50 hC h _ _ _ hP hD hS (lv_sub hl [2, 3, 4, 0] rfl)
    · replace h := iq hc h
      refine lv_iload_n hx hb dX7_link_33 rfl (lv_at hl 1 rfl) ?_
      refine lv_istore (lv' := [(4, .int (σ.1 58 p1.toNatClampNeg)), (3, .int (σ.1 58 p1.toNatClampNeg)), (0, .ref (a 50)), (1, .int p0), (2, .int p1)]) hx hb dX7_link_34 hl (by decide) rfl (fun ls hl => ?_)
      refine lv_goto (tgt := 103) hx hb dX7_link_36 (by decide) ?_
      exact b_X7_link_103_50 hC h _ _ _ hP hD hS (lv_sub hl [2, 3, 4, 0] rfl)

theorem s_X7_link_50 {l : Launch} {dC : Nat → ClassId} {dI : Nat → Nat → Nat} {a : Nat → Nat} {k : Nat → ClassId} {sz : Nat} {p0 : Int32} {p1 : Int32} {σ : ST} {q : ST} (h : f_X7_link 50 p0 p1 σ = some q) : Met l yX7_link (.code yX7_link cX7_link 7 none :: pw) ({ frames := 1, cells := 0, slots := 0, locals := 21 } : Room) (va_Pc [.ref (a 50), .int p0, .int p1] (vPre dC dI (wA a k σ) (tA k) sz)) (qAv dC dI a k (va_A (wA a k σ) sz) q) 0 0 (va_A (wA a k σ) sz) := metA (fun A => qAv dC dI a k A q) (plainFor_of_name (by decide)) (Nat.le_of_ble_eq_true rfl) (fun _ _ _ _ _ _ _ _ hC => b_X7_link_e_50 hC h)

set_option maxRecDepth 100000 in
set_option maxHeartbeats 4000000 in
theorem b_X7_link_155_62 {p : Program} {l : Launch} {e : Env} {s : State} {m : MethodId} {args : Array Value} {below : List Frame} {meth : Method} {c : Code} {dC : Nat → ClassId} {dI : Nat → Nat → Nat} {a : Nat → Nat} {k : Nat → ClassId} {A : Nat → Prop} {q : ST} (hC : CxA p s m args meth c dC dI k A cX7_link RX7 none 7)   {x1 : Int32} {x2 : Int32} {σ : ST} (h : f_X7_link_155 62 x1 x2 σ = some q) : GoA p l e ({ frames := 1, cells := 0, slots := 0, locals := 21 } : Room) s m args below meth c (MQ below (qAv dC dI a k A q) args s 0 0 A) dC dI a k A 7 155 σ [(0, .ref (a 62)), (1, .int x1), (2, .int x2)] [] := by
  have hC0 := hC
  obtain ⟨hx, hb, hr, hml, hown, hts, hlocks, hA, hN, hK⟩ := hC0
  intro H locs ls hP hD hS hl
  have hD0 : ∀ σ1 : ST, va_D A (wA a k σ1) := fun σ1 => wA_D hD
  unfold f_X7_link_155 at h
  refine lv_aload_n hx hb dX7_link_155 rfl (lv_at hl 0 rfl) ?_
  refine va_get (D := (dC, dI)) (ci := 7) (C := RX7) (T := TX7) (N := 13) hx hb hts inlX7 hown hK hP 62 gA_62 rfl 10 (by decide) (hts (.fieldLink RX7 45 "ShapeReader$Tree" "nexts" "[I") mw_18_11) (fun _ h9 => h9) rfl dX7_link_156 ?_
  refine lv_iload_n hx hb dX7_link_159 rfl (lv_at hl 1 rfl) ?_
  obtain ⟨hg1, h⟩ := ig h
  refine va_iald hx hb hK hP 71 61 gA_71 yA_71 (vp_in_iff.mpr hg1) dX7_link_160 ?_
  refine lv_iconst (v := (-1)) hx hb dX7_link_161 (by decide) ?_
  refine lv_icmp_ne (tgt := 172) hx hb dX7_link_162 (by decide) (fun hc => ?_) (fun hc => ?_)
  · replace h := iq hc h
    obtain rfl := Option.some.inj h
    exact W.vret hx hb hr (fun t ht hW => ⟨⟨(), rfl, trivial, ⟨by rw [ht]; exact hP, va_K.moved hW.alike hK, hD⟩⟩, hS.F ht⟩) hS.2.2 dX7_link_172
  · replace h := ip hc h
    refine lv_aload_n hx hb dX7_link_165 rfl (lv_at hl 0 rfl) ?_
    refine va_get (D := (dC, dI)) (ci := 7) (C := RX7) (T := TX7) (N := 13) hx hb hts inlX7 hown hK hP 62 gA_62 rfl 9 (by decide) (hts (.fieldLink RX7 42 "ShapeReader$Tree" "lasts" "[I") mw_18_10) (fun _ h9 => h9) rfl dX7_link_166 ?_
    refine lv_iload_n hx hb dX7_link_169 rfl (lv_at hl 2 rfl) ?_
    refine lv_iload_n hx hb dX7_link_170 rfl (lv_at hl 1 rfl) ?_
    obtain ⟨hg2, h⟩ := ig h
    refine va_iast hx hb hK hP hD hS 70 60 gA_70 yA_70 (vp_in_iff.mpr hg2) dX7_link_171 (fun H locs hP hD hS => ?_)
    replace hP := uA_70 hP
    replace hD := hD0 ((stI σ 70 x2.toNatClampNeg x1))
    obtain rfl := Option.some.inj h
    exact W.vret hx hb hr (fun t ht hW => ⟨⟨(), rfl, trivial, ⟨by rw [ht]; exact hP, va_K.moved hW.alike hK, hD⟩⟩, hS.F ht⟩) hS.2.2 dX7_link_172

set_option maxRecDepth 100000 in
set_option maxHeartbeats 4000000 in
theorem b_X7_link_103_62 {p : Program} {l : Launch} {e : Env} {s : State} {m : MethodId} {args : Array Value} {below : List Frame} {meth : Method} {c : Code} {dC : Nat → ClassId} {dI : Nat → Nat → Nat} {a : Nat → Nat} {k : Nat → ClassId} {A : Nat → Prop} {q : ST} (hC : CxA p s m args meth c dC dI k A cX7_link RX7 none 7)   {x1 : Int32} {x2 : Int32} {x4 : Int32} {σ : ST} (h : f_X7_link_103 62 x1 x2 x4 σ = some q) : GoA p l e ({ frames := 1, cells := 0, slots := 0, locals := 21 } : Room) s m args below meth c (MQ below (qAv dC dI a k A q) args s 0 0 A) dC dI a k A 7 103 σ [(0, .ref (a 62)), (1, .int x1), (2, .int x2), (4, .int x4)] [] := by
  have hC0 := hC
  obtain ⟨hx, hb, hr, hml, hown, hts, hlocks, hA, hN, hK⟩ := hC0
  intro H locs ls hP hD hS hl
  have hD0 : ∀ σ1 : ST, va_D A (wA a k σ1) := fun σ1 => wA_D hD
  unfold f_X7_link_103 at h
  refine lv_aload_n hx hb dX7_link_103 rfl (lv_at hl 0 rfl) ?_
  refine lv_iload hx hb dX7_link_104 (lv_at hl 3 rfl) ?_
  obtain ⟨q1, hc, h⟩ := ib h
  have hF := va_frees hD hS hA
  refine va_calli (va_runV (As := [.int x4]) (rest := []) ⟨hx, hb, hml, hown, hts⟩ (s_X7_isRow_62 hc) (cwV 1 hts (gV mw_18_14 mw_18_15 mw_18_16 mw_0_11 mw_51_24) rfl rfl rfl (by decide +kernel) ⟨(Nat.le_of_ble_eq_true rfl), (Nat.le_of_ble_eq_true rfl)⟩) (vV (ci := 7) (q0 := 62) hK hP hD hN rfl gA_62) rfl rfl hl.1 rfl (lv_room (Nat.le_of_ble_eq_true rfl)) dX7_link_106 ⟨(Nat.le_of_ble_eq_true rfl), (Nat.le_of_ble_eq_true rfl)⟩) hS (fun q _ h => hF q h) hF (fun r2 u t H locs ht hvm hw hB _ _ hS => ?_)
  obtain rfl : r2 = q1.1 := hw
  replace hP : va_P (dC, dI) vwCl (wA a k q1.2) H := by rw [← ht]; exact hB.1
  replace hD := hD0 (q1.2)
  clear hB hF
  refine lv_if_eq (tgt := 136) hx hb dX7_link_109 (by decide) (fun hc => ?_) (fun hc => ?_)
  · replace h := ip hc h
    refine lv_aload_n hx hb dX7_link_136 rfl (lv_at hl 0 rfl) ?_
    refine va_get (D := (dC, dI)) (ci := 7) (C := RX7) (T := TX7) (N := 13) hx hb hts inlX7 hown hK hP 62 gA_62 rfl 10 (by decide) (hts (.fieldLink RX7 45 "ShapeReader$Tree" "nexts" "[I") mw_18_11) (fun _ h9 => h9) rfl dX7_link_137 ?_
    refine lv_iload_n hx hb dX7_link_140 rfl (lv_at hl 1 rfl) ?_
    refine lv_aload_n hx hb dX7_link_141 rfl (lv_at hl 0 rfl) ?_
    refine va_get (D := (dC, dI)) (ci := 7) (C := RX7) (T := TX7) (N := 13) hx hb hts inlX7 hown hK hP 62 gA_62 rfl 8 (by decide) (hts (.fieldLink RX7 39 "ShapeReader$Tree" "firsts" "[I") mw_18_9) (fun _ h9 => h9) rfl dX7_link_142 ?_
    refine lv_iload_n hx hb dX7_link_145 rfl (lv_at hl 2 rfl) ?_
    obtain ⟨hg3, h⟩ := ig h
    refine va_iald hx hb hK hP 69 59 gA_69 yA_69 (vp_in_iff.mpr hg3) dX7_link_146 ?_
    obtain ⟨hg4, h⟩ := ig h
    refine va_iast hx hb hK hP hD hS 71 61 gA_71 yA_71 (vp_in_iff.mpr hg4) dX7_link_147 (fun H locs hP hD hS => ?_)
    replace hP := uA_71 hP
    replace hD := hD0 ((stI q1.2 71 x1.toNatClampNeg (q1.2.1 69 x2.toNatClampNeg)))
    refine lv_aload_n hx hb dX7_link_148 rfl (lv_at hl 0 rfl) ?_
    refine va_get (D := (dC, dI)) (ci := 7) (C := RX7) (T := TX7) (N := 13) hx hb hts inlX7 hown hK hP 62 gA_62 rfl 8 (by decide) (hts (.fieldLink RX7 39 "ShapeReader$Tree" "firsts" "[I") mw_18_9) (fun _ h9 => h9) rfl dX7_link_149 ?_
    refine lv_iload_n hx hb dX7_link_152 rfl (lv_at hl 2 rfl) ?_
    refine lv_iload_n hx hb dX7_link_153 rfl (lv_at hl 1 rfl) ?_
    refine va_iast hx hb hK hP hD hS 69 59 gA_69 yA_69 (vp_in_iff.mpr hg3) dX7_link_154 (fun H locs hP hD hS => ?_)
    replace hP := uA_69 hP
    replace hD := hD0 ((stI (stI q1.2 71 x1.toNatClampNeg (q1.2.1 69 x2.toNatClampNeg)) 69 x2.toNatClampNeg x1))
    obtain ⟨z5, hs, h⟩ := ib h
    replace hs := Option.some.inj hs
    replace hP : va_P (dC, dI) vwCl (wA a k z5) H := by rw [← hs]; exact hP
    replace hD := hD0 z5
    clear hs
    exact b_X7_link_155_62 hC h _ _ _ hP hD hS (lv_sub hl [0, 1, 2] rfl)
  · replace h := iq hc h
    refine lv_aload_n hx hb dX7_link_112 rfl (lv_at hl 0 rfl) ?_
    refine va_get (D := (dC, dI)) (ci := 7) (C := RX7) (T := TX7) (N := 13) hx hb hts inlX7 hown hK hP 62 gA_62 rfl 10 (by decide) (hts (.fieldLink RX7 45 "ShapeReader$Tree" "nexts" "[I") mw_18_11) (fun _ h9 => h9) rfl dX7_link_113 ?_
    refine lv_iload_n hx hb dX7_link_116 rfl (lv_at hl 1 rfl) ?_
    refine lv_aload_n hx hb dX7_link_117 rfl (lv_at hl 0 rfl) ?_
    refine va_get (D := (dC, dI)) (ci := 7) (C := RX7) (T := TX7) (N := 13) hx hb hts inlX7 hown hK hP 62 gA_62 rfl 10 (by decide) (hts (.fieldLink RX7 45 "ShapeReader$Tree" "nexts" "[I") mw_18_11) (fun _ h9 => h9) rfl dX7_link_118 ?_
    refine lv_iload hx hb dX7_link_121 (lv_at hl 3 rfl) ?_
    obtain ⟨hg6, h⟩ := ig h
    refine va_iald hx hb hK hP 71 61 gA_71 yA_71 (vp_in_iff.mpr hg6) dX7_link_123 ?_
    obtain ⟨hg7, h⟩ := ig h
    refine va_iast hx hb hK hP hD hS 71 61 gA_71 yA_71 (vp_in_iff.mpr hg7) dX7_link_124 (fun H locs hP hD hS => ?_)
    replace hP := uA_71 hP
    replace hD := hD0 ((stI q1.2 71 x1.toNatClampNeg (q1.2.1 71 x4.toNatClampNeg)))
    refine lv_aload_n hx hb dX7_link_125 rfl (lv_at hl 0 rfl) ?_
    refine va_get (D := (dC, dI)) (ci := 7) (C := RX7) (T := TX7) (N := 13) hx hb hts inlX7 hown hK hP 62 gA_62 rfl 10 (by decide) (hts (.fieldLink RX7 45 "ShapeReader$Tree" "nexts" "[I") mw_18_11) (fun _ h9 => h9) rfl dX7_link_126 ?_
    refine lv_iload hx hb dX7_link_129 (lv_at hl 3 rfl) ?_
    refine lv_iload_n hx hb dX7_link_131 rfl (lv_at hl 1 rfl) ?_
    refine va_iast hx hb hK hP hD hS 71 61 gA_71 yA_71 (vp_in_iff.mpr hg6) dX7_link_132 (fun H locs hP hD hS => ?_)
    replace hP := uA_71 hP
    replace hD := hD0 ((stI (stI q1.2 71 x1.toNatClampNeg (q1.2.1 71 x4.toNatClampNeg)) 71 x4.toNatClampNeg x1))
    obtain ⟨z8, hs, h⟩ := ib h
    replace hs := Option.some.inj hs
    replace hP : va_P (dC, dI) vwCl (wA a k z8) H := by rw [← hs]; exact hP
    replace hD := hD0 z8
    clear hs
    refine lv_goto (tgt := 155) hx hb dX7_link_133 (by decide) ?_
    exact b_X7_link_155_62 hC h _ _ _ hP hD hS (lv_sub hl [0, 1, 2] rfl)

set_option maxRecDepth 100000 in
set_option maxHeartbeats 4000000 in
theorem b_X7_link_50_62 {p : Program} {l : Launch} {e : Env} {s : State} {m : MethodId} {args : Array Value} {below : List Frame} {meth : Method} {c : Code} {dC : Nat → ClassId} {dI : Nat → Nat → Nat} {a : Nat → Nat} {k : Nat → ClassId} {A : Nat → Prop} {q : ST} (hC : CxA p s m args meth c dC dI k A cX7_link RX7 none 7)   : ∀ (n : Nat) (x1 : Int32) (x2 : Int32) (x4 : Int32) (x5 : Int32) (x6 : Int32) (σ : ST), f_X7_link_50 62 n x1 x2 x4 x5 x6 σ = some q → GoA p l e ({ frames := 1, cells := 0, slots := 0, locals := 21 } : Room) s m args below meth c (MQ below (qAv dC dI a k A q) args s 0 0 A) dC dI a k A 7 50 σ [(0, .ref (a 62)), (1, .int x1), (2, .int x2), (4, .int x4), (5, .int x5), (6, .int x6)] [] := by
  intro n
  induction n with
  | zero =>
    intro x1 x2 x4 x5 x6 σ h
    rw [f_X7_link_50] at h
    cases h
  | succ n ih =>
    intro x1 x2 x4 x5 x6 σ h
    have hC0 := hC
    obtain ⟨hx, hb, hr, hml, hown, hts, hlocks, hA, hN, hK⟩ := hC0
    intro H locs ls hP hD hS hl
    have hD0 : ∀ σ1 : ST, va_D A (wA a k σ1) := fun σ1 => wA_D hD
    rw [f_X7_link_50] at h
    refine lv_iload hx hb dX7_link_50 (lv_at hl 5 rfl) ?_
    refine lv_aload_n hx hb dX7_link_52 rfl (lv_at hl 0 rfl) ?_
    refine va_get (D := (dC, dI)) (ci := 7) (C := RX7) (T := TX7) (N := 13) hx hb hts inlX7 hown hK hP 62 gA_62 rfl 1 (by decide) (hts (.fieldLink RX7 9 "ShapeReader$Tree" "size" "I") mw_18_1) (fun _ h9 => h9) rfl dX7_link_53 ?_
    refine lv_icmp_ge (tgt := 103) hx hb dX7_link_56 (by decide) (fun hc => ?_) (fun hc => ?_)
    · replace h := ip hc h
      exact b_X7_link_103_62 hC h _ _ _ hP hD hS (lv_sub hl [0, 1, 2, 3] rfl)
    · replace h := iq hc h
      refine lv_aload_n hx hb dX7_link_59 rfl (lv_at hl 0 rfl) ?_
      refine lv_iload hx hb dX7_link_60 (lv_at hl 4 rfl) ?_
      obtain ⟨q1, hc, h⟩ := ib h
      have hF := va_frees hD hS hA
      refine va_calli (va_runV (As := [.int x5]) (rest := []) ⟨hx, hb, hml, hown, hts⟩ (s_X7_isRow_62 hc) (cwV 1 hts (gV mw_18_14 mw_18_15 mw_18_16 mw_0_11 mw_51_24) rfl rfl rfl (by decide +kernel) ⟨(Nat.le_of_ble_eq_true rfl), (Nat.le_of_ble_eq_true rfl)⟩) (vV (ci := 7) (q0 := 62) hK hP hD hN rfl gA_62) rfl rfl hl.1 rfl (lv_room (Nat.le_of_ble_eq_true rfl)) dX7_link_62 ⟨(Nat.le_of_ble_eq_true rfl), (Nat.le_of_ble_eq_true rfl)⟩) hS (fun q _ h => hF q h) hF (fun r2 u t H locs ht hvm hw hB _ _ hS => ?_)
      obtain rfl : r2 = q1.1 := hw
      replace hP : va_P (dC, dI) vwCl (wA a k q1.2) H := by rw [← ht]; exact hB.1
      replace hD := hD0 (q1.2)
      clear hB hF
      refine lv_if_eq (tgt := 103) hx hb dX7_link_65 (by decide) (fun hc => ?_) (fun hc => ?_)
      · replace h := ip hc h
        exact b_X7_link_103_62 hC h _ _ _ hP hD hS (lv_sub hl [0, 1, 2, 3] rfl)
      · replace h := iq hc h
        refine lv_aload_n hx hb dX7_link_68 rfl (lv_at hl 0 rfl) ?_
        refine va_get (D := (dC, dI)) (ci := 7) (C := RX7) (T := TX7) (N := 13) hx hb hts inlX7 hown hK hP 62 gA_62 rfl 4 (by decide) (hts (.fieldLink RX7 25 "ShapeReader$Tree" "places" "[I") mw_18_5) (fun _ h9 => h9) rfl dX7_link_69 ?_
        refine lv_iload hx hb dX7_link_72 (lv_at hl 4 rfl) ?_
        obtain ⟨hg3, h⟩ := ig h
        refine va_iald hx hb hK hP 65 55 gA_65 yA_65 (vp_in_iff.mpr hg3) dX7_link_74 ?_
        refine lv_aload_n hx hb dX7_link_75 rfl (lv_at hl 0 rfl) ?_
        refine va_get (D := (dC, dI)) (ci := 7) (C := RX7) (T := TX7) (N := 13) hx hb hts inlX7 hown hK hP 62 gA_62 rfl 4 (by decide) (hts (.fieldLink RX7 25 "ShapeReader$Tree" "places" "[I") mw_18_5) (fun _ h9 => h9) rfl dX7_link_76 ?_
        refine lv_iload_n hx hb dX7_link_79 rfl (lv_at hl 1 rfl) ?_
        obtain ⟨hg4, h⟩ := ig h
        refine va_iald hx hb hK hP 65 55 gA_65 yA_65 (vp_in_iff.mpr hg4) dX7_link_80 ?_
        refine lv_icmp_ge (tgt := 103) hx hb dX7_link_81 (by decide) (fun hc => ?_) (fun hc => ?_)
        · replace h := ip hc h
          exact b_X7_link_103_62 hC h _ _ _ hP hD hS (lv_sub hl [0, 1, 2, 3] rfl)
        · replace h := iq hc h
          refine lv_iload hx hb dX7_link_84 (lv_at hl 4 rfl) ?_
          refine lv_istore (lv' := [(4, .int x5), (0, .ref (a 62)), (1, .int x1), (2, .int x2), (5, .int x5), (6, .int x6)]) hx hb dX7_link_86 hl (by decide) rfl (fun ls hl => ?_)
          refine lv_aload_n hx hb dX7_link_88 rfl (lv_at hl 1 rfl) ?_
          refine va_get (D := (dC, dI)) (ci := 7) (C := RX7) (T := TX7) (N := 13) hx hb hts inlX7 hown hK hP 62 gA_62 rfl 10 (by decide) (hts (.fieldLink RX7 45 "ShapeReader$Tree" "nexts" "[I") mw_18_11) (fun _ h9 => h9) rfl dX7_link_89 ?_
          refine lv_iload hx hb dX7_link_92 (lv_at hl 4 rfl) ?_
          refine va_iald hx hb hK hP 71 61 gA_71 yA_71 (vp_in_iff.mpr hg3) dX7_link_94 ?_
          refine lv_istore (lv' := [(5, .int (q1.2.1 71 x5.toNatClampNeg)), (4, .int x5), (0, .ref (a 62)), (1, .int x1), (2, .int x2), (6, .int x6)]) hx hb dX7_link_95 hl (by decide) rfl (fun ls hl => ?_)
          refine lv_iinc (v := (x6 + 1)) (lv' := [(6, .int (x6 + 1)), (5, .int (q1.2.1 71 x5.toNatClampNeg)), (4, .int x5), (0, .ref (a 62)), (1, .int x1), (2, .int x2)]) hx hb dX7_link_97 hl (k := 5) rfl rfl (by decide) rfl (fun ls hl => ?_)
          refine lv_goto (tgt := 50) hx hb dX7_link_100 (by decide) ?_
          exact ih _ _ _ _ _ _ h _ _ _ hP hD hS (lv_sub hl [3, 4, 5, 2, 1, 0] rfl)

set_option maxRecDepth 100000 in
set_option maxHeartbeats 4000000 in
theorem b_X7_link_39_62 {p : Program} {l : Launch} {e : Env} {s : State} {m : MethodId} {args : Array Value} {below : List Frame} {meth : Method} {c : Code} {dC : Nat → ClassId} {dI : Nat → Nat → Nat} {a : Nat → Nat} {k : Nat → ClassId} {A : Nat → Prop} {q : ST} (hC : CxA p s m args meth c dC dI k A cX7_link RX7 none 7)   {x1 : Int32} {x2 : Int32} {x4 : Int32} {σ : ST} (h : f_X7_link_39 62 x1 x2 x4 σ = some q) : GoA p l e ({ frames := 1, cells := 0, slots := 0, locals := 21 } : Room) s m args below meth c (MQ below (qAv dC dI a k A q) args s 0 0 A) dC dI a k A 7 39 σ [(0, .ref (a 62)), (1, .int x1), (2, .int x2), (4, .int x4)] [] := by
  have hC0 := hC
  obtain ⟨hx, hb, hr, hml, hown, hts, hlocks, hA, hN, hK⟩ := hC0
  intro H locs ls hP hD hS hl
  have hD0 : ∀ σ1 : ST, va_D A (wA a k σ1) := fun σ1 => wA_D hD
  unfold f_X7_link_39 at h
  refine lv_aload_n hx hb dX7_link_39 rfl (lv_at hl 0 rfl) ?_
  refine va_get (D := (dC, dI)) (ci := 7) (C := RX7) (T := TX7) (N := 13) hx hb hts inlX7 hown hK hP 62 gA_62 rfl 8 (by decide) (hts (.fieldLink RX7 39 "ShapeReader$Tree" "firsts" "[I") mw_18_9) (fun _ h9 => h9) rfl dX7_link_40 ?_
  refine lv_iload_n hx hb dX7_link_43 rfl (lv_at hl 2 rfl) ?_
  obtain ⟨hg1, h⟩ := ig h
  refine va_iald hx hb hK hP 69 59 gA_69 yA_69 (vp_in_iff.mpr hg1) dX7_link_44 ?_
  refine lv_istore (lv' := [(5, .int (σ.1 69 x2.toNatClampNeg)), (0, .ref (a 62)), (1, .int x1), (2, .int x2), (4, .int x4)]) hx hb dX7_link_45 hl (by decide) rfl (fun ls hl => ?_)
  refine lv_iconst (v := 0) hx hb dX7_link_47 (by decide) ?_
  refine lv_istore (lv' := [(6, .int 0), (5, .int (σ.1 69 x2.toNatClampNeg)), (0, .ref (a 62)), (1, .int x1), (2, .int x2), (4, .int x4)]) hx hb dX7_link_48 hl (by decide) rfl (fun ls hl => ?_)
  exact b_X7_link_50_62 hC FU _ _ _ _ _ _ h _ _ _ hP hD hS (lv_sub hl [2, 3, 4, 5, 1, 0] rfl)

set_option maxRecDepth 100000 in
set_option maxHeartbeats 4000000 in
theorem b_X7_link_e_62 {p : Program} {l : Launch} {e : Env} {s : State} {m : MethodId} {args : Array Value} {below : List Frame} {meth : Method} {c : Code} {dC : Nat → ClassId} {dI : Nat → Nat → Nat} {a : Nat → Nat} {k : Nat → ClassId} {A : Nat → Prop} {q : ST} (hC : CxA p s m args meth c dC dI k A cX7_link RX7 none 7)   {p0 : Int32} {p1 : Int32} {σ : ST} (h : f_X7_link 62 p0 p1 σ = some q) : GoA p l e ({ frames := 1, cells := 0, slots := 0, locals := 21 } : Room) s m args below meth c (MQ below (qAv dC dI a k A q) args s 0 0 A) dC dI a k A 7 0 σ (lv_args 0 [.ref (a 62), .int p0, .int p1]) [] := by
  have hC0 := hC
  obtain ⟨hx, hb, hr, hml, hown, hts, hlocks, hA, hN, hK⟩ := hC0
  intro H locs ls hP hD hS hl
  have hD0 : ∀ σ1 : ST, va_D A (wA a k σ1) := fun σ1 => wA_D hD
  replace hl : lv_has ls 7 [(0, .ref (a 62)), (1, .int p0), (2, .int p1)] := hl
  unfold f_X7_link at h
  refine lv_aload_n hx hb dX7_link_0 rfl (lv_at hl 0 rfl) ?_
  refine va_get (D := (dC, dI)) (ci := 7) (C := RX7) (T := TX7) (N := 13) hx hb hts inlX7 hown hK hP 62 gA_62 rfl 9 (by decide) (hts (.fieldLink RX7 42 "ShapeReader$Tree" "lasts" "[I") mw_18_10) (fun _ h9 => h9) rfl dX7_link_1 ?_
  refine lv_iload_n hx hb dX7_link_4 rfl (lv_at hl 2 rfl) ?_
  obtain ⟨hg1, h⟩ := ig h
  refine va_iald hx hb hK hP 70 60 gA_70 yA_70 (vp_in_iff.mpr hg1) dX7_link_5 ?_
  refine lv_istore_n (lv' := [(3, .int (σ.1 70 p1.toNatClampNeg)), (0, .ref (a 62)), (1, .int p0), (2, .int p1)]) hx hb dX7_link_6 rfl hl (by decide) rfl (fun ls hl => ?_)
  refine lv_iconst (v := (-1)) hx hb dX7_link_7 (by decide) ?_
  refine lv_istore (lv' := [(4, .int (-1)), (3, .int (σ.1 70 p1.toNatClampNeg)), (0, .ref (a 62)), (1, .int p0), (2, .int p1)]) hx hb dX7_link_8 hl (by decide) rfl (fun ls hl => ?_)
  refine lv_aload_n hx hb dX7_link_10 rfl (lv_at hl 2 rfl) ?_
  refine lv_iload_n hx hb dX7_link_11 rfl (lv_at hl 1 rfl) ?_
  obtain ⟨q2, hc, h⟩ := ib h
  have hF := va_frees hD hS hA
  refine va_calli (va_runV (As := [.int (σ.1 70 p1.toNatClampNeg)]) (rest := []) ⟨hx, hb, hml, hown, hts⟩ (s_X7_isRow_62 hc) (cwV 1 hts (gV mw_18_14 mw_18_15 mw_18_16 mw_0_11 mw_51_24) rfl rfl rfl (by decide +kernel) ⟨(Nat.le_of_ble_eq_true rfl), (Nat.le_of_ble_eq_true rfl)⟩) (vV (ci := 7) (q0 := 62) hK hP hD hN rfl gA_62) rfl rfl hl.1 rfl (lv_room (Nat.le_of_ble_eq_true rfl)) dX7_link_12 ⟨(Nat.le_of_ble_eq_true rfl), (Nat.le_of_ble_eq_true rfl)⟩) hS (fun q _ h => hF q h) hF (fun r3 u t H locs ht hvm hw hB _ _ hS => ?_)
  obtain rfl : r3 = q2.1 := hw
  replace hP : va_P (dC, dI) vwCl (wA a k q2.2) H := by rw [← ht]; exact hB.1
  replace hD := hD0 (q2.2)
  clear hB hF
  refine lv_if_eq (tgt := 39) hx hb dX7_link_15 (by decide) (fun hc => ?_) (fun hc => ?_)
  · replace h := ip hc h
    exact b_X7_link_39_62 hC h _ _ _ hP hD hS (lv_sub hl [2, 3, 4, 0] rfl)
  · replace h := iq hc h
    refine lv_aload_n hx hb dX7_link_18 rfl (lv_at hl 2 rfl) ?_
    refine va_get (D := (dC, dI)) (ci := 7) (C := RX7) (T := TX7) (N := 13) hx hb hts inlX7 hown hK hP 62 gA_62 rfl 4 (by decide) (hts (.fieldLink RX7 25 "ShapeReader$Tree" "places" "[I") mw_18_5) (fun _ h9 => h9) rfl dX7_link_19 ?_
    refine lv_iload_n hx hb dX7_link_22 rfl (lv_at hl 1 rfl) ?_
    obtain ⟨hg4, h⟩ := ig h
    refine va_iald hx hb hK hP 65 55 gA_65 yA_65 (vp_in_iff.mpr hg4) dX7_link_23 ?_
    refine lv_aload_n hx hb dX7_link_24 rfl (lv_at hl 2 rfl) ?_
    refine va_get (D := (dC, dI)) (ci := 7) (C := RX7) (T := TX7) (N := 13) hx hb hts inlX7 hown hK hP 62 gA_62 rfl 4 (by decide) (hts (.fieldLink RX7 25 "ShapeReader$Tree" "places" "[I") mw_18_5) (fun _ h9 => h9) rfl dX7_link_25 ?_
    refine lv_iload_n hx hb dX7_link_28 rfl (lv_at hl 3 rfl) ?_
    obtain ⟨hg5, h⟩ := ig h
    refine va_iald hx hb hK hP 65 55 gA_65 yA_65 (vp_in_iff.mpr hg5) dX7_link_29 ?_
    refine lv_icmp_ge (tgt := 39) hx hb dX7_link_30 (by decide) (fun hc => ?_) (fun hc => ?_)
    · replace h := ip hc h
      exact b_X7_link_39_62 hC h _ _ _ hP hD hS (lv_sub hl [2, 3, 4, 0] rfl)
    · replace h := iq hc h
      refine lv_iload_n hx hb dX7_link_33 rfl (lv_at hl 1 rfl) ?_
      refine lv_istore (lv' := [(4, .int (σ.1 70 p1.toNatClampNeg)), (3, .int (σ.1 70 p1.toNatClampNeg)), (0, .ref (a 62)), (1, .int p0), (2, .int p1)]) hx hb dX7_link_34 hl (by decide) rfl (fun ls hl => ?_)
      refine lv_goto (tgt := 103) hx hb dX7_link_36 (by decide) ?_
      exact b_X7_link_103_62 hC h _ _ _ hP hD hS (lv_sub hl [2, 3, 4, 0] rfl)

theorem s_X7_link_62 {l : Launch} {dC : Nat → ClassId} {dI : Nat → Nat → Nat} {a : Nat → Nat} {k : Nat → ClassId} {sz : Nat} {p0 : Int32} {p1 : Int32} {σ : ST} {q : ST} (h : f_X7_link 62 p0 p1 σ = some q) : Met l yX7_link (.code yX7_link cX7_link 7 none :: pw) ({ frames := 1, cells := 0, slots := 0, locals := 21 } : Room) (va_Pc [.ref (a 62), .int p0, .int p1] (vPre dC dI (wA a k σ) (tA k) sz)) (qAv dC dI a k (va_A (wA a k σ) sz) q) 0 0 (va_A (wA a k σ) sz) := metA (fun A => qAv dC dI a k A q) (plainFor_of_name (by decide)) (Nat.le_of_ble_eq_true rfl) (fun _ _ _ _ _ _ _ _ hC => b_X7_link_e_62 hC h)

set_option maxRecDepth 100000 in
set_option maxHeartbeats 4000000 in
theorem b_X7_link_155_74 {p : Program} {l : Launch} {e : Env} {s : State} {m : MethodId} {args : Array Value} {below : List Frame} {meth : Method} {c : Code} {dC : Nat → ClassId} {dI : Nat → Nat → Nat} {a : Nat → Nat} {k : Nat → ClassId} {A : Nat → Prop} {q : ST} (hC : CxA p s m args meth c dC dI k A cX7_link RX7 none 7)   {x1 : Int32} {x2 : Int32} {σ : ST} (h : f_X7_link_155 74 x1 x2 σ = some q) : GoA p l e ({ frames := 1, cells := 0, slots := 0, locals := 21 } : Room) s m args below meth c (MQ below (qAv dC dI a k A q) args s 0 0 A) dC dI a k A 7 155 σ [(0, .ref (a 74)), (1, .int x1), (2, .int x2)] [] := by
  have hC0 := hC
  obtain ⟨hx, hb, hr, hml, hown, hts, hlocks, hA, hN, hK⟩ := hC0
  intro H locs ls hP hD hS hl
  have hD0 : ∀ σ1 : ST, va_D A (wA a k σ1) := fun σ1 => wA_D hD
  unfold f_X7_link_155 at h
  refine lv_aload_n hx hb dX7_link_155 rfl (lv_at hl 0 rfl) ?_
  refine va_get (D := (dC, dI)) (ci := 7) (C := RX7) (T := TX7) (N := 13) hx hb hts inlX7 hown hK hP 74 gA_74 rfl 10 (by decide) (hts (.fieldLink RX7 45 "ShapeReader$Tree" "nexts" "[I") mw_18_11) (fun _ h9 => h9) rfl dX7_link_156 ?_
  refine lv_iload_n hx hb dX7_link_159 rfl (lv_at hl 1 rfl) ?_
  obtain ⟨hg1, h⟩ := ig h
  refine va_iald hx hb hK hP 83 72 gA_83 yA_83 (vp_in_iff.mpr hg1) dX7_link_160 ?_
  refine lv_iconst (v := (-1)) hx hb dX7_link_161 (by decide) ?_
  refine lv_icmp_ne (tgt := 172) hx hb dX7_link_162 (by decide) (fun hc => ?_) (fun hc => ?_)
  · replace h := iq hc h
    obtain rfl := Option.some.inj h
    exact W.vret hx hb hr (fun t ht hW => ⟨⟨(), rfl, trivial, ⟨by rw [ht]; exact hP, va_K.moved hW.alike hK, hD⟩⟩, hS.F ht⟩) hS.2.2 dX7_link_172
  · replace h := ip hc h
    refine lv_aload_n hx hb dX7_link_165 rfl (lv_at hl 0 rfl) ?_
    refine va_get (D := (dC, dI)) (ci := 7) (C := RX7) (T := TX7) (N := 13) hx hb hts inlX7 hown hK hP 74 gA_74 rfl 9 (by decide) (hts (.fieldLink RX7 42 "ShapeReader$Tree" "lasts" "[I") mw_18_10) (fun _ h9 => h9) rfl dX7_link_166 ?_
    refine lv_iload_n hx hb dX7_link_169 rfl (lv_at hl 2 rfl) ?_
    refine lv_iload_n hx hb dX7_link_170 rfl (lv_at hl 1 rfl) ?_
    obtain ⟨hg2, h⟩ := ig h
    refine va_iast hx hb hK hP hD hS 82 71 gA_82 yA_82 (vp_in_iff.mpr hg2) dX7_link_171 (fun H locs hP hD hS => ?_)
    replace hP := uA_82 hP
    replace hD := hD0 ((stI σ 82 x2.toNatClampNeg x1))
    obtain rfl := Option.some.inj h
    exact W.vret hx hb hr (fun t ht hW => ⟨⟨(), rfl, trivial, ⟨by rw [ht]; exact hP, va_K.moved hW.alike hK, hD⟩⟩, hS.F ht⟩) hS.2.2 dX7_link_172

set_option maxRecDepth 100000 in
set_option maxHeartbeats 4000000 in
theorem b_X7_link_103_74 {p : Program} {l : Launch} {e : Env} {s : State} {m : MethodId} {args : Array Value} {below : List Frame} {meth : Method} {c : Code} {dC : Nat → ClassId} {dI : Nat → Nat → Nat} {a : Nat → Nat} {k : Nat → ClassId} {A : Nat → Prop} {q : ST} (hC : CxA p s m args meth c dC dI k A cX7_link RX7 none 7)   {x1 : Int32} {x2 : Int32} {x4 : Int32} {σ : ST} (h : f_X7_link_103 74 x1 x2 x4 σ = some q) : GoA p l e ({ frames := 1, cells := 0, slots := 0, locals := 21 } : Room) s m args below meth c (MQ below (qAv dC dI a k A q) args s 0 0 A) dC dI a k A 7 103 σ [(0, .ref (a 74)), (1, .int x1), (2, .int x2), (4, .int x4)] [] := by
  have hC0 := hC
  obtain ⟨hx, hb, hr, hml, hown, hts, hlocks, hA, hN, hK⟩ := hC0
  intro H locs ls hP hD hS hl
  have hD0 : ∀ σ1 : ST, va_D A (wA a k σ1) := fun σ1 => wA_D hD
  unfold f_X7_link_103 at h
  refine lv_aload_n hx hb dX7_link_103 rfl (lv_at hl 0 rfl) ?_
  refine lv_iload hx hb dX7_link_104 (lv_at hl 3 rfl) ?_
  obtain ⟨q1, hc, h⟩ := ib h
  have hF := va_frees hD hS hA
  refine va_calli (va_runV (As := [.int x4]) (rest := []) ⟨hx, hb, hml, hown, hts⟩ (s_X7_isRow_74 hc) (cwV 1 hts (gV mw_18_14 mw_18_15 mw_18_16 mw_0_11 mw_51_24) rfl rfl rfl (by decide +kernel) ⟨(Nat.le_of_ble_eq_true rfl), (Nat.le_of_ble_eq_true rfl)⟩) (vV (ci := 7) (q0 := 74) hK hP hD hN rfl gA_74) rfl rfl hl.1 rfl (lv_room (Nat.le_of_ble_eq_true rfl)) dX7_link_106 ⟨(Nat.le_of_ble_eq_true rfl), (Nat.le_of_ble_eq_true rfl)⟩) hS (fun q _ h => hF q h) hF (fun r2 u t H locs ht hvm hw hB _ _ hS => ?_)
  obtain rfl : r2 = q1.1 := hw
  replace hP : va_P (dC, dI) vwCl (wA a k q1.2) H := by rw [← ht]; exact hB.1
  replace hD := hD0 (q1.2)
  clear hB hF
  refine lv_if_eq (tgt := 136) hx hb dX7_link_109 (by decide) (fun hc => ?_) (fun hc => ?_)
  · replace h := ip hc h
    refine lv_aload_n hx hb dX7_link_136 rfl (lv_at hl 0 rfl) ?_
    refine va_get (D := (dC, dI)) (ci := 7) (C := RX7) (T := TX7) (N := 13) hx hb hts inlX7 hown hK hP 74 gA_74 rfl 10 (by decide) (hts (.fieldLink RX7 45 "ShapeReader$Tree" "nexts" "[I") mw_18_11) (fun _ h9 => h9) rfl dX7_link_137 ?_
    refine lv_iload_n hx hb dX7_link_140 rfl (lv_at hl 1 rfl) ?_
    refine lv_aload_n hx hb dX7_link_141 rfl (lv_at hl 0 rfl) ?_
    refine va_get (D := (dC, dI)) (ci := 7) (C := RX7) (T := TX7) (N := 13) hx hb hts inlX7 hown hK hP 74 gA_74 rfl 8 (by decide) (hts (.fieldLink RX7 39 "ShapeReader$Tree" "firsts" "[I") mw_18_9) (fun _ h9 => h9) rfl dX7_link_142 ?_
    refine lv_iload_n hx hb dX7_link_145 rfl (lv_at hl 2 rfl) ?_
    obtain ⟨hg3, h⟩ := ig h
    refine va_iald hx hb hK hP 81 70 gA_81 yA_81 (vp_in_iff.mpr hg3) dX7_link_146 ?_
    obtain ⟨hg4, h⟩ := ig h
    refine va_iast hx hb hK hP hD hS 83 72 gA_83 yA_83 (vp_in_iff.mpr hg4) dX7_link_147 (fun H locs hP hD hS => ?_)
    replace hP := uA_83 hP
    replace hD := hD0 ((stI q1.2 83 x1.toNatClampNeg (q1.2.1 81 x2.toNatClampNeg)))
    refine lv_aload_n hx hb dX7_link_148 rfl (lv_at hl 0 rfl) ?_
    refine va_get (D := (dC, dI)) (ci := 7) (C := RX7) (T := TX7) (N := 13) hx hb hts inlX7 hown hK hP 74 gA_74 rfl 8 (by decide) (hts (.fieldLink RX7 39 "ShapeReader$Tree" "firsts" "[I") mw_18_9) (fun _ h9 => h9) rfl dX7_link_149 ?_
    refine lv_iload_n hx hb dX7_link_152 rfl (lv_at hl 2 rfl) ?_
    refine lv_iload_n hx hb dX7_link_153 rfl (lv_at hl 1 rfl) ?_
    refine va_iast hx hb hK hP hD hS 81 70 gA_81 yA_81 (vp_in_iff.mpr hg3) dX7_link_154 (fun H locs hP hD hS => ?_)
    replace hP := uA_81 hP
    replace hD := hD0 ((stI (stI q1.2 83 x1.toNatClampNeg (q1.2.1 81 x2.toNatClampNeg)) 81 x2.toNatClampNeg x1))
    obtain ⟨z5, hs, h⟩ := ib h
    replace hs := Option.some.inj hs
    replace hP : va_P (dC, dI) vwCl (wA a k z5) H := by rw [← hs]; exact hP
    replace hD := hD0 z5
    clear hs
    exact b_X7_link_155_74 hC h _ _ _ hP hD hS (lv_sub hl [0, 1, 2] rfl)
  · replace h := iq hc h
    refine lv_aload_n hx hb dX7_link_112 rfl (lv_at hl 0 rfl) ?_
    refine va_get (D := (dC, dI)) (ci := 7) (C := RX7) (T := TX7) (N := 13) hx hb hts inlX7 hown hK hP 74 gA_74 rfl 10 (by decide) (hts (.fieldLink RX7 45 "ShapeReader$Tree" "nexts" "[I") mw_18_11) (fun _ h9 => h9) rfl dX7_link_113 ?_
    refine lv_iload_n hx hb dX7_link_116 rfl (lv_at hl 1 rfl) ?_
    refine lv_aload_n hx hb dX7_link_117 rfl (lv_at hl 0 rfl) ?_
    refine va_get (D := (dC, dI)) (ci := 7) (C := RX7) (T := TX7) (N := 13) hx hb hts inlX7 hown hK hP 74 gA_74 rfl 10 (by decide) (hts (.fieldLink RX7 45 "ShapeReader$Tree" "nexts" "[I") mw_18_11) (fun _ h9 => h9) rfl dX7_link_118 ?_
    refine lv_iload hx hb dX7_link_121 (lv_at hl 3 rfl) ?_
    obtain ⟨hg6, h⟩ := ig h
    refine va_iald hx hb hK hP 83 72 gA_83 yA_83 (vp_in_iff.mpr hg6) dX7_link_123 ?_
    obtain ⟨hg7, h⟩ := ig h
    refine va_iast hx hb hK hP hD hS 83 72 gA_83 yA_83 (vp_in_iff.mpr hg7) dX7_link_124 (fun H locs hP hD hS => ?_)
    replace hP := uA_83 hP
    replace hD := hD0 ((stI q1.2 83 x1.toNatClampNeg (q1.2.1 83 x4.toNatClampNeg)))
    refine lv_aload_n hx hb dX7_link_125 rfl (lv_at hl 0 rfl) ?_
    refine va_get (D := (dC, dI)) (ci := 7) (C := RX7) (T := TX7) (N := 13) hx hb hts inlX7 hown hK hP 74 gA_74 rfl 10 (by decide) (hts (.fieldLink RX7 45 "ShapeReader$Tree" "nexts" "[I") mw_18_11) (fun _ h9 => h9) rfl dX7_link_126 ?_
    refine lv_iload hx hb dX7_link_129 (lv_at hl 3 rfl) ?_
    refine lv_iload_n hx hb dX7_link_131 rfl (lv_at hl 1 rfl) ?_
    refine va_iast hx hb hK hP hD hS 83 72 gA_83 yA_83 (vp_in_iff.mpr hg6) dX7_link_132 (fun H locs hP hD hS => ?_)
    replace hP := uA_83 hP
    replace hD := hD0 ((stI (stI q1.2 83 x1.toNatClampNeg (q1.2.1 83 x4.toNatClampNeg)) 83 x4.toNatClampNeg x1))
    obtain ⟨z8, hs, h⟩ := ib h
    replace hs := Option.some.inj hs
    replace hP : va_P (dC, dI) vwCl (wA a k z8) H := by rw [← hs]; exact hP
    replace hD := hD0 z8
    clear hs
    refine lv_goto (tgt := 155) hx hb dX7_link_133 (by decide) ?_
    exact b_X7_link_155_74 hC h _ _ _ hP hD hS (lv_sub hl [0, 1, 2] rfl)

set_option maxRecDepth 100000 in
set_option maxHeartbeats 4000000 in
theorem b_X7_link_50_74 {p : Program} {l : Launch} {e : Env} {s : State} {m : MethodId} {args : Array Value} {below : List Frame} {meth : Method} {c : Code} {dC : Nat → ClassId} {dI : Nat → Nat → Nat} {a : Nat → Nat} {k : Nat → ClassId} {A : Nat → Prop} {q : ST} (hC : CxA p s m args meth c dC dI k A cX7_link RX7 none 7)   : ∀ (n : Nat) (x1 : Int32) (x2 : Int32) (x4 : Int32) (x5 : Int32) (x6 : Int32) (σ : ST), f_X7_link_50 74 n x1 x2 x4 x5 x6 σ = some q → GoA p l e ({ frames := 1, cells := 0, slots := 0, locals := 21 } : Room) s m args below meth c (MQ below (qAv dC dI a k A q) args s 0 0 A) dC dI a k A 7 50 σ [(0, .ref (a 74)), (1, .int x1), (2, .int x2), (4, .int x4), (5, .int x5), (6, .int x6)] [] := by
  intro n
  induction n with
  | zero =>
    intro x1 x2 x4 x5 x6 σ h
    rw [f_X7_link_50] at h
    cases h
  | succ n ih =>
    intro x1 x2 x4 x5 x6 σ h
    have hC0 := hC
    obtain ⟨hx, hb, hr, hml, hown, hts, hlocks, hA, hN, hK⟩ := hC0
    intro H locs ls hP hD hS hl
    have hD0 : ∀ σ1 : ST, va_D A (wA a k σ1) := fun σ1 => wA_D hD
    rw [f_X7_link_50] at h
    refine lv_iload hx hb dX7_link_50 (lv_at hl 5 rfl) ?_
    refine lv_aload_n hx hb dX7_link_52 rfl (lv_at hl 0 rfl) ?_
    refine va_get (D := (dC, dI)) (ci := 7) (C := RX7) (T := TX7) (N := 13) hx hb hts inlX7 hown hK hP 74 gA_74 rfl 1 (by decide) (hts (.fieldLink RX7 9 "ShapeReader$Tree" "size" "I") mw_18_1) (fun _ h9 => h9) rfl dX7_link_53 ?_
    refine lv_icmp_ge (tgt := 103) hx hb dX7_link_56 (by decide) (fun hc => ?_) (fun hc => ?_)
    · replace h := ip hc h
      exact b_X7_link_103_74 hC h _ _ _ hP hD hS (lv_sub hl [0, 1, 2, 3] rfl)
    · replace h := iq hc h
      refine lv_aload_n hx hb dX7_link_59 rfl (lv_at hl 0 rfl) ?_
      refine lv_iload hx hb dX7_link_60 (lv_at hl 4 rfl) ?_
      obtain ⟨q1, hc, h⟩ := ib h
      have hF := va_frees hD hS hA
      refine va_calli (va_runV (As := [.int x5]) (rest := []) ⟨hx, hb, hml, hown, hts⟩ (s_X7_isRow_74 hc) (cwV 1 hts (gV mw_18_14 mw_18_15 mw_18_16 mw_0_11 mw_51_24) rfl rfl rfl (by decide +kernel) ⟨(Nat.le_of_ble_eq_true rfl), (Nat.le_of_ble_eq_true rfl)⟩) (vV (ci := 7) (q0 := 74) hK hP hD hN rfl gA_74) rfl rfl hl.1 rfl (lv_room (Nat.le_of_ble_eq_true rfl)) dX7_link_62 ⟨(Nat.le_of_ble_eq_true rfl), (Nat.le_of_ble_eq_true rfl)⟩) hS (fun q _ h => hF q h) hF (fun r2 u t H locs ht hvm hw hB _ _ hS => ?_)
      obtain rfl : r2 = q1.1 := hw
      replace hP : va_P (dC, dI) vwCl (wA a k q1.2) H := by rw [← ht]; exact hB.1
      replace hD := hD0 (q1.2)
      clear hB hF
      refine lv_if_eq (tgt := 103) hx hb dX7_link_65 (by decide) (fun hc => ?_) (fun hc => ?_)
      · replace h := ip hc h
        exact b_X7_link_103_74 hC h _ _ _ hP hD hS (lv_sub hl [0, 1, 2, 3] rfl)
      · replace h := iq hc h
        refine lv_aload_n hx hb dX7_link_68 rfl (lv_at hl 0 rfl) ?_
        refine va_get (D := (dC, dI)) (ci := 7) (C := RX7) (T := TX7) (N := 13) hx hb hts inlX7 hown hK hP 74 gA_74 rfl 4 (by decide) (hts (.fieldLink RX7 25 "ShapeReader$Tree" "places" "[I") mw_18_5) (fun _ h9 => h9) rfl dX7_link_69 ?_
        refine lv_iload hx hb dX7_link_72 (lv_at hl 4 rfl) ?_
        obtain ⟨hg3, h⟩ := ig h
        refine va_iald hx hb hK hP 77 66 gA_77 yA_77 (vp_in_iff.mpr hg3) dX7_link_74 ?_
        refine lv_aload_n hx hb dX7_link_75 rfl (lv_at hl 0 rfl) ?_
        refine va_get (D := (dC, dI)) (ci := 7) (C := RX7) (T := TX7) (N := 13) hx hb hts inlX7 hown hK hP 74 gA_74 rfl 4 (by decide) (hts (.fieldLink RX7 25 "ShapeReader$Tree" "places" "[I") mw_18_5) (fun _ h9 => h9) rfl dX7_link_76 ?_
        refine lv_iload_n hx hb dX7_link_79 rfl (lv_at hl 1 rfl) ?_
        obtain ⟨hg4, h⟩ := ig h
        refine va_iald hx hb hK hP 77 66 gA_77 yA_77 (vp_in_iff.mpr hg4) dX7_link_80 ?_
        refine lv_icmp_ge (tgt := 103) hx hb dX7_link_81 (by decide) (fun hc => ?_) (fun hc => ?_)
        · replace h := ip hc h
          exact b_X7_link_103_74 hC h _ _ _ hP hD hS (lv_sub hl [0, 1, 2, 3] rfl)
        · replace h := iq hc h
          refine lv_iload hx hb dX7_link_84 (lv_at hl 4 rfl) ?_
          refine lv_istore (lv' := [(4, .int x5), (0, .ref (a 74)), (1, .int x1), (2, .int x2), (5, .int x5), (6, .int x6)]) hx hb dX7_link_86 hl (by decide) rfl (fun ls hl => ?_)
          refine lv_aload_n hx hb dX7_link_88 rfl (lv_at hl 1 rfl) ?_
          refine va_get (D := (dC, dI)) (ci := 7) (C := RX7) (T := TX7) (N := 13) hx hb hts inlX7 hown hK hP 74 gA_74 rfl 10 (by decide) (hts (.fieldLink RX7 45 "ShapeReader$Tree" "nexts" "[I") mw_18_11) (fun _ h9 => h9) rfl dX7_link_89 ?_
          refine lv_iload hx hb dX7_link_92 (lv_at hl 4 rfl) ?_
          refine va_iald hx hb hK hP 83 72 gA_83 yA_83 (vp_in_iff.mpr hg3) dX7_link_94 ?_
          refine lv_istore (lv' := [(5, .int (q1.2.1 83 x5.toNatClampNeg)), (4, .int x5), (0, .ref (a 74)), (1, .int x1), (2, .int x2), (6, .int x6)]) hx hb dX7_link_95 hl (by decide) rfl (fun ls hl => ?_)
          refine lv_iinc (v := (x6 + 1)) (lv' := [(6, .int (x6 + 1)), (5, .int (q1.2.1 83 x5.toNatClampNeg)), (4, .int x5), (0, .ref (a 74)), (1, .int x1), (2, .int x2)]) hx hb dX7_link_97 hl (k := 5) rfl rfl (by decide) rfl (fun ls hl => ?_)
          refine lv_goto (tgt := 50) hx hb dX7_link_100 (by decide) ?_
          exact ih _ _ _ _ _ _ h _ _ _ hP hD hS (lv_sub hl [3, 4, 5, 2, 1, 0] rfl)

set_option maxRecDepth 100000 in
set_option maxHeartbeats 4000000 in
theorem b_X7_link_39_74 {p : Program} {l : Launch} {e : Env} {s : State} {m : MethodId} {args : Array Value} {below : List Frame} {meth : Method} {c : Code} {dC : Nat → ClassId} {dI : Nat → Nat → Nat} {a : Nat → Nat} {k : Nat → ClassId} {A : Nat → Prop} {q : ST} (hC : CxA p s m args meth c dC dI k A cX7_link RX7 none 7)   {x1 : Int32} {x2 : Int32} {x4 : Int32} {σ : ST} (h : f_X7_link_39 74 x1 x2 x4 σ = some q) : GoA p l e ({ frames := 1, cells := 0, slots := 0, locals := 21 } : Room) s m args below meth c (MQ below (qAv dC dI a k A q) args s 0 0 A) dC dI a k A 7 39 σ [(0, .ref (a 74)), (1, .int x1), (2, .int x2), (4, .int x4)] [] := by
  have hC0 := hC
  obtain ⟨hx, hb, hr, hml, hown, hts, hlocks, hA, hN, hK⟩ := hC0
  intro H locs ls hP hD hS hl
  have hD0 : ∀ σ1 : ST, va_D A (wA a k σ1) := fun σ1 => wA_D hD
  unfold f_X7_link_39 at h
  refine lv_aload_n hx hb dX7_link_39 rfl (lv_at hl 0 rfl) ?_
  refine va_get (D := (dC, dI)) (ci := 7) (C := RX7) (T := TX7) (N := 13) hx hb hts inlX7 hown hK hP 74 gA_74 rfl 8 (by decide) (hts (.fieldLink RX7 39 "ShapeReader$Tree" "firsts" "[I") mw_18_9) (fun _ h9 => h9) rfl dX7_link_40 ?_
  refine lv_iload_n hx hb dX7_link_43 rfl (lv_at hl 2 rfl) ?_
  obtain ⟨hg1, h⟩ := ig h
  refine va_iald hx hb hK hP 81 70 gA_81 yA_81 (vp_in_iff.mpr hg1) dX7_link_44 ?_
  refine lv_istore (lv' := [(5, .int (σ.1 81 x2.toNatClampNeg)), (0, .ref (a 74)), (1, .int x1), (2, .int x2), (4, .int x4)]) hx hb dX7_link_45 hl (by decide) rfl (fun ls hl => ?_)
  refine lv_iconst (v := 0) hx hb dX7_link_47 (by decide) ?_
  refine lv_istore (lv' := [(6, .int 0), (5, .int (σ.1 81 x2.toNatClampNeg)), (0, .ref (a 74)), (1, .int x1), (2, .int x2), (4, .int x4)]) hx hb dX7_link_48 hl (by decide) rfl (fun ls hl => ?_)
  exact b_X7_link_50_74 hC FU _ _ _ _ _ _ h _ _ _ hP hD hS (lv_sub hl [2, 3, 4, 5, 1, 0] rfl)

set_option maxRecDepth 100000 in
set_option maxHeartbeats 4000000 in
theorem b_X7_link_e_74 {p : Program} {l : Launch} {e : Env} {s : State} {m : MethodId} {args : Array Value} {below : List Frame} {meth : Method} {c : Code} {dC : Nat → ClassId} {dI : Nat → Nat → Nat} {a : Nat → Nat} {k : Nat → ClassId} {A : Nat → Prop} {q : ST} (hC : CxA p s m args meth c dC dI k A cX7_link RX7 none 7)   {p0 : Int32} {p1 : Int32} {σ : ST} (h : f_X7_link 74 p0 p1 σ = some q) : GoA p l e ({ frames := 1, cells := 0, slots := 0, locals := 21 } : Room) s m args below meth c (MQ below (qAv dC dI a k A q) args s 0 0 A) dC dI a k A 7 0 σ (lv_args 0 [.ref (a 74), .int p0, .int p1]) [] := by
  have hC0 := hC
  obtain ⟨hx, hb, hr, hml, hown, hts, hlocks, hA, hN, hK⟩ := hC0
  intro H locs ls hP hD hS hl
  have hD0 : ∀ σ1 : ST, va_D A (wA a k σ1) := fun σ1 => wA_D hD
  replace hl : lv_has ls 7 [(0, .ref (a 74)), (1, .int p0), (2, .int p1)] := hl
  unfold f_X7_link at h
  refine lv_aload_n hx hb dX7_link_0 rfl (lv_at hl 0 rfl) ?_
  refine va_get (D := (dC, dI)) (ci := 7) (C := RX7) (T := TX7) (N := 13) hx hb hts inlX7 hown hK hP 74 gA_74 rfl 9 (by decide) (hts (.fieldLink RX7 42 "ShapeReader$Tree" "lasts" "[I") mw_18_10) (fun _ h9 => h9) rfl dX7_link_1 ?_
  refine lv_iload_n hx hb dX7_link_4 rfl (lv_at hl 2 rfl) ?_
  obtain ⟨hg1, h⟩ := ig h
  refine va_iald hx hb hK hP 82 71 gA_82 yA_82 (vp_in_iff.mpr hg1) dX7_link_5 ?_
  refine lv_istore_n (lv' := [(3, .int (σ.1 82 p1.toNatClampNeg)), (0, .ref (a 74)), (1, .int p0), (2, .int p1)]) hx hb dX7_link_6 rfl hl (by decide) rfl (fun ls hl => ?_)
  refine lv_iconst (v := (-1)) hx hb dX7_link_7 (by decide) ?_
  refine lv_istore (lv' := [(4, .int (-1)), (3, .int (σ.1 82 p1.toNatClampNeg)), (0, .ref (a 74)), (1, .int p0), (2, .int p1)]) hx hb dX7_link_8 hl (by decide) rfl (fun ls hl => ?_)
  refine lv_aload_n hx hb dX7_link_10 rfl (lv_at hl 2 rfl) ?_
  refine lv_iload_n hx hb dX7_link_11 rfl (lv_at hl 1 rfl) ?_
  obtain ⟨q2, hc, h⟩ := ib h
  have hF := va_frees hD hS hA
  refine va_calli (va_runV (As := [.int (σ.1 82 p1.toNatClampNeg)]) (rest := []) ⟨hx, hb, hml, hown, hts⟩ (s_X7_isRow_74 hc) (cwV 1 hts (gV mw_18_14 mw_18_15 mw_18_16 mw_0_11 mw_51_24) rfl rfl rfl (by decide +kernel) ⟨(Nat.le_of_ble_eq_true rfl), (Nat.le_of_ble_eq_true rfl)⟩) (vV (ci := 7) (q0 := 74) hK hP hD hN rfl gA_74) rfl rfl hl.1 rfl (lv_room (Nat.le_of_ble_eq_true rfl)) dX7_link_12 ⟨(Nat.le_of_ble_eq_true rfl), (Nat.le_of_ble_eq_true rfl)⟩) hS (fun q _ h => hF q h) hF (fun r3 u t H locs ht hvm hw hB _ _ hS => ?_)
  obtain rfl : r3 = q2.1 := hw
  replace hP : va_P (dC, dI) vwCl (wA a k q2.2) H := by rw [← ht]; exact hB.1
  replace hD := hD0 (q2.2)
  clear hB hF
  refine lv_if_eq (tgt := 39) hx hb dX7_link_15 (by decide) (fun hc => ?_) (fun hc => ?_)
  · replace h := ip hc h
    exact b_X7_link_39_74 hC h _ _ _ hP hD hS (lv_sub hl [2, 3, 4, 0] rfl)
  · replace h := iq hc h
    refine lv_aload_n hx hb dX7_link_18 rfl (lv_at hl 2 rfl) ?_
    refine va_get (D := (dC, dI)) (ci := 7) (C := RX7) (T := TX7) (N := 13) hx hb hts inlX7 hown hK hP 74 gA_74 rfl 4 (by decide) (hts (.fieldLink RX7 25 "ShapeReader$Tree" "places" "[I") mw_18_5) (fun _ h9 => h9) rfl dX7_link_19 ?_
    refine lv_iload_n hx hb dX7_link_22 rfl (lv_at hl 1 rfl) ?_
    obtain ⟨hg4, h⟩ := ig h
    refine va_iald hx hb hK hP 77 66 gA_77 yA_77 (vp_in_iff.mpr hg4) dX7_link_23 ?_
    refine lv_aload_n hx hb dX7_link_24 rfl (lv_at hl 2 rfl) ?_
    refine va_get (D := (dC, dI)) (ci := 7) (C := RX7) (T := TX7) (N := 13) hx hb hts inlX7 hown hK hP 74 gA_74 rfl 4 (by decide) (hts (.fieldLink RX7 25 "ShapeReader$Tree" "places" "[I") mw_18_5) (fun _ h9 => h9) rfl dX7_link_25 ?_
    refine lv_iload_n hx hb dX7_link_28 rfl (lv_at hl 3 rfl) ?_
    obtain ⟨hg5, h⟩ := ig h
    refine va_iald hx hb hK hP 77 66 gA_77 yA_77 (vp_in_iff.mpr hg5) dX7_link_29 ?_
    refine lv_icmp_ge (tgt := 39) hx hb dX7_link_30 (by decide) (fun hc => ?_) (fun hc => ?_)
    · replace h := ip hc h
      exact b_X7_link_39_74 hC h _ _ _ hP hD hS (lv_sub hl [2, 3, 4, 0] rfl)
    · replace h := iq hc h
      refine lv_iload_n hx hb dX7_link_33 rfl (lv_at hl 1 rfl) ?_
      refine lv_istore (lv' := [(4, .int (σ.1 82 p1.toNatClampNeg)), (3, .int (σ.1 82 p1.toNatClampNeg)), (0, .ref (a 74)), (1, .int p0), (2, .int p1)]) hx hb dX7_link_34 hl (by decide) rfl (fun ls hl => ?_)
      refine lv_goto (tgt := 103) hx hb dX7_link_36 (by decide) ?_
      exact b_X7_link_103_74 hC h _ _ _ hP hD hS (lv_sub hl [2, 3, 4, 0] rfl)

theorem s_X7_link_74 {l : Launch} {dC : Nat → ClassId} {dI : Nat → Nat → Nat} {a : Nat → Nat} {k : Nat → ClassId} {sz : Nat} {p0 : Int32} {p1 : Int32} {σ : ST} {q : ST} (h : f_X7_link 74 p0 p1 σ = some q) : Met l yX7_link (.code yX7_link cX7_link 7 none :: pw) ({ frames := 1, cells := 0, slots := 0, locals := 21 } : Room) (va_Pc [.ref (a 74), .int p0, .int p1] (vPre dC dI (wA a k σ) (tA k) sz)) (qAv dC dI a k (va_A (wA a k σ) sz) q) 0 0 (va_A (wA a k σ) sz) := metA (fun A => qAv dC dI a k A q) (plainFor_of_name (by decide)) (Nat.le_of_ble_eq_true rfl) (fun _ _ _ _ _ _ _ _ hC => b_X7_link_e_74 hC h)

def f_X7_grow (b : Nat) (p0 : Int32) (p1 : Int32) (p2 : Int32) (σ : ST) : Option (Int32 × ST) := if (σ.1 b 1) < (σ.1 b 0) then (if 0 ≤ (σ.1 b 1).toInt ∧ (σ.1 b 1).toInt < (ln7 b : Nat) then ((some (stI (stI (stI σ b 1 ((σ.1 b 1) + 1)) (b + 1) (σ.1 b 1).toNatClampNeg p0) (b + 2) (σ.1 b 1).toNatClampNeg p1)).bind fun z2 => (some (stI (stI (stI z2 (b + 3) (σ.1 b 1).toNatClampNeg p2) (b + 4) (σ.1 b 1).toNatClampNeg 0) (b + 5) (σ.1 b 1).toNatClampNeg (vp_nar .boolean 0))).bind fun z3 => (some (stI (stL z3 (b + 6) (σ.1 b 1).toNatClampNeg 0) (b + 7) (σ.1 b 1).toNatClampNeg (-1))).bind fun z4 => (some (stI (stI z4 (b + 8) (σ.1 b 1).toNatClampNeg (-1)) (b + 9) (σ.1 b 1).toNatClampNeg (-1))).bind fun z5 => (f_X7_isRow b p1 z5).bind fun q6 => if q6.1 = 0 then (some ((σ.1 b 1), q6.2)) else ((f_X7_link b (σ.1 b 1) p1 q6.2).bind fun q8 => some ((σ.1 b 1), q8))) else none) else (some ((-1), σ))

set_option maxRecDepth 100000 in
set_option maxHeartbeats 4000000 in
theorem b_X7_grow_e_50 {p : Program} {l : Launch} {e : Env} {s : State} {m : MethodId} {args : Array Value} {below : List Frame} {meth : Method} {c : Code} {dC : Nat → ClassId} {dI : Nat → Nat → Nat} {a : Nat → Nat} {k : Nat → ClassId} {A : Nat → Prop} {q : Int32 × ST} (hC : CxA p s m args meth c dC dI k A cX7_grow RX7 (some .int) 5)   {p0 : Int32} {p1 : Int32} {p2 : Int32} {σ : ST} (h : f_X7_grow 50 p0 p1 p2 σ = some q) : GoA p l e ({ frames := 2, cells := 0, slots := 0, locals := 47 } : Room) s m args below meth c (MQ below (qAi dC dI a k A q) args s 0 0 A) dC dI a k A 5 0 σ (lv_args 0 [.ref (a 50), .int p0, .int p1, .int p2]) [] := by
  have hC0 := hC
  obtain ⟨hx, hb, hr, hml, hown, hts, hlocks, hA, hN, hK⟩ := hC0
  intro H locs ls hP hD hS hl
  have hD0 : ∀ σ1 : ST, va_D A (wA a k σ1) := fun σ1 => wA_D hD
  replace hl : lv_has ls 5 [(0, .ref (a 50)), (1, .int p0), (2, .int p1), (3, .int p2)] := hl
  unfold f_X7_grow at h
  refine lv_aload_n hx hb dX7_grow_0 rfl (lv_at hl 0 rfl) ?_
  refine va_get (D := (dC, dI)) (ci := 7) (C := RX7) (T := TX7) (N := 13) hx hb hts inlX7 hown hK hP 50 gA_50 rfl 1 (by decide) (hts (.fieldLink RX7 9 "ShapeReader$Tree" "size" "I") mw_18_1) (fun _ h9 => h9) rfl dX7_grow_1 ?_
  refine lv_aload_n hx hb dX7_grow_4 rfl (lv_at hl 0 rfl) ?_
  refine va_get (D := (dC, dI)) (ci := 7) (C := RX7) (T := TX7) (N := 13) hx hb hts inlX7 hown hK hP 50 gA_50 rfl 0 (by decide) (hts (.fieldLink RX7 15 "ShapeReader$Tree" "rows" "I") mw_18_2) (fun _ h9 => h9) rfl dX7_grow_5 ?_
  refine lv_icmp_lt (tgt := 13) hx hb dX7_grow_8 (by decide) (fun hc => ?_) (fun hc => ?_)
  · replace h := ip hc h
    refine lv_aload_n hx hb dX7_grow_13 rfl (lv_at hl 0 rfl) ?_
    refine va_get (D := (dC, dI)) (ci := 7) (C := RX7) (T := TX7) (N := 13) hx hb hts inlX7 hown hK hP 50 gA_50 rfl 1 (by decide) (hts (.fieldLink RX7 9 "ShapeReader$Tree" "size" "I") mw_18_1) (fun _ h9 => h9) rfl dX7_grow_14 ?_
    refine lv_istore (lv' := [(4, .int (σ.1 50 1)), (0, .ref (a 50)), (1, .int p0), (2, .int p1), (3, .int p2)]) hx hb dX7_grow_17 hl (by decide) rfl (fun ls hl => ?_)
    refine lv_aload_n hx hb dX7_grow_19 rfl (lv_at hl 1 rfl) ?_
    refine lv_dup hx hb dX7_grow_20 rfl ?_
    refine va_get (D := (dC, dI)) (ci := 7) (C := RX7) (T := TX7) (N := 13) hx hb hts inlX7 hown hK hP 50 gA_50 rfl 1 (by decide) (hts (.fieldLink RX7 9 "ShapeReader$Tree" "size" "I") mw_18_1) (fun _ h9 => h9) rfl dX7_grow_21 ?_
    refine lv_iconst (v := 1) hx hb dX7_grow_24 (by decide) ?_
    refine lv_iadd hx hb dX7_grow_25 ?_
    refine va_put (D := (dC, dI)) (ci := 7) (ty := .int) (C := RX7) (T := TX7) (N := 13) hx hb hts inlX7 tyX7 tyX7_ok nmX7 hown hK hP hD hS 50 gA_50 rfl 1 (by decide) (hts (.fieldLink RX7 9 "ShapeReader$Tree" "size" "I") mw_18_1) (fun _ h9 => h9) rfl (by decide +kernel) rfl rfl (Nat.le_of_ble_eq_true rfl) dX7_grow_26 (fun H locs hP hD hS => ?_)
    replace hP := uA_50_1 hP
    replace hD := hD0 ((stI σ 50 1 ((σ.1 50 1) + 1)))
    refine lv_aload_n hx hb dX7_grow_29 rfl (lv_at hl 1 rfl) ?_
    refine va_get (D := (dC, dI)) (ci := 7) (C := RX7) (T := TX7) (N := 13) hx hb hts inlX7 hown hK hP 50 gA_50 rfl 2 (by decide) (hts (.fieldLink RX7 18 "ShapeReader$Tree" "sorts" "[I") mw_18_3) (fun _ h9 => h9) rfl dX7_grow_30 ?_
    refine lv_iload hx hb dX7_grow_33 (lv_at hl 0 rfl) ?_
    refine lv_iload_n hx hb dX7_grow_35 rfl (lv_at hl 2 rfl) ?_
    obtain ⟨hg1, h⟩ := ig h
    refine va_iast hx hb hK hP hD hS 51 42 gA_51 yA_51 (vp_in_iff.mpr hg1) dX7_grow_36 (fun H locs hP hD hS => ?_)
    replace hP := uA_51 hP
    replace hD := hD0 ((stI (stI σ 50 1 ((σ.1 50 1) + 1)) 51 (σ.1 50 1).toNatClampNeg p0))
    refine lv_aload_n hx hb dX7_grow_37 rfl (lv_at hl 1 rfl) ?_
    refine va_get (D := (dC, dI)) (ci := 7) (C := RX7) (T := TX7) (N := 13) hx hb hts inlX7 hown hK hP 50 gA_50 rfl 3 (by decide) (hts (.fieldLink RX7 22 "ShapeReader$Tree" "parents" "[I") mw_18_4) (fun _ h9 => h9) rfl dX7_grow_38 ?_
    refine lv_iload hx hb dX7_grow_41 (lv_at hl 0 rfl) ?_
    refine lv_iload_n hx hb dX7_grow_43 rfl (lv_at hl 3 rfl) ?_
    refine va_iast hx hb hK hP hD hS 52 43 gA_52 yA_52 (vp_in_iff.mpr hg1) dX7_grow_44 (fun H locs hP hD hS => ?_)
    replace hP := uA_52 hP
    replace hD := hD0 ((stI (stI (stI σ 50 1 ((σ.1 50 1) + 1)) 51 (σ.1 50 1).toNatClampNeg p0) 52 (σ.1 50 1).toNatClampNeg p1))
    obtain ⟨z2, hs, h⟩ := ib h
    replace hs := Option.some.inj hs
    replace hP : va_P (dC, dI) vwCl (wA a k z2) H := by rw [← hs]; exact hP
    replace hD := hD0 z2
    clear hs
    refine lv_aload_n hx hb dX7_grow_45 rfl (lv_at hl 1 rfl) ?_
    refine va_get (D := (dC, dI)) (ci := 7) (C := RX7) (T := TX7) (N := 13) hx hb hts inlX7 hown hK hP 50 gA_50 rfl 4 (by decide) (hts (.fieldLink RX7 25 "ShapeReader$Tree" "places" "[I") mw_18_5) (fun _ h9 => h9) rfl dX7_grow_46 ?_
    refine lv_iload hx hb dX7_grow_49 (lv_at hl 0 rfl) ?_
    refine lv_iload_n hx hb dX7_grow_51 rfl (lv_at hl 4 rfl) ?_
    refine va_iast hx hb hK hP hD hS 53 44 gA_53 yA_53 (vp_in_iff.mpr hg1) dX7_grow_52 (fun H locs hP hD hS => ?_)
    replace hP := uA_53 hP
    replace hD := hD0 ((stI z2 53 (σ.1 50 1).toNatClampNeg p2))
    refine lv_aload_n hx hb dX7_grow_53 rfl (lv_at hl 1 rfl) ?_
    refine va_get (D := (dC, dI)) (ci := 7) (C := RX7) (T := TX7) (N := 13) hx hb hts inlX7 hown hK hP 50 gA_50 rfl 5 (by decide) (hts (.fieldLink RX7 28 "ShapeReader$Tree" "sizes" "[I") mw_18_6) (fun _ h9 => h9) rfl dX7_grow_54 ?_
    refine lv_iload hx hb dX7_grow_57 (lv_at hl 0 rfl) ?_
    refine lv_iconst (v := 0) hx hb dX7_grow_59 (by decide) ?_
    refine va_iast hx hb hK hP hD hS 54 45 gA_54 yA_54 (vp_in_iff.mpr hg1) dX7_grow_60 (fun H locs hP hD hS => ?_)
    replace hP := uA_54 hP
    replace hD := hD0 ((stI (stI z2 53 (σ.1 50 1).toNatClampNeg p2) 54 (σ.1 50 1).toNatClampNeg 0))
    refine lv_aload_n hx hb dX7_grow_61 rfl (lv_at hl 1 rfl) ?_
    refine va_get (D := (dC, dI)) (ci := 7) (C := RX7) (T := TX7) (N := 13) hx hb hts inlX7 hown hK hP 50 gA_50 rfl 6 (by decide) (hts (.fieldLink RX7 31 "ShapeReader$Tree" "filled" "[Z") mw_18_7) (fun _ h9 => h9) rfl dX7_grow_62 ?_
    refine lv_iload hx hb dX7_grow_65 (lv_at hl 0 rfl) ?_
    refine lv_iconst (v := 0) hx hb dX7_grow_67 (by decide) ?_
    refine va_zast hx hb hK hP hD hS 55 46 gA_55 yA_55 (vp_in_iff.mpr hg1) dX7_grow_68 (fun H locs hP hD hS => ?_)
    replace hP := uA_55 hP
    replace hD := hD0 ((stI (stI (stI z2 53 (σ.1 50 1).toNatClampNeg p2) 54 (σ.1 50 1).toNatClampNeg 0) 55 (σ.1 50 1).toNatClampNeg (vp_nar .boolean 0)))
    obtain ⟨z3, hs, h⟩ := ib h
    replace hs := Option.some.inj hs
    replace hP : va_P (dC, dI) vwCl (wA a k z3) H := by rw [← hs]; exact hP
    replace hD := hD0 z3
    clear hs
    refine lv_aload_n hx hb dX7_grow_69 rfl (lv_at hl 1 rfl) ?_
    refine va_get (D := (dC, dI)) (ci := 7) (C := RX7) (T := TX7) (N := 13) hx hb hts inlX7 hown hK hP 50 gA_50 rfl 7 (by decide) (hts (.fieldLink RX7 35 "ShapeReader$Tree" "worths" "[J") mw_18_8) (fun _ h9 => h9) rfl dX7_grow_70 ?_
    refine lv_iload hx hb dX7_grow_73 (lv_at hl 0 rfl) ?_
    refine lv_lconst (v := 0) hx hb dX7_grow_75 (by decide) ?_
    refine va_last hx hb hK hP hD hS 56 47 gA_56 yA_56 (vp_in_iff.mpr hg1) dX7_grow_76 (fun H locs hP hD hS => ?_)
    replace hP := uA_56 hP
    replace hD := hD0 ((stL z3 56 (σ.1 50 1).toNatClampNeg 0))
    refine lv_aload_n hx hb dX7_grow_77 rfl (lv_at hl 1 rfl) ?_
    refine va_get (D := (dC, dI)) (ci := 7) (C := RX7) (T := TX7) (N := 13) hx hb hts inlX7 hown hK hP 50 gA_50 rfl 8 (by decide) (hts (.fieldLink RX7 39 "ShapeReader$Tree" "firsts" "[I") mw_18_9) (fun _ h9 => h9) rfl dX7_grow_78 ?_
    refine lv_iload hx hb dX7_grow_81 (lv_at hl 0 rfl) ?_
    refine lv_iconst (v := (-1)) hx hb dX7_grow_83 (by decide) ?_
    refine va_iast hx hb hK hP hD hS 57 48 gA_57 yA_57 (vp_in_iff.mpr hg1) dX7_grow_84 (fun H locs hP hD hS => ?_)
    replace hP := uA_57 hP
    replace hD := hD0 ((stI (stL z3 56 (σ.1 50 1).toNatClampNeg 0) 57 (σ.1 50 1).toNatClampNeg (-1)))
    obtain ⟨z4, hs, h⟩ := ib h
    replace hs := Option.some.inj hs
    replace hP : va_P (dC, dI) vwCl (wA a k z4) H := by rw [← hs]; exact hP
    replace hD := hD0 z4
    clear hs
    refine lv_aload_n hx hb dX7_grow_85 rfl (lv_at hl 1 rfl) ?_
    refine va_get (D := (dC, dI)) (ci := 7) (C := RX7) (T := TX7) (N := 13) hx hb hts inlX7 hown hK hP 50 gA_50 rfl 9 (by decide) (hts (.fieldLink RX7 42 "ShapeReader$Tree" "lasts" "[I") mw_18_10) (fun _ h9 => h9) rfl dX7_grow_86 ?_
    refine lv_iload hx hb dX7_grow_89 (lv_at hl 0 rfl) ?_
    refine lv_iconst (v := (-1)) hx hb dX7_grow_91 (by decide) ?_
    refine va_iast hx hb hK hP hD hS 58 49 gA_58 yA_58 (vp_in_iff.mpr hg1) dX7_grow_92 (fun H locs hP hD hS => ?_)
    replace hP := uA_58 hP
    replace hD := hD0 ((stI z4 58 (σ.1 50 1).toNatClampNeg (-1)))
    refine lv_aload_n hx hb dX7_grow_93 rfl (lv_at hl 1 rfl) ?_
    refine va_get (D := (dC, dI)) (ci := 7) (C := RX7) (T := TX7) (N := 13) hx hb hts inlX7 hown hK hP 50 gA_50 rfl 10 (by decide) (hts (.fieldLink RX7 45 "ShapeReader$Tree" "nexts" "[I") mw_18_11) (fun _ h9 => h9) rfl dX7_grow_94 ?_
    refine lv_iload hx hb dX7_grow_97 (lv_at hl 0 rfl) ?_
    refine lv_iconst (v := (-1)) hx hb dX7_grow_99 (by decide) ?_
    refine va_iast hx hb hK hP hD hS 59 50 gA_59 yA_59 (vp_in_iff.mpr hg1) dX7_grow_100 (fun H locs hP hD hS => ?_)
    replace hP := uA_59 hP
    replace hD := hD0 ((stI (stI z4 58 (σ.1 50 1).toNatClampNeg (-1)) 59 (σ.1 50 1).toNatClampNeg (-1)))
    obtain ⟨z5, hs, h⟩ := ib h
    replace hs := Option.some.inj hs
    replace hP : va_P (dC, dI) vwCl (wA a k z5) H := by rw [← hs]; exact hP
    replace hD := hD0 z5
    clear hs
    refine lv_aload_n hx hb dX7_grow_101 rfl (lv_at hl 1 rfl) ?_
    refine lv_iload_n hx hb dX7_grow_102 rfl (lv_at hl 3 rfl) ?_
    obtain ⟨q6, hc, h⟩ := ib h
    have hF := va_frees hD hS hA
    refine va_calli (va_runV (As := [.int p1]) (rest := []) ⟨hx, hb, hml, hown, hts⟩ (s_X7_isRow_50 hc) (cwV 1 hts (gV mw_18_14 mw_18_15 mw_18_16 mw_0_11 mw_51_24) rfl rfl rfl (by decide +kernel) ⟨(Nat.le_of_ble_eq_true rfl), (Nat.le_of_ble_eq_true rfl)⟩) (vV (ci := 7) (q0 := 50) hK hP hD hN rfl gA_50) rfl rfl hl.1 rfl (lv_room (Nat.le_of_ble_eq_true rfl)) dX7_grow_103 ⟨(Nat.le_of_ble_eq_true rfl), (Nat.le_of_ble_eq_true rfl)⟩) hS (fun q _ h => hF q h) hF (fun r7 u t H locs ht hvm hw hB _ _ hS => ?_)
    obtain rfl : r7 = q6.1 := hw
    replace hP : va_P (dC, dI) vwCl (wA a k q6.2) H := by rw [← ht]; exact hB.1
    replace hD := hD0 (q6.2)
    clear hB hF
    refine lv_if_eq (tgt := 116) hx hb dX7_grow_106 (by decide) (fun hc => ?_) (fun hc => ?_)
    · replace h := ip hc h
      refine lv_iload hx hb dX7_grow_116 (lv_at hl 0 rfl) ?_
      obtain rfl := Option.some.inj h
      exact W.iret hx hb hr (fun t ht hW => ⟨⟨_, (), rfl, rfl, ⟨by rw [ht]; exact hP, va_K.moved hW.alike hK, hD⟩⟩, hS.F ht⟩) hS.2.2 dX7_grow_118
    · replace h := iq hc h
      refine lv_aload_n hx hb dX7_grow_109 rfl (lv_at hl 1 rfl) ?_
      refine lv_iload hx hb dX7_grow_110 (lv_at hl 0 rfl) ?_
      refine lv_iload_n hx hb dX7_grow_112 rfl (lv_at hl 3 rfl) ?_
      obtain ⟨q8, hc, h⟩ := ib h
      have hF := va_frees hD hS hA
      refine va_callv (va_runV (As := [.int (σ.1 50 1), .int p1]) (rest := []) ⟨hx, hb, hml, hown, hts⟩ (s_X7_link_50 hc) (cwV 2 hts (gV mw_18_17 mw_18_18 mw_18_19 mw_0_11 mw_51_26) rfl rfl rfl (by decide +kernel) ⟨(Nat.le_of_ble_eq_true rfl), (Nat.le_of_ble_eq_true rfl)⟩) (vV (ci := 7) (q0 := 50) hK hP hD hN rfl gA_50) rfl rfl hl.1 rfl (lv_room (Nat.le_of_ble_eq_true rfl)) dX7_grow_113 ⟨(Nat.le_of_ble_eq_true rfl), (Nat.le_of_ble_eq_true rfl)⟩) hS (fun q _ h => hF q h) hF (fun u t H locs ht hvm hw hB _ _ hS => ?_)
      replace hP : va_P (dC, dI) vwCl (wA a k q8) H := by rw [← ht]; exact hB.1
      replace hD := hD0 (q8)
      clear hB hF
      refine lv_iload hx hb dX7_grow_116 (lv_at hl 0 rfl) ?_
      obtain rfl := Option.some.inj h
      exact W.iret hx hb hr (fun t ht hW => ⟨⟨_, (), rfl, rfl, ⟨by rw [ht]; exact hP, va_K.moved hW.alike hK, hD⟩⟩, hS.F ht⟩) hS.2.2 dX7_grow_118
  · replace h := iq hc h
    refine lv_iconst (v := (-1)) hx hb dX7_grow_11 (by decide) ?_
    obtain rfl := Option.some.inj h
    exact W.iret hx hb hr (fun t ht hW => ⟨⟨_, (), rfl, rfl, ⟨by rw [ht]; exact hP, va_K.moved hW.alike hK, hD⟩⟩, hS.F ht⟩) hS.2.2 dX7_grow_12

theorem s_X7_grow_50 {l : Launch} {dC : Nat → ClassId} {dI : Nat → Nat → Nat} {a : Nat → Nat} {k : Nat → ClassId} {sz : Nat} {p0 : Int32} {p1 : Int32} {p2 : Int32} {σ : ST} {q : Int32 × ST} (h : f_X7_grow 50 p0 p1 p2 σ = some q) : Met l yX7_grow (.code yX7_grow cX7_grow 5 (some .int) :: pw) ({ frames := 2, cells := 0, slots := 0, locals := 47 } : Room) (va_Pc [.ref (a 50), .int p0, .int p1, .int p2] (vPre dC dI (wA a k σ) (tA k) sz)) (qAi dC dI a k (va_A (wA a k σ) sz) q) 0 0 (va_A (wA a k σ) sz) := metA (fun A => qAi dC dI a k A q) (plainFor_of_name (by decide)) (Nat.le_of_ble_eq_true rfl) (fun _ _ _ _ _ _ _ _ hC => b_X7_grow_e_50 hC h)

set_option maxRecDepth 100000 in
set_option maxHeartbeats 4000000 in
theorem b_X7_grow_e_62 {p : Program} {l : Launch} {e : Env} {s : State} {m : MethodId} {args : Array Value} {below : List Frame} {meth : Method} {c : Code} {dC : Nat → ClassId} {dI : Nat → Nat → Nat} {a : Nat → Nat} {k : Nat → ClassId} {A : Nat → Prop} {q : Int32 × ST} (hC : CxA p s m args meth c dC dI k A cX7_grow RX7 (some .int) 5)   {p0 : Int32} {p1 : Int32} {p2 : Int32} {σ : ST} (h : f_X7_grow 62 p0 p1 p2 σ = some q) : GoA p l e ({ frames := 2, cells := 0, slots := 0, locals := 47 } : Room) s m args below meth c (MQ below (qAi dC dI a k A q) args s 0 0 A) dC dI a k A 5 0 σ (lv_args 0 [.ref (a 62), .int p0, .int p1, .int p2]) [] := by
  have hC0 := hC
  obtain ⟨hx, hb, hr, hml, hown, hts, hlocks, hA, hN, hK⟩ := hC0
  intro H locs ls hP hD hS hl
  have hD0 : ∀ σ1 : ST, va_D A (wA a k σ1) := fun σ1 => wA_D hD
  replace hl : lv_has ls 5 [(0, .ref (a 62)), (1, .int p0), (2, .int p1), (3, .int p2)] := hl
  unfold f_X7_grow at h
  refine lv_aload_n hx hb dX7_grow_0 rfl (lv_at hl 0 rfl) ?_
  refine va_get (D := (dC, dI)) (ci := 7) (C := RX7) (T := TX7) (N := 13) hx hb hts inlX7 hown hK hP 62 gA_62 rfl 1 (by decide) (hts (.fieldLink RX7 9 "ShapeReader$Tree" "size" "I") mw_18_1) (fun _ h9 => h9) rfl dX7_grow_1 ?_
  refine lv_aload_n hx hb dX7_grow_4 rfl (lv_at hl 0 rfl) ?_
  refine va_get (D := (dC, dI)) (ci := 7) (C := RX7) (T := TX7) (N := 13) hx hb hts inlX7 hown hK hP 62 gA_62 rfl 0 (by decide) (hts (.fieldLink RX7 15 "ShapeReader$Tree" "rows" "I") mw_18_2) (fun _ h9 => h9) rfl dX7_grow_5 ?_
  refine lv_icmp_lt (tgt := 13) hx hb dX7_grow_8 (by decide) (fun hc => ?_) (fun hc => ?_)
  · replace h := ip hc h
    refine lv_aload_n hx hb dX7_grow_13 rfl (lv_at hl 0 rfl) ?_
    refine va_get (D := (dC, dI)) (ci := 7) (C := RX7) (T := TX7) (N := 13) hx hb hts inlX7 hown hK hP 62 gA_62 rfl 1 (by decide) (hts (.fieldLink RX7 9 "ShapeReader$Tree" "size" "I") mw_18_1) (fun _ h9 => h9) rfl dX7_grow_14 ?_
    refine lv_istore (lv' := [(4, .int (σ.1 62 1)), (0, .ref (a 62)), (1, .int p0), (2, .int p1), (3, .int p2)]) hx hb dX7_grow_17 hl (by decide) rfl (fun ls hl => ?_)
    refine lv_aload_n hx hb dX7_grow_19 rfl (lv_at hl 1 rfl) ?_
    refine lv_dup hx hb dX7_grow_20 rfl ?_
    refine va_get (D := (dC, dI)) (ci := 7) (C := RX7) (T := TX7) (N := 13) hx hb hts inlX7 hown hK hP 62 gA_62 rfl 1 (by decide) (hts (.fieldLink RX7 9 "ShapeReader$Tree" "size" "I") mw_18_1) (fun _ h9 => h9) rfl dX7_grow_21 ?_
    refine lv_iconst (v := 1) hx hb dX7_grow_24 (by decide) ?_
    refine lv_iadd hx hb dX7_grow_25 ?_
    refine va_put (D := (dC, dI)) (ci := 7) (ty := .int) (C := RX7) (T := TX7) (N := 13) hx hb hts inlX7 tyX7 tyX7_ok nmX7 hown hK hP hD hS 62 gA_62 rfl 1 (by decide) (hts (.fieldLink RX7 9 "ShapeReader$Tree" "size" "I") mw_18_1) (fun _ h9 => h9) rfl (by decide +kernel) rfl rfl (Nat.le_of_ble_eq_true rfl) dX7_grow_26 (fun H locs hP hD hS => ?_)
    replace hP := uA_62_1 hP
    replace hD := hD0 ((stI σ 62 1 ((σ.1 62 1) + 1)))
    refine lv_aload_n hx hb dX7_grow_29 rfl (lv_at hl 1 rfl) ?_
    refine va_get (D := (dC, dI)) (ci := 7) (C := RX7) (T := TX7) (N := 13) hx hb hts inlX7 hown hK hP 62 gA_62 rfl 2 (by decide) (hts (.fieldLink RX7 18 "ShapeReader$Tree" "sorts" "[I") mw_18_3) (fun _ h9 => h9) rfl dX7_grow_30 ?_
    refine lv_iload hx hb dX7_grow_33 (lv_at hl 0 rfl) ?_
    refine lv_iload_n hx hb dX7_grow_35 rfl (lv_at hl 2 rfl) ?_
    obtain ⟨hg1, h⟩ := ig h
    refine va_iast hx hb hK hP hD hS 63 53 gA_63 yA_63 (vp_in_iff.mpr hg1) dX7_grow_36 (fun H locs hP hD hS => ?_)
    replace hP := uA_63 hP
    replace hD := hD0 ((stI (stI σ 62 1 ((σ.1 62 1) + 1)) 63 (σ.1 62 1).toNatClampNeg p0))
    refine lv_aload_n hx hb dX7_grow_37 rfl (lv_at hl 1 rfl) ?_
    refine va_get (D := (dC, dI)) (ci := 7) (C := RX7) (T := TX7) (N := 13) hx hb hts inlX7 hown hK hP 62 gA_62 rfl 3 (by decide) (hts (.fieldLink RX7 22 "ShapeReader$Tree" "parents" "[I") mw_18_4) (fun _ h9 => h9) rfl dX7_grow_38 ?_
    refine lv_iload hx hb dX7_grow_41 (lv_at hl 0 rfl) ?_
    refine lv_iload_n hx hb dX7_grow_43 rfl (lv_at hl 3 rfl) ?_
    refine va_iast hx hb hK hP hD hS 64 54 gA_64 yA_64 (vp_in_iff.mpr hg1) dX7_grow_44 (fun H locs hP hD hS => ?_)
    replace hP := uA_64 hP
    replace hD := hD0 ((stI (stI (stI σ 62 1 ((σ.1 62 1) + 1)) 63 (σ.1 62 1).toNatClampNeg p0) 64 (σ.1 62 1).toNatClampNeg p1))
    obtain ⟨z2, hs, h⟩ := ib h
    replace hs := Option.some.inj hs
    replace hP : va_P (dC, dI) vwCl (wA a k z2) H := by rw [← hs]; exact hP
    replace hD := hD0 z2
    clear hs
    refine lv_aload_n hx hb dX7_grow_45 rfl (lv_at hl 1 rfl) ?_
    refine va_get (D := (dC, dI)) (ci := 7) (C := RX7) (T := TX7) (N := 13) hx hb hts inlX7 hown hK hP 62 gA_62 rfl 4 (by decide) (hts (.fieldLink RX7 25 "ShapeReader$Tree" "places" "[I") mw_18_5) (fun _ h9 => h9) rfl dX7_grow_46 ?_
    refine lv_iload hx hb dX7_grow_49 (lv_at hl 0 rfl) ?_
    refine lv_iload_n hx hb dX7_grow_51 rfl (lv_at hl 4 rfl) ?_
    refine va_iast hx hb hK hP hD hS 65 55 gA_65 yA_65 (vp_in_iff.mpr hg1) dX7_grow_52 (fun H locs hP hD hS => ?_)
    replace hP := uA_65 hP
    replace hD := hD0 ((stI z2 65 (σ.1 62 1).toNatClampNeg p2))
    refine lv_aload_n hx hb dX7_grow_53 rfl (lv_at hl 1 rfl) ?_
    refine va_get (D := (dC, dI)) (ci := 7) (C := RX7) (T := TX7) (N := 13) hx hb hts inlX7 hown hK hP 62 gA_62 rfl 5 (by decide) (hts (.fieldLink RX7 28 "ShapeReader$Tree" "sizes" "[I") mw_18_6) (fun _ h9 => h9) rfl dX7_grow_54 ?_
    refine lv_iload hx hb dX7_grow_57 (lv_at hl 0 rfl) ?_
    refine lv_iconst (v := 0) hx hb dX7_grow_59 (by decide) ?_
    refine va_iast hx hb hK hP hD hS 66 56 gA_66 yA_66 (vp_in_iff.mpr hg1) dX7_grow_60 (fun H locs hP hD hS => ?_)
    replace hP := uA_66 hP
    replace hD := hD0 ((stI (stI z2 65 (σ.1 62 1).toNatClampNeg p2) 66 (σ.1 62 1).toNatClampNeg 0))
    refine lv_aload_n hx hb dX7_grow_61 rfl (lv_at hl 1 rfl) ?_
    refine va_get (D := (dC, dI)) (ci := 7) (C := RX7) (T := TX7) (N := 13) hx hb hts inlX7 hown hK hP 62 gA_62 rfl 6 (by decide) (hts (.fieldLink RX7 31 "ShapeReader$Tree" "filled" "[Z") mw_18_7) (fun _ h9 => h9) rfl dX7_grow_62 ?_
    refine lv_iload hx hb dX7_grow_65 (lv_at hl 0 rfl) ?_
    refine lv_iconst (v := 0) hx hb dX7_grow_67 (by decide) ?_
    refine va_zast hx hb hK hP hD hS 67 57 gA_67 yA_67 (vp_in_iff.mpr hg1) dX7_grow_68 (fun H locs hP hD hS => ?_)
    replace hP := uA_67 hP
    replace hD := hD0 ((stI (stI (stI z2 65 (σ.1 62 1).toNatClampNeg p2) 66 (σ.1 62 1).toNatClampNeg 0) 67 (σ.1 62 1).toNatClampNeg (vp_nar .boolean 0)))
    obtain ⟨z3, hs, h⟩ := ib h
    replace hs := Option.some.inj hs
    replace hP : va_P (dC, dI) vwCl (wA a k z3) H := by rw [← hs]; exact hP
    replace hD := hD0 z3
    clear hs
    refine lv_aload_n hx hb dX7_grow_69 rfl (lv_at hl 1 rfl) ?_
    refine va_get (D := (dC, dI)) (ci := 7) (C := RX7) (T := TX7) (N := 13) hx hb hts inlX7 hown hK hP 62 gA_62 rfl 7 (by decide) (hts (.fieldLink RX7 35 "ShapeReader$Tree" "worths" "[J") mw_18_8) (fun _ h9 => h9) rfl dX7_grow_70 ?_
    refine lv_iload hx hb dX7_grow_73 (lv_at hl 0 rfl) ?_
    refine lv_lconst (v := 0) hx hb dX7_grow_75 (by decide) ?_
    refine va_last hx hb hK hP hD hS 68 58 gA_68 yA_68 (vp_in_iff.mpr hg1) dX7_grow_76 (fun H locs hP hD hS => ?_)
    replace hP := uA_68 hP
    replace hD := hD0 ((stL z3 68 (σ.1 62 1).toNatClampNeg 0))
    refine lv_aload_n hx hb dX7_grow_77 rfl (lv_at hl 1 rfl) ?_
    refine va_get (D := (dC, dI)) (ci := 7) (C := RX7) (T := TX7) (N := 13) hx hb hts inlX7 hown hK hP 62 gA_62 rfl 8 (by decide) (hts (.fieldLink RX7 39 "ShapeReader$Tree" "firsts" "[I") mw_18_9) (fun _ h9 => h9) rfl dX7_grow_78 ?_
    refine lv_iload hx hb dX7_grow_81 (lv_at hl 0 rfl) ?_
    refine lv_iconst (v := (-1)) hx hb dX7_grow_83 (by decide) ?_
    refine va_iast hx hb hK hP hD hS 69 59 gA_69 yA_69 (vp_in_iff.mpr hg1) dX7_grow_84 (fun H locs hP hD hS => ?_)
    replace hP := uA_69 hP
    replace hD := hD0 ((stI (stL z3 68 (σ.1 62 1).toNatClampNeg 0) 69 (σ.1 62 1).toNatClampNeg (-1)))
    obtain ⟨z4, hs, h⟩ := ib h
    replace hs := Option.some.inj hs
    replace hP : va_P (dC, dI) vwCl (wA a k z4) H := by rw [← hs]; exact hP
    replace hD := hD0 z4
    clear hs
    refine lv_aload_n hx hb dX7_grow_85 rfl (lv_at hl 1 rfl) ?_
    refine va_get (D := (dC, dI)) (ci := 7) (C := RX7) (T := TX7) (N := 13) hx hb hts inlX7 hown hK hP 62 gA_62 rfl 9 (by decide) (hts (.fieldLink RX7 42 "ShapeReader$Tree" "lasts" "[I") mw_18_10) (fun _ h9 => h9) rfl dX7_grow_86 ?_
    refine lv_iload hx hb dX7_grow_89 (lv_at hl 0 rfl) ?_
    refine lv_iconst (v := (-1)) hx hb dX7_grow_91 (by decide) ?_
    refine va_iast hx hb hK hP hD hS 70 60 gA_70 yA_70 (vp_in_iff.mpr hg1) dX7_grow_92 (fun H locs hP hD hS => ?_)
    replace hP := uA_70 hP
    replace hD := hD0 ((stI z4 70 (σ.1 62 1).toNatClampNeg (-1)))
    refine lv_aload_n hx hb dX7_grow_93 rfl (lv_at hl 1 rfl) ?_
    refine va_get (D := (dC, dI)) (ci := 7) (C := RX7) (T := TX7) (N := 13) hx hb hts inlX7 hown hK hP 62 gA_62 rfl 10 (by decide) (hts (.fieldLink RX7 45 "ShapeReader$Tree" "nexts" "[I") mw_18_11) (fun _ h9 => h9) rfl dX7_grow_94 ?_
    refine lv_iload hx hb dX7_grow_97 (lv_at hl 0 rfl) ?_
    refine lv_iconst (v := (-1)) hx hb dX7_grow_99 (by decide) ?_
    refine va_iast hx hb hK hP hD hS 71 61 gA_71 yA_71 (vp_in_iff.mpr hg1) dX7_grow_100 (fun H locs hP hD hS => ?_)
    replace hP := uA_71 hP
    replace hD := hD0 ((stI (stI z4 70 (σ.1 62 1).toNatClampNeg (-1)) 71 (σ.1 62 1).toNatClampNeg (-1)))
    obtain ⟨z5, hs, h⟩ := ib h
    replace hs := Option.some.inj hs
    replace hP : va_P (dC, dI) vwCl (wA a k z5) H := by rw [← hs]; exact hP
    replace hD := hD0 z5
    clear hs
    refine lv_aload_n hx hb dX7_grow_101 rfl (lv_at hl 1 rfl) ?_
    refine lv_iload_n hx hb dX7_grow_102 rfl (lv_at hl 3 rfl) ?_
    obtain ⟨q6, hc, h⟩ := ib h
    have hF := va_frees hD hS hA
    refine va_calli (va_runV (As := [.int p1]) (rest := []) ⟨hx, hb, hml, hown, hts⟩ (s_X7_isRow_62 hc) (cwV 1 hts (gV mw_18_14 mw_18_15 mw_18_16 mw_0_11 mw_51_24) rfl rfl rfl (by decide +kernel) ⟨(Nat.le_of_ble_eq_true rfl), (Nat.le_of_ble_eq_true rfl)⟩) (vV (ci := 7) (q0 := 62) hK hP hD hN rfl gA_62) rfl rfl hl.1 rfl (lv_room (Nat.le_of_ble_eq_true rfl)) dX7_grow_103 ⟨(Nat.le_of_ble_eq_true rfl), (Nat.le_of_ble_eq_true rfl)⟩) hS (fun q _ h => hF q h) hF (fun r7 u t H locs ht hvm hw hB _ _ hS => ?_)
    obtain rfl : r7 = q6.1 := hw
    replace hP : va_P (dC, dI) vwCl (wA a k q6.2) H := by rw [← ht]; exact hB.1
    replace hD := hD0 (q6.2)
    clear hB hF
    refine lv_if_eq (tgt := 116) hx hb dX7_grow_106 (by decide) (fun hc => ?_) (fun hc => ?_)
    · replace h := ip hc h
      refine lv_iload hx hb dX7_grow_116 (lv_at hl 0 rfl) ?_
      obtain rfl := Option.some.inj h
      exact W.iret hx hb hr (fun t ht hW => ⟨⟨_, (), rfl, rfl, ⟨by rw [ht]; exact hP, va_K.moved hW.alike hK, hD⟩⟩, hS.F ht⟩) hS.2.2 dX7_grow_118
    · replace h := iq hc h
      refine lv_aload_n hx hb dX7_grow_109 rfl (lv_at hl 1 rfl) ?_
      refine lv_iload hx hb dX7_grow_110 (lv_at hl 0 rfl) ?_
      refine lv_iload_n hx hb dX7_grow_112 rfl (lv_at hl 3 rfl) ?_
      obtain ⟨q8, hc, h⟩ := ib h
      have hF := va_frees hD hS hA
      refine va_callv (va_runV (As := [.int (σ.1 62 1), .int p1]) (rest := []) ⟨hx, hb, hml, hown, hts⟩ (s_X7_link_62 hc) (cwV 2 hts (gV mw_18_17 mw_18_18 mw_18_19 mw_0_11 mw_51_26) rfl rfl rfl (by decide +kernel) ⟨(Nat.le_of_ble_eq_true rfl), (Nat.le_of_ble_eq_true rfl)⟩) (vV (ci := 7) (q0 := 62) hK hP hD hN rfl gA_62) rfl rfl hl.1 rfl (lv_room (Nat.le_of_ble_eq_true rfl)) dX7_grow_113 ⟨(Nat.le_of_ble_eq_true rfl), (Nat.le_of_ble_eq_true rfl)⟩) hS (fun q _ h => hF q h) hF (fun u t H locs ht hvm hw hB _ _ hS => ?_)
      replace hP : va_P (dC, dI) vwCl (wA a k q8) H := by rw [← ht]; exact hB.1
      replace hD := hD0 (q8)
      clear hB hF
      refine lv_iload hx hb dX7_grow_116 (lv_at hl 0 rfl) ?_
      obtain rfl := Option.some.inj h
      exact W.iret hx hb hr (fun t ht hW => ⟨⟨_, (), rfl, rfl, ⟨by rw [ht]; exact hP, va_K.moved hW.alike hK, hD⟩⟩, hS.F ht⟩) hS.2.2 dX7_grow_118
  · replace h := iq hc h
    refine lv_iconst (v := (-1)) hx hb dX7_grow_11 (by decide) ?_
    obtain rfl := Option.some.inj h
    exact W.iret hx hb hr (fun t ht hW => ⟨⟨_, (), rfl, rfl, ⟨by rw [ht]; exact hP, va_K.moved hW.alike hK, hD⟩⟩, hS.F ht⟩) hS.2.2 dX7_grow_12

theorem s_X7_grow_62 {l : Launch} {dC : Nat → ClassId} {dI : Nat → Nat → Nat} {a : Nat → Nat} {k : Nat → ClassId} {sz : Nat} {p0 : Int32} {p1 : Int32} {p2 : Int32} {σ : ST} {q : Int32 × ST} (h : f_X7_grow 62 p0 p1 p2 σ = some q) : Met l yX7_grow (.code yX7_grow cX7_grow 5 (some .int) :: pw) ({ frames := 2, cells := 0, slots := 0, locals := 47 } : Room) (va_Pc [.ref (a 62), .int p0, .int p1, .int p2] (vPre dC dI (wA a k σ) (tA k) sz)) (qAi dC dI a k (va_A (wA a k σ) sz) q) 0 0 (va_A (wA a k σ) sz) := metA (fun A => qAi dC dI a k A q) (plainFor_of_name (by decide)) (Nat.le_of_ble_eq_true rfl) (fun _ _ _ _ _ _ _ _ hC => b_X7_grow_e_62 hC h)

set_option maxRecDepth 100000 in
set_option maxHeartbeats 4000000 in
theorem b_X7_grow_e_74 {p : Program} {l : Launch} {e : Env} {s : State} {m : MethodId} {args : Array Value} {below : List Frame} {meth : Method} {c : Code} {dC : Nat → ClassId} {dI : Nat → Nat → Nat} {a : Nat → Nat} {k : Nat → ClassId} {A : Nat → Prop} {q : Int32 × ST} (hC : CxA p s m args meth c dC dI k A cX7_grow RX7 (some .int) 5)   {p0 : Int32} {p1 : Int32} {p2 : Int32} {σ : ST} (h : f_X7_grow 74 p0 p1 p2 σ = some q) : GoA p l e ({ frames := 2, cells := 0, slots := 0, locals := 47 } : Room) s m args below meth c (MQ below (qAi dC dI a k A q) args s 0 0 A) dC dI a k A 5 0 σ (lv_args 0 [.ref (a 74), .int p0, .int p1, .int p2]) [] := by
  have hC0 := hC
  obtain ⟨hx, hb, hr, hml, hown, hts, hlocks, hA, hN, hK⟩ := hC0
  intro H locs ls hP hD hS hl
  have hD0 : ∀ σ1 : ST, va_D A (wA a k σ1) := fun σ1 => wA_D hD
  replace hl : lv_has ls 5 [(0, .ref (a 74)), (1, .int p0), (2, .int p1), (3, .int p2)] := hl
  unfold f_X7_grow at h
  refine lv_aload_n hx hb dX7_grow_0 rfl (lv_at hl 0 rfl) ?_
  refine va_get (D := (dC, dI)) (ci := 7) (C := RX7) (T := TX7) (N := 13) hx hb hts inlX7 hown hK hP 74 gA_74 rfl 1 (by decide) (hts (.fieldLink RX7 9 "ShapeReader$Tree" "size" "I") mw_18_1) (fun _ h9 => h9) rfl dX7_grow_1 ?_
  refine lv_aload_n hx hb dX7_grow_4 rfl (lv_at hl 0 rfl) ?_
  refine va_get (D := (dC, dI)) (ci := 7) (C := RX7) (T := TX7) (N := 13) hx hb hts inlX7 hown hK hP 74 gA_74 rfl 0 (by decide) (hts (.fieldLink RX7 15 "ShapeReader$Tree" "rows" "I") mw_18_2) (fun _ h9 => h9) rfl dX7_grow_5 ?_
  refine lv_icmp_lt (tgt := 13) hx hb dX7_grow_8 (by decide) (fun hc => ?_) (fun hc => ?_)
  · replace h := ip hc h
    refine lv_aload_n hx hb dX7_grow_13 rfl (lv_at hl 0 rfl) ?_
    refine va_get (D := (dC, dI)) (ci := 7) (C := RX7) (T := TX7) (N := 13) hx hb hts inlX7 hown hK hP 74 gA_74 rfl 1 (by decide) (hts (.fieldLink RX7 9 "ShapeReader$Tree" "size" "I") mw_18_1) (fun _ h9 => h9) rfl dX7_grow_14 ?_
    refine lv_istore (lv' := [(4, .int (σ.1 74 1)), (0, .ref (a 74)), (1, .int p0), (2, .int p1), (3, .int p2)]) hx hb dX7_grow_17 hl (by decide) rfl (fun ls hl => ?_)
    refine lv_aload_n hx hb dX7_grow_19 rfl (lv_at hl 1 rfl) ?_
    refine lv_dup hx hb dX7_grow_20 rfl ?_
    refine va_get (D := (dC, dI)) (ci := 7) (C := RX7) (T := TX7) (N := 13) hx hb hts inlX7 hown hK hP 74 gA_74 rfl 1 (by decide) (hts (.fieldLink RX7 9 "ShapeReader$Tree" "size" "I") mw_18_1) (fun _ h9 => h9) rfl dX7_grow_21 ?_
    refine lv_iconst (v := 1) hx hb dX7_grow_24 (by decide) ?_
    refine lv_iadd hx hb dX7_grow_25 ?_
    refine va_put (D := (dC, dI)) (ci := 7) (ty := .int) (C := RX7) (T := TX7) (N := 13) hx hb hts inlX7 tyX7 tyX7_ok nmX7 hown hK hP hD hS 74 gA_74 rfl 1 (by decide) (hts (.fieldLink RX7 9 "ShapeReader$Tree" "size" "I") mw_18_1) (fun _ h9 => h9) rfl (by decide +kernel) rfl rfl (Nat.le_of_ble_eq_true rfl) dX7_grow_26 (fun H locs hP hD hS => ?_)
    replace hP := uA_74_1 hP
    replace hD := hD0 ((stI σ 74 1 ((σ.1 74 1) + 1)))
    refine lv_aload_n hx hb dX7_grow_29 rfl (lv_at hl 1 rfl) ?_
    refine va_get (D := (dC, dI)) (ci := 7) (C := RX7) (T := TX7) (N := 13) hx hb hts inlX7 hown hK hP 74 gA_74 rfl 2 (by decide) (hts (.fieldLink RX7 18 "ShapeReader$Tree" "sorts" "[I") mw_18_3) (fun _ h9 => h9) rfl dX7_grow_30 ?_
    refine lv_iload hx hb dX7_grow_33 (lv_at hl 0 rfl) ?_
    refine lv_iload_n hx hb dX7_grow_35 rfl (lv_at hl 2 rfl) ?_
    obtain ⟨hg1, h⟩ := ig h
    refine va_iast hx hb hK hP hD hS 75 64 gA_75 yA_75 (vp_in_iff.mpr hg1) dX7_grow_36 (fun H locs hP hD hS => ?_)
    replace hP := uA_75 hP
    replace hD := hD0 ((stI (stI σ 74 1 ((σ.1 74 1) + 1)) 75 (σ.1 74 1).toNatClampNeg p0))
    refine lv_aload_n hx hb dX7_grow_37 rfl (lv_at hl 1 rfl) ?_
    refine va_get (D := (dC, dI)) (ci := 7) (C := RX7) (T := TX7) (N := 13) hx hb hts inlX7 hown hK hP 74 gA_74 rfl 3 (by decide) (hts (.fieldLink RX7 22 "ShapeReader$Tree" "parents" "[I") mw_18_4) (fun _ h9 => h9) rfl dX7_grow_38 ?_
    refine lv_iload hx hb dX7_grow_41 (lv_at hl 0 rfl) ?_
    refine lv_iload_n hx hb dX7_grow_43 rfl (lv_at hl 3 rfl) ?_
    refine va_iast hx hb hK hP hD hS 76 65 gA_76 yA_76 (vp_in_iff.mpr hg1) dX7_grow_44 (fun H locs hP hD hS => ?_)
    replace hP := uA_76 hP
    replace hD := hD0 ((stI (stI (stI σ 74 1 ((σ.1 74 1) + 1)) 75 (σ.1 74 1).toNatClampNeg p0) 76 (σ.1 74 1).toNatClampNeg p1))
    obtain ⟨z2, hs, h⟩ := ib h
    replace hs := Option.some.inj hs
    replace hP : va_P (dC, dI) vwCl (wA a k z2) H := by rw [← hs]; exact hP
    replace hD := hD0 z2
    clear hs
    refine lv_aload_n hx hb dX7_grow_45 rfl (lv_at hl 1 rfl) ?_
    refine va_get (D := (dC, dI)) (ci := 7) (C := RX7) (T := TX7) (N := 13) hx hb hts inlX7 hown hK hP 74 gA_74 rfl 4 (by decide) (hts (.fieldLink RX7 25 "ShapeReader$Tree" "places" "[I") mw_18_5) (fun _ h9 => h9) rfl dX7_grow_46 ?_
    refine lv_iload hx hb dX7_grow_49 (lv_at hl 0 rfl) ?_
    refine lv_iload_n hx hb dX7_grow_51 rfl (lv_at hl 4 rfl) ?_
    refine va_iast hx hb hK hP hD hS 77 66 gA_77 yA_77 (vp_in_iff.mpr hg1) dX7_grow_52 (fun H locs hP hD hS => ?_)
    replace hP := uA_77 hP
    replace hD := hD0 ((stI z2 77 (σ.1 74 1).toNatClampNeg p2))
    refine lv_aload_n hx hb dX7_grow_53 rfl (lv_at hl 1 rfl) ?_
    refine va_get (D := (dC, dI)) (ci := 7) (C := RX7) (T := TX7) (N := 13) hx hb hts inlX7 hown hK hP 74 gA_74 rfl 5 (by decide) (hts (.fieldLink RX7 28 "ShapeReader$Tree" "sizes" "[I") mw_18_6) (fun _ h9 => h9) rfl dX7_grow_54 ?_
    refine lv_iload hx hb dX7_grow_57 (lv_at hl 0 rfl) ?_
    refine lv_iconst (v := 0) hx hb dX7_grow_59 (by decide) ?_
    refine va_iast hx hb hK hP hD hS 78 67 gA_78 yA_78 (vp_in_iff.mpr hg1) dX7_grow_60 (fun H locs hP hD hS => ?_)
    replace hP := uA_78 hP
    replace hD := hD0 ((stI (stI z2 77 (σ.1 74 1).toNatClampNeg p2) 78 (σ.1 74 1).toNatClampNeg 0))
    refine lv_aload_n hx hb dX7_grow_61 rfl (lv_at hl 1 rfl) ?_
    refine va_get (D := (dC, dI)) (ci := 7) (C := RX7) (T := TX7) (N := 13) hx hb hts inlX7 hown hK hP 74 gA_74 rfl 6 (by decide) (hts (.fieldLink RX7 31 "ShapeReader$Tree" "filled" "[Z") mw_18_7) (fun _ h9 => h9) rfl dX7_grow_62 ?_
    refine lv_iload hx hb dX7_grow_65 (lv_at hl 0 rfl) ?_
    refine lv_iconst (v := 0) hx hb dX7_grow_67 (by decide) ?_
    refine va_zast hx hb hK hP hD hS 79 68 gA_79 yA_79 (vp_in_iff.mpr hg1) dX7_grow_68 (fun H locs hP hD hS => ?_)
    replace hP := uA_79 hP
    replace hD := hD0 ((stI (stI (stI z2 77 (σ.1 74 1).toNatClampNeg p2) 78 (σ.1 74 1).toNatClampNeg 0) 79 (σ.1 74 1).toNatClampNeg (vp_nar .boolean 0)))
    obtain ⟨z3, hs, h⟩ := ib h
    replace hs := Option.some.inj hs
    replace hP : va_P (dC, dI) vwCl (wA a k z3) H := by rw [← hs]; exact hP
    replace hD := hD0 z3
    clear hs
    refine lv_aload_n hx hb dX7_grow_69 rfl (lv_at hl 1 rfl) ?_
    refine va_get (D := (dC, dI)) (ci := 7) (C := RX7) (T := TX7) (N := 13) hx hb hts inlX7 hown hK hP 74 gA_74 rfl 7 (by decide) (hts (.fieldLink RX7 35 "ShapeReader$Tree" "worths" "[J") mw_18_8) (fun _ h9 => h9) rfl dX7_grow_70 ?_
    refine lv_iload hx hb dX7_grow_73 (lv_at hl 0 rfl) ?_
    refine lv_lconst (v := 0) hx hb dX7_grow_75 (by decide) ?_
    refine va_last hx hb hK hP hD hS 80 69 gA_80 yA_80 (vp_in_iff.mpr hg1) dX7_grow_76 (fun H locs hP hD hS => ?_)
    replace hP := uA_80 hP
    replace hD := hD0 ((stL z3 80 (σ.1 74 1).toNatClampNeg 0))
    refine lv_aload_n hx hb dX7_grow_77 rfl (lv_at hl 1 rfl) ?_
    refine va_get (D := (dC, dI)) (ci := 7) (C := RX7) (T := TX7) (N := 13) hx hb hts inlX7 hown hK hP 74 gA_74 rfl 8 (by decide) (hts (.fieldLink RX7 39 "ShapeReader$Tree" "firsts" "[I") mw_18_9) (fun _ h9 => h9) rfl dX7_grow_78 ?_
    refine lv_iload hx hb dX7_grow_81 (lv_at hl 0 rfl) ?_
    refine lv_iconst (v := (-1)) hx hb dX7_grow_83 (by decide) ?_
    refine va_iast hx hb hK hP hD hS 81 70 gA_81 yA_81 (vp_in_iff.mpr hg1) dX7_grow_84 (fun H locs hP hD hS => ?_)
    replace hP := uA_81 hP
    replace hD := hD0 ((stI (stL z3 80 (σ.1 74 1).toNatClampNeg 0) 81 (σ.1 74 1).toNatClampNeg (-1)))
    obtain ⟨z4, hs, h⟩ := ib h
    replace hs := Option.some.inj hs
    replace hP : va_P (dC, dI) vwCl (wA a k z4) H := by rw [← hs]; exact hP
    replace hD := hD0 z4
    clear hs
    refine lv_aload_n hx hb dX7_grow_85 rfl (lv_at hl 1 rfl) ?_
    refine va_get (D := (dC, dI)) (ci := 7) (C := RX7) (T := TX7) (N := 13) hx hb hts inlX7 hown hK hP 74 gA_74 rfl 9 (by decide) (hts (.fieldLink RX7 42 "ShapeReader$Tree" "lasts" "[I") mw_18_10) (fun _ h9 => h9) rfl dX7_grow_86 ?_
    refine lv_iload hx hb dX7_grow_89 (lv_at hl 0 rfl) ?_
    refine lv_iconst (v := (-1)) hx hb dX7_grow_91 (by decide) ?_
    refine va_iast hx hb hK hP hD hS 82 71 gA_82 yA_82 (vp_in_iff.mpr hg1) dX7_grow_92 (fun H locs hP hD hS => ?_)
    replace hP := uA_82 hP
    replace hD := hD0 ((stI z4 82 (σ.1 74 1).toNatClampNeg (-1)))
    refine lv_aload_n hx hb dX7_grow_93 rfl (lv_at hl 1 rfl) ?_
    refine va_get (D := (dC, dI)) (ci := 7) (C := RX7) (T := TX7) (N := 13) hx hb hts inlX7 hown hK hP 74 gA_74 rfl 10 (by decide) (hts (.fieldLink RX7 45 "ShapeReader$Tree" "nexts" "[I") mw_18_11) (fun _ h9 => h9) rfl dX7_grow_94 ?_
    refine lv_iload hx hb dX7_grow_97 (lv_at hl 0 rfl) ?_
    refine lv_iconst (v := (-1)) hx hb dX7_grow_99 (by decide) ?_
    refine va_iast hx hb hK hP hD hS 83 72 gA_83 yA_83 (vp_in_iff.mpr hg1) dX7_grow_100 (fun H locs hP hD hS => ?_)
    replace hP := uA_83 hP
    replace hD := hD0 ((stI (stI z4 82 (σ.1 74 1).toNatClampNeg (-1)) 83 (σ.1 74 1).toNatClampNeg (-1)))
    obtain ⟨z5, hs, h⟩ := ib h
    replace hs := Option.some.inj hs
    replace hP : va_P (dC, dI) vwCl (wA a k z5) H := by rw [← hs]; exact hP
    replace hD := hD0 z5
    clear hs
    refine lv_aload_n hx hb dX7_grow_101 rfl (lv_at hl 1 rfl) ?_
    refine lv_iload_n hx hb dX7_grow_102 rfl (lv_at hl 3 rfl) ?_
    obtain ⟨q6, hc, h⟩ := ib h
    have hF := va_frees hD hS hA
    refine va_calli (va_runV (As := [.int p1]) (rest := []) ⟨hx, hb, hml, hown, hts⟩ (s_X7_isRow_74 hc) (cwV 1 hts (gV mw_18_14 mw_18_15 mw_18_16 mw_0_11 mw_51_24) rfl rfl rfl (by decide +kernel) ⟨(Nat.le_of_ble_eq_true rfl), (Nat.le_of_ble_eq_true rfl)⟩) (vV (ci := 7) (q0 := 74) hK hP hD hN rfl gA_74) rfl rfl hl.1 rfl (lv_room (Nat.le_of_ble_eq_true rfl)) dX7_grow_103 ⟨(Nat.le_of_ble_eq_true rfl), (Nat.le_of_ble_eq_true rfl)⟩) hS (fun q _ h => hF q h) hF (fun r7 u t H locs ht hvm hw hB _ _ hS => ?_)
    obtain rfl : r7 = q6.1 := hw
    replace hP : va_P (dC, dI) vwCl (wA a k q6.2) H := by rw [← ht]; exact hB.1
    replace hD := hD0 (q6.2)
    clear hB hF
    refine lv_if_eq (tgt := 116) hx hb dX7_grow_106 (by decide) (fun hc => ?_) (fun hc => ?_)
    · replace h := ip hc h
      refine lv_iload hx hb dX7_grow_116 (lv_at hl 0 rfl) ?_
      obtain rfl := Option.some.inj h
      exact W.iret hx hb hr (fun t ht hW => ⟨⟨_, (), rfl, rfl, ⟨by rw [ht]; exact hP, va_K.moved hW.alike hK, hD⟩⟩, hS.F ht⟩) hS.2.2 dX7_grow_118
    · replace h := iq hc h
      refine lv_aload_n hx hb dX7_grow_109 rfl (lv_at hl 1 rfl) ?_
      refine lv_iload hx hb dX7_grow_110 (lv_at hl 0 rfl) ?_
      refine lv_iload_n hx hb dX7_grow_112 rfl (lv_at hl 3 rfl) ?_
      obtain ⟨q8, hc, h⟩ := ib h
      have hF := va_frees hD hS hA
      refine va_callv (va_runV (As := [.int (σ.1 74 1), .int p1]) (rest := []) ⟨hx, hb, hml, hown, hts⟩ (s_X7_link_74 hc) (cwV 2 hts (gV mw_18_17 mw_18_18 mw_18_19 mw_0_11 mw_51_26) rfl rfl rfl (by decide +kernel) ⟨(Nat.le_of_ble_eq_true rfl), (Nat.le_of_ble_eq_true rfl)⟩) (vV (ci := 7) (q0 := 74) hK hP hD hN rfl gA_74) rfl rfl hl.1 rfl (lv_room (Nat.le_of_ble_eq_true rfl)) dX7_grow_113 ⟨(Nat.le_of_ble_eq_true rfl), (Nat.le_of_ble_eq_true rfl)⟩) hS (fun q _ h => hF q h) hF (fun u t H locs ht hvm hw hB _ _ hS => ?_)
      replace hP : va_P (dC, dI) vwCl (wA a k q8) H := by rw [← ht]; exact hB.1
      replace hD := hD0 (q8)
      clear hB hF
      refine lv_iload hx hb dX7_grow_116 (lv_at hl 0 rfl) ?_
      obtain rfl := Option.some.inj h
      exact W.iret hx hb hr (fun t ht hW => ⟨⟨_, (), rfl, rfl, ⟨by rw [ht]; exact hP, va_K.moved hW.alike hK, hD⟩⟩, hS.F ht⟩) hS.2.2 dX7_grow_118
  · replace h := iq hc h
    refine lv_iconst (v := (-1)) hx hb dX7_grow_11 (by decide) ?_
    obtain rfl := Option.some.inj h
    exact W.iret hx hb hr (fun t ht hW => ⟨⟨_, (), rfl, rfl, ⟨by rw [ht]; exact hP, va_K.moved hW.alike hK, hD⟩⟩, hS.F ht⟩) hS.2.2 dX7_grow_12

theorem s_X7_grow_74 {l : Launch} {dC : Nat → ClassId} {dI : Nat → Nat → Nat} {a : Nat → Nat} {k : Nat → ClassId} {sz : Nat} {p0 : Int32} {p1 : Int32} {p2 : Int32} {σ : ST} {q : Int32 × ST} (h : f_X7_grow 74 p0 p1 p2 σ = some q) : Met l yX7_grow (.code yX7_grow cX7_grow 5 (some .int) :: pw) ({ frames := 2, cells := 0, slots := 0, locals := 47 } : Room) (va_Pc [.ref (a 74), .int p0, .int p1, .int p2] (vPre dC dI (wA a k σ) (tA k) sz)) (qAi dC dI a k (va_A (wA a k σ) sz) q) 0 0 (va_A (wA a k σ) sz) := metA (fun A => qAi dC dI a k A q) (plainFor_of_name (by decide)) (Nat.le_of_ble_eq_true rfl) (fun _ _ _ _ _ _ _ _ hC => b_X7_grow_e_74 hC h)

def f_X7_setWorth (b : Nat) (p0 : Int32) (p1 : Int32) (p2 : Int64) (σ : ST) : Option (ST) := (f_X7_isRow b p0 σ).bind fun q1 => if q1.1 = 0 then (some q1.2) else (if 0 ≤ p0.toInt ∧ p0.toInt < (ln7 b : Nat) then (some (stL (stI q1.2 (b + 4) p0.toNatClampNeg p1) (b + 6) p0.toNatClampNeg p2)) else none)

set_option maxRecDepth 100000 in
set_option maxHeartbeats 4000000 in
theorem b_X7_setWorth_e_50 {p : Program} {l : Launch} {e : Env} {s : State} {m : MethodId} {args : Array Value} {below : List Frame} {meth : Method} {c : Code} {dC : Nat → ClassId} {dI : Nat → Nat → Nat} {a : Nat → Nat} {k : Nat → ClassId} {A : Nat → Prop} {q : ST} (hC : CxA p s m args meth c dC dI k A cX7_setWorth RX7 none 5)   {p0 : Int32} {p1 : Int32} {p2 : Int64} {σ : ST} (h : f_X7_setWorth 50 p0 p1 p2 σ = some q) : GoA p l e ({ frames := 1, cells := 0, slots := 0, locals := 21 } : Room) s m args below meth c (MQ below (qAv dC dI a k A q) args s 0 0 A) dC dI a k A 5 0 σ (lv_args 0 [.ref (a 50), .int p0, .int p1, .long p2]) [] := by
  have hC0 := hC
  obtain ⟨hx, hb, hr, hml, hown, hts, hlocks, hA, hN, hK⟩ := hC0
  intro H locs ls hP hD hS hl
  have hD0 : ∀ σ1 : ST, va_D A (wA a k σ1) := fun σ1 => wA_D hD
  replace hl : lv_has ls 5 [(0, .ref (a 50)), (1, .int p0), (2, .int p1), (3, .long p2)] := hl
  unfold f_X7_setWorth at h
  refine lv_aload_n hx hb dX7_setWorth_0 rfl (lv_at hl 0 rfl) ?_
  refine lv_iload_n hx hb dX7_setWorth_1 rfl (lv_at hl 1 rfl) ?_
  obtain ⟨q1, hc, h⟩ := ib h
  have hF := va_frees hD hS hA
  refine va_calli (va_runV (As := [.int p0]) (rest := []) ⟨hx, hb, hml, hown, hts⟩ (s_X7_isRow_50 hc) (cwV 1 hts (gV mw_18_14 mw_18_15 mw_18_16 mw_0_11 mw_51_24) rfl rfl rfl (by decide +kernel) ⟨(Nat.le_of_ble_eq_true rfl), (Nat.le_of_ble_eq_true rfl)⟩) (vV (ci := 7) (q0 := 50) hK hP hD hN rfl gA_50) rfl rfl hl.1 rfl (lv_room (Nat.le_of_ble_eq_true rfl)) dX7_setWorth_2 ⟨(Nat.le_of_ble_eq_true rfl), (Nat.le_of_ble_eq_true rfl)⟩) hS (fun q _ h => hF q h) hF (fun r2 u t H locs ht hvm hw hB _ _ hS => ?_)
  obtain rfl : r2 = q1.1 := hw
  replace hP : va_P (dC, dI) vwCl (wA a k q1.2) H := by rw [← ht]; exact hB.1
  replace hD := hD0 (q1.2)
  clear hB hF
  refine lv_if_eq (tgt := 22) hx hb dX7_setWorth_5 (by decide) (fun hc => ?_) (fun hc => ?_)
  · replace h := ip hc h
    obtain rfl := Option.some.inj h
    exact W.vret hx hb hr (fun t ht hW => ⟨⟨(), rfl, trivial, ⟨by rw [ht]; exact hP, va_K.moved hW.alike hK, hD⟩⟩, hS.F ht⟩) hS.2.2 dX7_setWorth_22
  · replace h := iq hc h
    refine lv_aload_n hx hb dX7_setWorth_8 rfl (lv_at hl 0 rfl) ?_
    refine va_get (D := (dC, dI)) (ci := 7) (C := RX7) (T := TX7) (N := 13) hx hb hts inlX7 hown hK hP 50 gA_50 rfl 5 (by decide) (hts (.fieldLink RX7 28 "ShapeReader$Tree" "sizes" "[I") mw_18_6) (fun _ h9 => h9) rfl dX7_setWorth_9 ?_
    refine lv_iload_n hx hb dX7_setWorth_12 rfl (lv_at hl 1 rfl) ?_
    refine lv_iload_n hx hb dX7_setWorth_13 rfl (lv_at hl 2 rfl) ?_
    obtain ⟨hg3, h⟩ := ig h
    refine va_iast hx hb hK hP hD hS 54 45 gA_54 yA_54 (vp_in_iff.mpr hg3) dX7_setWorth_14 (fun H locs hP hD hS => ?_)
    replace hP := uA_54 hP
    replace hD := hD0 ((stI q1.2 54 p0.toNatClampNeg p1))
    refine lv_aload_n hx hb dX7_setWorth_15 rfl (lv_at hl 0 rfl) ?_
    refine va_get (D := (dC, dI)) (ci := 7) (C := RX7) (T := TX7) (N := 13) hx hb hts inlX7 hown hK hP 50 gA_50 rfl 7 (by decide) (hts (.fieldLink RX7 35 "ShapeReader$Tree" "worths" "[J") mw_18_8) (fun _ h9 => h9) rfl dX7_setWorth_16 ?_
    refine lv_iload_n hx hb dX7_setWorth_19 rfl (lv_at hl 1 rfl) ?_
    refine lv_lload_n hx hb dX7_setWorth_20 rfl (lv_at hl 3 rfl) ?_
    refine va_last hx hb hK hP hD hS 56 47 gA_56 yA_56 (vp_in_iff.mpr hg3) dX7_setWorth_21 (fun H locs hP hD hS => ?_)
    replace hP := uA_56 hP
    replace hD := hD0 ((stL (stI q1.2 54 p0.toNatClampNeg p1) 56 p0.toNatClampNeg p2))
    obtain rfl := Option.some.inj h
    exact W.vret hx hb hr (fun t ht hW => ⟨⟨(), rfl, trivial, ⟨by rw [ht]; exact hP, va_K.moved hW.alike hK, hD⟩⟩, hS.F ht⟩) hS.2.2 dX7_setWorth_22

theorem s_X7_setWorth_50 {l : Launch} {dC : Nat → ClassId} {dI : Nat → Nat → Nat} {a : Nat → Nat} {k : Nat → ClassId} {sz : Nat} {p0 : Int32} {p1 : Int32} {p2 : Int64} {σ : ST} {q : ST} (h : f_X7_setWorth 50 p0 p1 p2 σ = some q) : Met l yX7_setWorth (.code yX7_setWorth cX7_setWorth 5 none :: pw) ({ frames := 1, cells := 0, slots := 0, locals := 21 } : Room) (va_Pc [.ref (a 50), .int p0, .int p1, .long p2] (vPre dC dI (wA a k σ) (tA k) sz)) (qAv dC dI a k (va_A (wA a k σ) sz) q) 0 0 (va_A (wA a k σ) sz) := metA (fun A => qAv dC dI a k A q) (plainFor_of_name (by decide)) (Nat.le_of_ble_eq_true rfl) (fun _ _ _ _ _ _ _ _ hC => b_X7_setWorth_e_50 hC h)

set_option maxRecDepth 100000 in
set_option maxHeartbeats 4000000 in
theorem b_X7_setWorth_e_62 {p : Program} {l : Launch} {e : Env} {s : State} {m : MethodId} {args : Array Value} {below : List Frame} {meth : Method} {c : Code} {dC : Nat → ClassId} {dI : Nat → Nat → Nat} {a : Nat → Nat} {k : Nat → ClassId} {A : Nat → Prop} {q : ST} (hC : CxA p s m args meth c dC dI k A cX7_setWorth RX7 none 5)   {p0 : Int32} {p1 : Int32} {p2 : Int64} {σ : ST} (h : f_X7_setWorth 62 p0 p1 p2 σ = some q) : GoA p l e ({ frames := 1, cells := 0, slots := 0, locals := 21 } : Room) s m args below meth c (MQ below (qAv dC dI a k A q) args s 0 0 A) dC dI a k A 5 0 σ (lv_args 0 [.ref (a 62), .int p0, .int p1, .long p2]) [] := by
  have hC0 := hC
  obtain ⟨hx, hb, hr, hml, hown, hts, hlocks, hA, hN, hK⟩ := hC0
  intro H locs ls hP hD hS hl
  have hD0 : ∀ σ1 : ST, va_D A (wA a k σ1) := fun σ1 => wA_D hD
  replace hl : lv_has ls 5 [(0, .ref (a 62)), (1, .int p0), (2, .int p1), (3, .long p2)] := hl
  unfold f_X7_setWorth at h
  refine lv_aload_n hx hb dX7_setWorth_0 rfl (lv_at hl 0 rfl) ?_
  refine lv_iload_n hx hb dX7_setWorth_1 rfl (lv_at hl 1 rfl) ?_
  obtain ⟨q1, hc, h⟩ := ib h
  have hF := va_frees hD hS hA
  refine va_calli (va_runV (As := [.int p0]) (rest := []) ⟨hx, hb, hml, hown, hts⟩ (s_X7_isRow_62 hc) (cwV 1 hts (gV mw_18_14 mw_18_15 mw_18_16 mw_0_11 mw_51_24) rfl rfl rfl (by decide +kernel) ⟨(Nat.le_of_ble_eq_true rfl), (Nat.le_of_ble_eq_true rfl)⟩) (vV (ci := 7) (q0 := 62) hK hP hD hN rfl gA_62) rfl rfl hl.1 rfl (lv_room (Nat.le_of_ble_eq_true rfl)) dX7_setWorth_2 ⟨(Nat.le_of_ble_eq_true rfl), (Nat.le_of_ble_eq_true rfl)⟩) hS (fun q _ h => hF q h) hF (fun r2 u t H locs ht hvm hw hB _ _ hS => ?_)
  obtain rfl : r2 = q1.1 := hw
  replace hP : va_P (dC, dI) vwCl (wA a k q1.2) H := by rw [← ht]; exact hB.1
  replace hD := hD0 (q1.2)
  clear hB hF
  refine lv_if_eq (tgt := 22) hx hb dX7_setWorth_5 (by decide) (fun hc => ?_) (fun hc => ?_)
  · replace h := ip hc h
    obtain rfl := Option.some.inj h
    exact W.vret hx hb hr (fun t ht hW => ⟨⟨(), rfl, trivial, ⟨by rw [ht]; exact hP, va_K.moved hW.alike hK, hD⟩⟩, hS.F ht⟩) hS.2.2 dX7_setWorth_22
  · replace h := iq hc h
    refine lv_aload_n hx hb dX7_setWorth_8 rfl (lv_at hl 0 rfl) ?_
    refine va_get (D := (dC, dI)) (ci := 7) (C := RX7) (T := TX7) (N := 13) hx hb hts inlX7 hown hK hP 62 gA_62 rfl 5 (by decide) (hts (.fieldLink RX7 28 "ShapeReader$Tree" "sizes" "[I") mw_18_6) (fun _ h9 => h9) rfl dX7_setWorth_9 ?_
    refine lv_iload_n hx hb dX7_setWorth_12 rfl (lv_at hl 1 rfl) ?_
    refine lv_iload_n hx hb dX7_setWorth_13 rfl (lv_at hl 2 rfl) ?_
    obtain ⟨hg3, h⟩ := ig h
    refine va_iast hx hb hK hP hD hS 66 56 gA_66 yA_66 (vp_in_iff.mpr hg3) dX7_setWorth_14 (fun H locs hP hD hS => ?_)
    replace hP := uA_66 hP
    replace hD := hD0 ((stI q1.2 66 p0.toNatClampNeg p1))
    refine lv_aload_n hx hb dX7_setWorth_15 rfl (lv_at hl 0 rfl) ?_
    refine va_get (D := (dC, dI)) (ci := 7) (C := RX7) (T := TX7) (N := 13) hx hb hts inlX7 hown hK hP 62 gA_62 rfl 7 (by decide) (hts (.fieldLink RX7 35 "ShapeReader$Tree" "worths" "[J") mw_18_8) (fun _ h9 => h9) rfl dX7_setWorth_16 ?_
    refine lv_iload_n hx hb dX7_setWorth_19 rfl (lv_at hl 1 rfl) ?_
    refine lv_lload_n hx hb dX7_setWorth_20 rfl (lv_at hl 3 rfl) ?_
    refine va_last hx hb hK hP hD hS 68 58 gA_68 yA_68 (vp_in_iff.mpr hg3) dX7_setWorth_21 (fun H locs hP hD hS => ?_)
    replace hP := uA_68 hP
    replace hD := hD0 ((stL (stI q1.2 66 p0.toNatClampNeg p1) 68 p0.toNatClampNeg p2))
    obtain rfl := Option.some.inj h
    exact W.vret hx hb hr (fun t ht hW => ⟨⟨(), rfl, trivial, ⟨by rw [ht]; exact hP, va_K.moved hW.alike hK, hD⟩⟩, hS.F ht⟩) hS.2.2 dX7_setWorth_22

theorem s_X7_setWorth_62 {l : Launch} {dC : Nat → ClassId} {dI : Nat → Nat → Nat} {a : Nat → Nat} {k : Nat → ClassId} {sz : Nat} {p0 : Int32} {p1 : Int32} {p2 : Int64} {σ : ST} {q : ST} (h : f_X7_setWorth 62 p0 p1 p2 σ = some q) : Met l yX7_setWorth (.code yX7_setWorth cX7_setWorth 5 none :: pw) ({ frames := 1, cells := 0, slots := 0, locals := 21 } : Room) (va_Pc [.ref (a 62), .int p0, .int p1, .long p2] (vPre dC dI (wA a k σ) (tA k) sz)) (qAv dC dI a k (va_A (wA a k σ) sz) q) 0 0 (va_A (wA a k σ) sz) := metA (fun A => qAv dC dI a k A q) (plainFor_of_name (by decide)) (Nat.le_of_ble_eq_true rfl) (fun _ _ _ _ _ _ _ _ hC => b_X7_setWorth_e_62 hC h)

set_option maxRecDepth 100000 in
set_option maxHeartbeats 4000000 in
theorem b_X7_setWorth_e_74 {p : Program} {l : Launch} {e : Env} {s : State} {m : MethodId} {args : Array Value} {below : List Frame} {meth : Method} {c : Code} {dC : Nat → ClassId} {dI : Nat → Nat → Nat} {a : Nat → Nat} {k : Nat → ClassId} {A : Nat → Prop} {q : ST} (hC : CxA p s m args meth c dC dI k A cX7_setWorth RX7 none 5)   {p0 : Int32} {p1 : Int32} {p2 : Int64} {σ : ST} (h : f_X7_setWorth 74 p0 p1 p2 σ = some q) : GoA p l e ({ frames := 1, cells := 0, slots := 0, locals := 21 } : Room) s m args below meth c (MQ below (qAv dC dI a k A q) args s 0 0 A) dC dI a k A 5 0 σ (lv_args 0 [.ref (a 74), .int p0, .int p1, .long p2]) [] := by
  have hC0 := hC
  obtain ⟨hx, hb, hr, hml, hown, hts, hlocks, hA, hN, hK⟩ := hC0
  intro H locs ls hP hD hS hl
  have hD0 : ∀ σ1 : ST, va_D A (wA a k σ1) := fun σ1 => wA_D hD
  replace hl : lv_has ls 5 [(0, .ref (a 74)), (1, .int p0), (2, .int p1), (3, .long p2)] := hl
  unfold f_X7_setWorth at h
  refine lv_aload_n hx hb dX7_setWorth_0 rfl (lv_at hl 0 rfl) ?_
  refine lv_iload_n hx hb dX7_setWorth_1 rfl (lv_at hl 1 rfl) ?_
  obtain ⟨q1, hc, h⟩ := ib h
  have hF := va_frees hD hS hA
  refine va_calli (va_runV (As := [.int p0]) (rest := []) ⟨hx, hb, hml, hown, hts⟩ (s_X7_isRow_74 hc) (cwV 1 hts (gV mw_18_14 mw_18_15 mw_18_16 mw_0_11 mw_51_24) rfl rfl rfl (by decide +kernel) ⟨(Nat.le_of_ble_eq_true rfl), (Nat.le_of_ble_eq_true rfl)⟩) (vV (ci := 7) (q0 := 74) hK hP hD hN rfl gA_74) rfl rfl hl.1 rfl (lv_room (Nat.le_of_ble_eq_true rfl)) dX7_setWorth_2 ⟨(Nat.le_of_ble_eq_true rfl), (Nat.le_of_ble_eq_true rfl)⟩) hS (fun q _ h => hF q h) hF (fun r2 u t H locs ht hvm hw hB _ _ hS => ?_)
  obtain rfl : r2 = q1.1 := hw
  replace hP : va_P (dC, dI) vwCl (wA a k q1.2) H := by rw [← ht]; exact hB.1
  replace hD := hD0 (q1.2)
  clear hB hF
  refine lv_if_eq (tgt := 22) hx hb dX7_setWorth_5 (by decide) (fun hc => ?_) (fun hc => ?_)
  · replace h := ip hc h
    obtain rfl := Option.some.inj h
    exact W.vret hx hb hr (fun t ht hW => ⟨⟨(), rfl, trivial, ⟨by rw [ht]; exact hP, va_K.moved hW.alike hK, hD⟩⟩, hS.F ht⟩) hS.2.2 dX7_setWorth_22
  · replace h := iq hc h
    refine lv_aload_n hx hb dX7_setWorth_8 rfl (lv_at hl 0 rfl) ?_
    refine va_get (D := (dC, dI)) (ci := 7) (C := RX7) (T := TX7) (N := 13) hx hb hts inlX7 hown hK hP 74 gA_74 rfl 5 (by decide) (hts (.fieldLink RX7 28 "ShapeReader$Tree" "sizes" "[I") mw_18_6) (fun _ h9 => h9) rfl dX7_setWorth_9 ?_
    refine lv_iload_n hx hb dX7_setWorth_12 rfl (lv_at hl 1 rfl) ?_
    refine lv_iload_n hx hb dX7_setWorth_13 rfl (lv_at hl 2 rfl) ?_
    obtain ⟨hg3, h⟩ := ig h
    refine va_iast hx hb hK hP hD hS 78 67 gA_78 yA_78 (vp_in_iff.mpr hg3) dX7_setWorth_14 (fun H locs hP hD hS => ?_)
    replace hP := uA_78 hP
    replace hD := hD0 ((stI q1.2 78 p0.toNatClampNeg p1))
    refine lv_aload_n hx hb dX7_setWorth_15 rfl (lv_at hl 0 rfl) ?_
    refine va_get (D := (dC, dI)) (ci := 7) (C := RX7) (T := TX7) (N := 13) hx hb hts inlX7 hown hK hP 74 gA_74 rfl 7 (by decide) (hts (.fieldLink RX7 35 "ShapeReader$Tree" "worths" "[J") mw_18_8) (fun _ h9 => h9) rfl dX7_setWorth_16 ?_
    refine lv_iload_n hx hb dX7_setWorth_19 rfl (lv_at hl 1 rfl) ?_
    refine lv_lload_n hx hb dX7_setWorth_20 rfl (lv_at hl 3 rfl) ?_
    refine va_last hx hb hK hP hD hS 80 69 gA_80 yA_80 (vp_in_iff.mpr hg3) dX7_setWorth_21 (fun H locs hP hD hS => ?_)
    replace hP := uA_80 hP
    replace hD := hD0 ((stL (stI q1.2 78 p0.toNatClampNeg p1) 80 p0.toNatClampNeg p2))
    obtain rfl := Option.some.inj h
    exact W.vret hx hb hr (fun t ht hW => ⟨⟨(), rfl, trivial, ⟨by rw [ht]; exact hP, va_K.moved hW.alike hK, hD⟩⟩, hS.F ht⟩) hS.2.2 dX7_setWorth_22

theorem s_X7_setWorth_74 {l : Launch} {dC : Nat → ClassId} {dI : Nat → Nat → Nat} {a : Nat → Nat} {k : Nat → ClassId} {sz : Nat} {p0 : Int32} {p1 : Int32} {p2 : Int64} {σ : ST} {q : ST} (h : f_X7_setWorth 74 p0 p1 p2 σ = some q) : Met l yX7_setWorth (.code yX7_setWorth cX7_setWorth 5 none :: pw) ({ frames := 1, cells := 0, slots := 0, locals := 21 } : Room) (va_Pc [.ref (a 74), .int p0, .int p1, .long p2] (vPre dC dI (wA a k σ) (tA k) sz)) (qAv dC dI a k (va_A (wA a k σ) sz) q) 0 0 (va_A (wA a k σ) sz) := metA (fun A => qAv dC dI a k A q) (plainFor_of_name (by decide)) (Nat.le_of_ble_eq_true rfl) (fun _ _ _ _ _ _ _ _ hC => b_X7_setWorth_e_74 hC h)
