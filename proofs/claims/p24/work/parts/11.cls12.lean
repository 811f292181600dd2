theorem dX10_alike_0 : decode cX10_alike 0 = .ok (.aload_n 0, 1) := by decide +kernel
theorem dX10_alike_1 : decode cX10_alike 1 = .ok (.getfield 48, 3) := by decide +kernel
theorem dX10_alike_4 : decode cX10_alike 4 = .ok (.iload_n 1, 1) := by decide +kernel
theorem dX10_alike_5 : decode cX10_alike 5 = .ok (.invokevirtual 205, 3) := by decide +kernel
theorem dX10_alike_8 : decode cX10_alike 8 = .ok (.ifCond .eq 22, 3) := by decide +kernel
theorem dX10_alike_11 : decode cX10_alike 11 = .ok (.aload_n 0, 1) := by decide +kernel
theorem dX10_alike_12 : decode cX10_alike 12 = .ok (.getfield 48, 3) := by decide +kernel
theorem dX10_alike_15 : decode cX10_alike 15 = .ok (.iload_n 2, 1) := by decide +kernel
theorem dX10_alike_16 : decode cX10_alike 16 = .ok (.invokevirtual 205, 3) := by decide +kernel
theorem dX10_alike_19 : decode cX10_alike 19 = .ok (.ifCond .eq 11, 3) := by decide +kernel
theorem dX10_alike_22 : decode cX10_alike 22 = .ok (.aload_n 0, 1) := by decide +kernel
theorem dX10_alike_23 : decode cX10_alike 23 = .ok (.iload_n 3, 1) := by decide +kernel
theorem dX10_alike_24 : decode cX10_alike 24 = .ok (.invokevirtual 144, 3) := by decide +kernel
theorem dX10_alike_27 : decode cX10_alike 27 = .ok (.ifCond .ne 5, 3) := by decide +kernel
theorem dX10_alike_30 : decode cX10_alike 30 = .ok (.iconst (-1), 1) := by decide +kernel
theorem dX10_alike_31 : decode cX10_alike 31 = .ok (.ireturn, 1) := by decide +kernel
theorem dX10_alike_32 : decode cX10_alike 32 = .ok (.aload_n 0, 1) := by decide +kernel
theorem dX10_alike_33 : decode cX10_alike 33 = .ok (.getfield 108, 3) := by decide +kernel
theorem dX10_alike_36 : decode cX10_alike 36 = .ok (.iload_n 1, 1) := by decide +kernel
theorem dX10_alike_37 : decode cX10_alike 37 = .ok (.iload_n 3, 1) := by decide +kernel
theorem dX10_alike_38 : decode cX10_alike 38 = .ok (.aload_n 0, 1) := by decide +kernel
theorem dX10_alike_39 : decode cX10_alike 39 = .ok (.getfield 77, 3) := by decide +kernel
theorem dX10_alike_42 : decode cX10_alike 42 = .ok (.invokevirtual 252, 3) := by decide +kernel
theorem dX10_alike_45 : decode cX10_alike 45 = .ok (.istore 4, 2) := by decide +kernel
theorem dX10_alike_47 : decode cX10_alike 47 = .ok (.iload 4, 2) := by decide +kernel
theorem dX10_alike_49 : decode cX10_alike 49 = .ok (.ifCond .ge 6, 3) := by decide +kernel
theorem dX10_alike_52 : decode cX10_alike 52 = .ok (.iload 4, 2) := by decide +kernel
theorem dX10_alike_54 : decode cX10_alike 54 = .ok (.ireturn, 1) := by decide +kernel
theorem dX10_alike_55 : decode cX10_alike 55 = .ok (.aload_n 0, 1) := by decide +kernel
theorem dX10_alike_56 : decode cX10_alike 56 = .ok (.getfield 108, 3) := by decide +kernel
theorem dX10_alike_59 : decode cX10_alike 59 = .ok (.iload_n 2, 1) := by decide +kernel
theorem dX10_alike_60 : decode cX10_alike 60 = .ok (.iload_n 3, 1) := by decide +kernel
theorem dX10_alike_61 : decode cX10_alike 61 = .ok (.aload_n 0, 1) := by decide +kernel
theorem dX10_alike_62 : decode cX10_alike 62 = .ok (.getfield 80, 3) := by decide +kernel
theorem dX10_alike_65 : decode cX10_alike 65 = .ok (.invokevirtual 252, 3) := by decide +kernel
theorem dX10_alike_68 : decode cX10_alike 68 = .ok (.istore 5, 2) := by decide +kernel
theorem dX10_alike_70 : decode cX10_alike 70 = .ok (.iload 5, 2) := by decide +kernel
theorem dX10_alike_72 : decode cX10_alike 72 = .ok (.ifCond .ge 6, 3) := by decide +kernel
theorem dX10_alike_75 : decode cX10_alike 75 = .ok (.iload 5, 2) := by decide +kernel
theorem dX10_alike_77 : decode cX10_alike 77 = .ok (.ireturn, 1) := by decide +kernel
theorem dX10_alike_78 : decode cX10_alike 78 = .ok (.aload_n 0, 1) := by decide +kernel
theorem dX10_alike_79 : decode cX10_alike 79 = .ok (.getfield 77, 3) := by decide +kernel
theorem dX10_alike_82 : decode cX10_alike 82 = .ok (.aload_n 0, 1) := by decide +kernel
theorem dX10_alike_83 : decode cX10_alike 83 = .ok (.getfield 80, 3) := by decide +kernel
theorem dX10_alike_86 : decode cX10_alike 86 = .ok (.invokevirtual 294, 3) := by decide +kernel
theorem dX10_alike_89 : decode cX10_alike 89 = .ok (.ifCond .eq 7, 3) := by decide +kernel
theorem dX10_alike_92 : decode cX10_alike 92 = .ok (.iconst 1, 1) := by decide +kernel
theorem dX10_alike_93 : decode cX10_alike 93 = .ok (.goto 4, 3) := by decide +kernel
theorem dX10_alike_96 : decode cX10_alike 96 = .ok (.iconst 0, 1) := by decide +kernel
theorem dX10_alike_97 : decode cX10_alike 97 = .ok (.ireturn, 1) := by decide +kernel
theorem dX1_hasByte_0 : decode cX1_hasByte 0 = .ok (.aload_n 0, 1) := by decide +kernel
theorem dX1_hasByte_1 : decode cX1_hasByte 1 = .ok (.iload_n 1, 1) := by decide +kernel
theorem dX1_hasByte_2 : decode cX1_hasByte 2 = .ok (.invokevirtual 32, 3) := by decide +kernel
theorem dX1_hasByte_5 : decode cX1_hasByte 5 = .ok (.ifCond .eq 28, 3) := by decide +kernel
theorem dX1_hasByte_8 : decode cX1_hasByte 8 = .ok (.iload_n 2, 1) := by decide +kernel
theorem dX1_hasByte_9 : decode cX1_hasByte 9 = .ok (.ifCond .lt 24, 3) := by decide +kernel
theorem dX1_hasByte_12 : decode cX1_hasByte 12 = .ok (.iload_n 2, 1) := by decide +kernel
theorem dX1_hasByte_13 : decode cX1_hasByte 13 = .ok (.aload_n 0, 1) := by decide +kernel
theorem dX1_hasByte_14 : decode cX1_hasByte 14 = .ok (.getfield 15, 3) := by decide +kernel
theorem dX1_hasByte_17 : decode cX1_hasByte 17 = .ok (.iload_n 1, 1) := by decide +kernel
theorem dX1_hasByte_18 : decode cX1_hasByte 18 = .ok (.iaload, 1) := by decide +kernel
theorem dX1_hasByte_19 : decode cX1_hasByte 19 = .ok (.if_icmp .ge 14, 3) := by decide +kernel
theorem dX1_hasByte_22 : decode cX1_hasByte 22 = .ok (.iload_n 2, 1) := by decide +kernel
theorem dX1_hasByte_23 : decode cX1_hasByte 23 = .ok (.sipush 400, 3) := by decide +kernel
theorem dX1_hasByte_26 : decode cX1_hasByte 26 = .ok (.if_icmp .ge 7, 3) := by decide +kernel
theorem dX1_hasByte_29 : decode cX1_hasByte 29 = .ok (.iconst 1, 1) := by decide +kernel
theorem dX1_hasByte_30 : decode cX1_hasByte 30 = .ok (.goto 4, 3) := by decide +kernel
theorem dX1_hasByte_33 : decode cX1_hasByte 33 = .ok (.iconst 0, 1) := by decide +kernel
theorem dX1_hasByte_34 : decode cX1_hasByte 34 = .ok (.ireturn, 1) := by decide +kernel
theorem dX7_isLike_0 : decode cX7_isLike 0 = .ok (.aload_n 0, 1) := by decide +kernel
theorem dX7_isLike_1 : decode cX7_isLike 1 = .ok (.getfield 9, 3) := by decide +kernel
theorem dX7_isLike_4 : decode cX7_isLike 4 = .ok (.aload_n 1, 1) := by decide +kernel
theorem dX7_isLike_5 : decode cX7_isLike 5 = .ok (.getfield 9, 3) := by decide +kernel
theorem dX7_isLike_8 : decode cX7_isLike 8 = .ok (.if_icmp .eq 5, 3) := by decide +kernel
theorem dX7_isLike_11 : decode cX7_isLike 11 = .ok (.iconst 0, 1) := by decide +kernel
theorem dX7_isLike_12 : decode cX7_isLike 12 = .ok (.ireturn, 1) := by decide +kernel
theorem dX7_isLike_13 : decode cX7_isLike 13 = .ok (.iconst 0, 1) := by decide +kernel
theorem dX7_isLike_14 : decode cX7_isLike 14 = .ok (.istore_n 2, 1) := by decide +kernel
theorem dX7_isLike_15 : decode cX7_isLike 15 = .ok (.iload_n 2, 1) := by decide +kernel
theorem dX7_isLike_16 : decode cX7_isLike 16 = .ok (.aload_n 0, 1) := by decide +kernel
theorem dX7_isLike_17 : decode cX7_isLike 17 = .ok (.getfield 9, 3) := by decide +kernel
theorem dX7_isLike_20 : decode cX7_isLike 20 = .ok (.if_icmp .ge 67, 3) := by decide +kernel
theorem dX7_isLike_23 : decode cX7_isLike 23 = .ok (.aload_n 0, 1) := by decide +kernel
theorem dX7_isLike_24 : decode cX7_isLike 24 = .ok (.iload_n 2, 1) := by decide +kernel
theorem dX7_isLike_25 : decode cX7_isLike 25 = .ok (.invokevirtual 75, 3) := by decide +kernel
theorem dX7_isLike_28 : decode cX7_isLike 28 = .ok (.istore_n 3, 1) := by decide +kernel
theorem dX7_isLike_29 : decode cX7_isLike 29 = .ok (.aload_n 1, 1) := by decide +kernel
theorem dX7_isLike_30 : decode cX7_isLike 30 = .ok (.iload_n 2, 1) := by decide +kernel
theorem dX7_isLike_31 : decode cX7_isLike 31 = .ok (.invokevirtual 75, 3) := by decide +kernel
theorem dX7_isLike_34 : decode cX7_isLike 34 = .ok (.istore 4, 2) := by decide +kernel
theorem dX7_isLike_36 : decode cX7_isLike 36 = .ok (.aload_n 0, 1) := by decide +kernel
theorem dX7_isLike_37 : decode cX7_isLike 37 = .ok (.iload_n 3, 1) := by decide +kernel
theorem dX7_isLike_38 : decode cX7_isLike 38 = .ok (.invokevirtual 78, 3) := by decide +kernel
theorem dX7_isLike_41 : decode cX7_isLike 41 = .ok (.aload_n 1, 1) := by decide +kernel
theorem dX7_isLike_42 : decode cX7_isLike 42 = .ok (.iload 4, 2) := by decide +kernel
theorem dX7_isLike_44 : decode cX7_isLike 44 = .ok (.invokevirtual 78, 3) := by decide +kernel
theorem dX7_isLike_47 : decode cX7_isLike 47 = .ok (.if_icmp .ne 32, 3) := by decide +kernel
theorem dX7_isLike_50 : decode cX7_isLike 50 = .ok (.aload_n 0, 1) := by decide +kernel
theorem dX7_isLike_51 : decode cX7_isLike 51 = .ok (.iload_n 3, 1) := by decide +kernel
theorem dX7_isLike_52 : decode cX7_isLike 52 = .ok (.invokevirtual 81, 3) := by decide +kernel
theorem dX7_isLike_55 : decode cX7_isLike 55 = .ok (.aload_n 1, 1) := by decide +kernel
theorem dX7_isLike_56 : decode cX7_isLike 56 = .ok (.iload 4, 2) := by decide +kernel
theorem dX7_isLike_58 : decode cX7_isLike 58 = .ok (.invokevirtual 81, 3) := by decide +kernel
theorem dX7_isLike_61 : decode cX7_isLike 61 = .ok (.if_icmp .ne 18, 3) := by decide +kernel
theorem dX7_isLike_64 : decode cX7_isLike 64 = .ok (.aload_n 0, 1) := by decide +kernel
theorem dX7_isLike_65 : decode cX7_isLike 65 = .ok (.iload_n 3, 1) := by decide +kernel
theorem dX7_isLike_66 : decode cX7_isLike 66 = .ok (.invokevirtual 84, 3) := by decide +kernel
theorem dX7_isLike_69 : decode cX7_isLike 69 = .ok (.aload_n 1, 1) := by decide +kernel
theorem dX7_isLike_70 : decode cX7_isLike 70 = .ok (.iload 4, 2) := by decide +kernel
theorem dX7_isLike_72 : decode cX7_isLike 72 = .ok (.invokevirtual 84, 3) := by decide +kernel
theorem dX7_isLike_75 : decode cX7_isLike 75 = .ok (.lcmp, 1) := by decide +kernel
theorem dX7_isLike_76 : decode cX7_isLike 76 = .ok (.ifCond .eq 5, 3) := by decide +kernel
theorem dX7_isLike_79 : decode cX7_isLike 79 = .ok (.iconst 0, 1) := by decide +kernel
theorem dX7_isLike_80 : decode cX7_isLike 80 = .ok (.ireturn, 1) := by decide +kernel
theorem dX7_isLike_81 : decode cX7_isLike 81 = .ok (.iinc 2 1, 3) := by decide +kernel
theorem dX7_isLike_84 : decode cX7_isLike 84 = .ok (.goto (-69), 3) := by decide +kernel
theorem dX7_isLike_87 : decode cX7_isLike 87 = .ok (.iconst 1, 1) := by decide +kernel
theorem dX7_isLike_88 : decode cX7_isLike 88 = .ok (.ireturn, 1) := by decide +kernel
theorem dX7_rowAt_0 : decode cX7_rowAt 0 = .ok (.iload_n 1, 1) := by decide +kernel
theorem dX7_rowAt_1 : decode cX7_rowAt 1 = .ok (.ifCond .lt 28, 3) := by decide +kernel
theorem dX7_rowAt_4 : decode cX7_rowAt 4 = .ok (.iload_n 1, 1) := by decide +kernel
theorem dX7_rowAt_5 : decode cX7_rowAt 5 = .ok (.aload_n 0, 1) := by decide +kernel
theorem dX7_rowAt_6 : decode cX7_rowAt 6 = .ok (.getfield 9, 3) := by decide +kernel
theorem dX7_rowAt_9 : decode cX7_rowAt 9 = .ok (.if_icmp .ge 20, 3) := by decide +kernel
theorem dX7_rowAt_12 : decode cX7_rowAt 12 = .ok (.iload_n 1, 1) := by decide +kernel
theorem dX7_rowAt_13 : decode cX7_rowAt 13 = .ok (.aload_n 0, 1) := by decide +kernel
theorem dX7_rowAt_14 : decode cX7_rowAt 14 = .ok (.getfield 15, 3) := by decide +kernel
theorem dX7_rowAt_17 : decode cX7_rowAt 17 = .ok (.if_icmp .ge 12, 3) := by decide +kernel
theorem dX7_rowAt_20 : decode cX7_rowAt 20 = .ok (.aload_n 0, 1) := by decide +kernel
theorem dX7_rowAt_21 : decode cX7_rowAt 21 = .ok (.getfield 48, 3) := by decide +kernel
theorem dX7_rowAt_24 : decode cX7_rowAt 24 = .ok (.iload_n 1, 1) := by decide +kernel
theorem dX7_rowAt_25 : decode cX7_rowAt 25 = .ok (.iaload, 1) := by decide +kernel
theorem dX7_rowAt_26 : decode cX7_rowAt 26 = .ok (.goto 4, 3) := by decide +kernel
theorem dX7_rowAt_29 : decode cX7_rowAt 29 = .ok (.iconst (-1), 1) := by decide +kernel
theorem dX7_rowAt_30 : decode cX7_rowAt 30 = .ok (.ireturn, 1) := by decide +kernel
theorem dX7_sizeOf_0 : decode cX7_sizeOf 0 = .ok (.aload_n 0, 1) := by decide +kernel
theorem dX7_sizeOf_1 : decode cX7_sizeOf 1 = .ok (.iload_n 1, 1) := by decide +kernel
theorem dX7_sizeOf_2 : decode cX7_sizeOf 2 = .ok (.invokevirtual 54, 3) := by decide +kernel
theorem dX7_sizeOf_5 : decode cX7_sizeOf 5 = .ok (.ifCond .eq 12, 3) := by decide +kernel
theorem dX7_sizeOf_8 : decode cX7_sizeOf 8 = .ok (.aload_n 0, 1) := by decide +kernel
theorem dX7_sizeOf_9 : decode cX7_sizeOf 9 = .ok (.getfield 28, 3) := by decide +kernel
theorem dX7_sizeOf_12 : decode cX7_sizeOf 12 = .ok (.iload_n 1, 1) := by decide +kernel
theorem dX7_sizeOf_13 : decode cX7_sizeOf 13 = .ok (.iaload, 1) := by decide +kernel
theorem dX7_sizeOf_14 : decode cX7_sizeOf 14 = .ok (.goto 4, 3) := by decide +kernel
theorem dX7_sizeOf_17 : decode cX7_sizeOf 17 = .ok (.iconst 0, 1) := by decide +kernel
theorem dX7_sizeOf_18 : decode cX7_sizeOf 18 = .ok (.ireturn, 1) := by decide +kernel
theorem dX7_sortAt_0 : decode cX7_sortAt 0 = .ok (.aload_n 0, 1) := by decide +kernel
theorem dX7_sortAt_1 : decode cX7_sortAt 1 = .ok (.iload_n 1, 1) := by decide +kernel
theorem dX7_sortAt_2 : decode cX7_sortAt 2 = .ok (.invokevirtual 54, 3) := by decide +kernel
theorem dX7_sortAt_5 : decode cX7_sortAt 5 = .ok (.ifCond .eq 12, 3) := by decide +kernel
theorem dX7_sortAt_8 : decode cX7_sortAt 8 = .ok (.aload_n 0, 1) := by decide +kernel
theorem dX7_sortAt_9 : decode cX7_sortAt 9 = .ok (.getfield 18, 3) := by decide +kernel
theorem dX7_sortAt_12 : decode cX7_sortAt 12 = .ok (.iload_n 1, 1) := by decide +kernel
theorem dX7_sortAt_13 : decode cX7_sortAt 13 = .ok (.iaload, 1) := by decide +kernel
theorem dX7_sortAt_14 : decode cX7_sortAt 14 = .ok (.goto 4, 3) := by decide +kernel
theorem dX7_sortAt_17 : decode cX7_sortAt 17 = .ok (.iconst (-1), 1) := by decide +kernel
theorem dX7_sortAt_18 : decode cX7_sortAt 18 = .ok (.ireturn, 1) := by decide +kernel
theorem dX7_worthOf_0 : decode cX7_worthOf 0 = .ok (.aload_n 0, 1) := by decide +kernel
theorem dX7_worthOf_1 : decode cX7_worthOf 1 = .ok (.iload_n 1, 1) := by decide +kernel
theorem dX7_worthOf_2 : decode cX7_worthOf 2 = .ok (.invokevirtual 54, 3) := by decide +kernel
theorem dX7_worthOf_5 : decode cX7_worthOf 5 = .ok (.ifCond .eq 12, 3) := by decide +kernel
theorem dX7_worthOf_8 : decode cX7_worthOf 8 = .ok (.aload_n 0, 1) := by decide +kernel
theorem dX7_worthOf_9 : decode cX7_worthOf 9 = .ok (.getfield 35, 3) := by decide +kernel
theorem dX7_worthOf_12 : decode cX7_worthOf 12 = .ok (.iload_n 1, 1) := by decide +kernel
theorem dX7_worthOf_13 : decode cX7_worthOf 13 = .ok (.laload, 1) := by decide +kernel
theorem dX7_worthOf_14 : decode cX7_worthOf 14 = .ok (.goto 4, 3) := by decide +kernel
theorem dX7_worthOf_17 : decode cX7_worthOf 17 = .ok (.lconst 0, 1) := by decide +kernel
theorem dX7_worthOf_18 : decode cX7_worthOf 18 = .ok (.lreturn, 1) := by decide +kernel
def f_X4_run_129 (b : Nat) (t : Nat) (σ : ST) : Option (Int32 × ST) := if (σ.1 b 7) = 0 then (if σ.2.2.2 b = t then ((f_X7_putInOrder t  σ).bind fun q2 => if q2.2.2.2 b = t then (some ((q2.1 t 1), q2)) else none) else none) else (if σ.2.2.2 b = t then ((f_X7_clear t  σ).bind fun q6 => some ((-3), q6)) else none)
def f_X4_run (b : Nat) (t : Nat) (p0 : Int32) (p1 : Int32) (σ : ST) : Option (Int32 × ST) := (f_X1_planOf  p0 σ).bind fun q1 => if (stR q1.2 b t).2.2.2 b = t then ((f_X7_clear t  (stR q1.2 b t)).bind fun q4 => (f_X1_sizeOf  p0 (stI (stI q4 b 4 p0) b 5 0)).bind fun q6 => (f_X0_turnTo  q1.1 p1 (stI (stI (stI q6.2 b 6 q6.1) b 7 0) b 10 0)).bind fun q8 => (f_X0_rootsFit   q8).bind fun q10 => if q10.1 = 0 then (some ((-2), q10.2)) else ((f_X5_rootType 4 q1.1 q10.2).bind fun q12 => (f_X5_rootType 4 p1 q12.2).bind fun q14 => (f_T_X4_take b t q12.1 q14.1 (-1) 0 0 q14.2).bind fun q16 => if (q16.1 b 7) = 0 then (if (q16.1 b 6) ≤ (q16.1 b 5) then (f_X4_run_129 b t  q16) else ((f_X4_fail b t 14 (q16.1 b 5) q16).bind fun q18 => f_X4_run_129 b t  q18)) else (f_X4_run_129 b t  q16))) else none

set_option maxRecDepth 100000 in
set_option maxHeartbeats 4000000 in
theorem b_X4_run_129_89_50 {p : Program} {l : Launch} {e : Env} {s : State} {m : MethodId} {args : Array Value} {below : List Frame} {meth : Method} {c : Code} {dC : Nat → ClassId} {dI : Nat → Nat → Nat} {a : Nat → Nat} {k : Nat → ClassId} {A : Nat → Prop} {q : Int32 × ST} (hC : CxA p s m args meth c dC dI k A cX4_run RX4 (some .int) 5)    {σ : ST} (h : f_X4_run_129 89 50  σ = some q) : GoA p l e ({ frames := 325, cells := 0, slots := 0, locals := 9080 } : Room) s m args below meth c (MQ below (qAi dC dI a k A q) args s 0 0 A) dC dI a k A 5 129 σ [(0, .ref (a 89))] [] := by
  have hC0 := hC
  obtain ⟨hx, hb, hr, hml, hown, hts, hlocks, hA, hN, hK⟩ := hC0
  intro H locs ls hP hD hS hl
  have hD0 : ∀ σ1 : ST, va_D A (wA a k σ1) := fun σ1 => wA_D hD
  unfold f_X4_run_129 at h
  refine lv_aload_n hx hb dX4_run_129 rfl (lv_at hl 0 rfl) ?_
  refine va_get (D := (dC, dI)) (ci := 4) (C := RX4) (T := TX4) (N := 12) hx hb hts inlX4 hown hK hP 89 gA_89 rfl 7 (by decide) (hts (.fieldLink RX4 21 "ShapeReader$Reading" "failure" "I") mw_10_23) (fun _ h9 => h9) rfl dX4_run_130 ?_
  refine lv_if_eq (tgt := 146) hx hb dX4_run_133 (by decide) (fun hc => ?_) (fun hc => ?_)
  · replace h := ip hc h
    refine lv_aload_n hx hb dX4_run_146 rfl (lv_at hl 0 rfl) ?_
    refine va_get (D := (dC, dI)) (ci := 4) (C := RX4) (T := TX4) (N := 12) hx hb hts inlX4 hown hK hP 89 gA_89 rfl 3 (by decide) (hts (.fieldLink RX4 49 "ShapeReader$Reading" "tree" "LShapeReader$Tree;") mw_11_1) (fun _ h9 => h9) rfl dX4_run_147 ?_
    obtain ⟨hg1, h⟩ := ig h
    rw [show σ.2.2.2 89 = 50 from hg1]
    obtain ⟨q2, hc, h⟩ := ib h
    have hF := va_frees hD hS hA
    refine va_callv (va_runV (As := []) (rest := []) ⟨hx, hb, hml, hown, hts⟩ (s_X7_putInOrder_50 hc) (cwV 0 hts (gV mw_11_18 mw_11_19 mw_11_20 mw_0_11 mw_52_9) rfl rfl rfl (by decide +kernel) ⟨(Nat.le_of_ble_eq_true rfl), (Nat.le_of_ble_eq_true rfl)⟩) (vV (ci := 7) (q0 := 50) hK hP hD hN rfl gA_50) rfl rfl hl.1 rfl (lv_room (Nat.le_of_ble_eq_true rfl)) dX4_run_150 ⟨(Nat.le_of_ble_eq_true rfl), (Nat.le_of_ble_eq_true rfl)⟩) hS (fun q _ h => hF q h) hF (fun u t H locs ht hvm hw hB _ _ hS => ?_)
    replace hP : va_P (dC, dI) vwCl (wA a k q2) H := by rw [← ht]; exact hB.1
    replace hD := hD0 (q2)
    clear hB hF
    refine lv_aload_n hx hb dX4_run_153 rfl (lv_at hl 0 rfl) ?_
    refine va_get (D := (dC, dI)) (ci := 4) (C := RX4) (T := TX4) (N := 12) hx hb hts inlX4 hown hK hP 89 gA_89 rfl 3 (by decide) (hts (.fieldLink RX4 49 "ShapeReader$Reading" "tree" "LShapeReader$Tree;") mw_11_1) (fun _ h9 => h9) rfl dX4_run_154 ?_
    obtain ⟨hg4, h⟩ := ig h
    rw [show q2.2.2.2 89 = 50 from hg4]
    refine va_get (D := (dC, dI)) (ci := 7) (C := RX7) (T := TX7) (N := 13) hx hb hts inlX7 hown hK hP 50 gA_50 rfl 1 (by decide) (hts (.fieldLink RX4 92 "ShapeReader$Tree" "size" "I") mw_11_21) (fun _ h9 => h9) rfl dX4_run_157 ?_
    obtain rfl := Option.some.inj h
    exact W.iret hx hb hr (fun t ht hW => ⟨⟨_, (), rfl, rfl, ⟨by rw [ht]; exact hP, va_K.moved hW.alike hK, hD⟩⟩, hS.F ht⟩) hS.2.2 dX4_run_160
  · replace h := iq hc h
    refine lv_aload_n hx hb dX4_run_136 rfl (lv_at hl 0 rfl) ?_
    refine va_get (D := (dC, dI)) (ci := 4) (C := RX4) (T := TX4) (N := 12) hx hb hts inlX4 hown hK hP 89 gA_89 rfl 3 (by decide) (hts (.fieldLink RX4 49 "ShapeReader$Reading" "tree" "LShapeReader$Tree;") mw_11_1) (fun _ h9 => h9) rfl dX4_run_137 ?_
    obtain ⟨hg5, h⟩ := ig h
    rw [show σ.2.2.2 89 = 50 from hg5]
    obtain ⟨q6, hc, h⟩ := ib h
    have hF := va_frees hD hS hA
    refine va_callv (va_runV (As := []) (rest := []) ⟨hx, hb, hml, hown, hts⟩ (s_X7_clear_50 hc) (cwV 0 hts (gV mw_11_5 mw_11_6 mw_11_7 mw_0_11 mw_51_23) rfl rfl rfl (by decide +kernel) ⟨(Nat.le_of_ble_eq_true rfl), (Nat.le_of_ble_eq_true rfl)⟩) (vV (ci := 7) (q0 := 50) hK hP hD hN rfl gA_50) rfl rfl hl.1 rfl (lv_room (Nat.le_of_ble_eq_true rfl)) dX4_run_140 ⟨(Nat.le_of_ble_eq_true rfl), (Nat.le_of_ble_eq_true rfl)⟩) hS (fun q _ h => hF q h) hF (fun u t H locs ht hvm hw hB _ _ hS => ?_)
    replace hP : va_P (dC, dI) vwCl (wA a k q6) H := by rw [← ht]; exact hB.1
    replace hD := hD0 (q6)
    clear hB hF
    refine lv_bipush (v := (-3)) hx hb dX4_run_143 (by decide) ?_
    obtain rfl := Option.some.inj h
    exact W.iret hx hb hr (fun t ht hW => ⟨⟨_, (), rfl, rfl, ⟨by rw [ht]; exact hP, va_K.moved hW.alike hK, hD⟩⟩, hS.F ht⟩) hS.2.2 dX4_run_145

set_option maxRecDepth 100000 in
set_option maxHeartbeats 4000000 in
theorem b_X4_run_e_89_50 {p : Program} {l : Launch} {e : Env} {s : State} {m : MethodId} {args : Array Value} {below : List Frame} {meth : Method} {c : Code} {dC : Nat → ClassId} {dI : Nat → Nat → Nat} {a : Nat → Nat} {k : Nat → ClassId} {A : Nat → Prop} {q : Int32 × ST} (hC : CxA p s m args meth c dC dI k A cX4_run RX4 (some .int) 5)   {p0 : Int32} {p1 : Int32} {σ : ST} (h : f_X4_run 89 50 p0 p1 σ = some q) : GoA p l e ({ frames := 325, cells := 0, slots := 0, locals := 9080 } : Room) s m args below meth c (MQ below (qAi dC dI a k A q) args s 0 0 A) dC dI a k A 5 0 σ (lv_args 0 [.ref (a 89), .int p0, .int p1, .ref (a 50)]) [] := by
  have hC0 := hC
  obtain ⟨hx, hb, hr, hml, hown, hts, hlocks, hA, hN, hK⟩ := hC0
  intro H locs ls hP hD hS hl
  have hD0 : ∀ σ1 : ST, va_D A (wA a k σ1) := fun σ1 => wA_D hD
  replace hl : lv_has ls 5 [(0, .ref (a 89)), (1, .int p0), (2, .int p1), (3, .ref (a 50))] := hl
  unfold f_X4_run at h
  refine lv_aload_n hx hb dX4_run_0 rfl (lv_at hl 0 rfl) ?_
  refine va_get (D := (dC, dI)) (ci := 4) (C := RX4) (T := TX4) (N := 12) hx hb hts inlX4 hown hK hP 89 gA_89 rfl 1 (by decide) (hts (.fieldLink RX4 41 "ShapeReader$Reading" "messages" "LShapeReader$Messages;") mw_10_29) (fun _ h9 => h9) rfl dX4_run_1 ?_
  refine lv_iload_n hx hb dX4_run_4 rfl (lv_at hl 1 rfl) ?_
  obtain ⟨q1, hc, h⟩ := ib h
  have hF := va_frees hD hS hA
  refine va_calli (va_runV (As := [.int p0]) (rest := []) ⟨hx, hb, hml, hown, hts⟩ (s_X1_planOf hc) (cwV 1 hts (gV mw_11_2 mw_11_3 mw_11_4 mw_0_5 mw_48_3) rfl rfl rfl (by decide +kernel) ⟨(Nat.le_of_ble_eq_true rfl), (Nat.le_of_ble_eq_true rfl)⟩) (vV (ci := 1) (q0 := 37) hK hP hD hN rfl gA_37) rfl rfl hl.1 rfl (lv_room (Nat.le_of_ble_eq_true rfl)) dX4_run_5 ⟨(Nat.le_of_ble_eq_true rfl), (Nat.le_of_ble_eq_true rfl)⟩) hS (fun q _ h => hF q h) hF (fun r2 u t H locs ht hvm hw hB _ _ hS => ?_)
  obtain rfl : r2 = q1.1 := hw
  replace hP : va_P (dC, dI) vwCl (wA a k q1.2) H := by rw [← ht]; exact hB.1
  replace hD := hD0 (q1.2)
  clear hB hF
  refine lv_istore (lv' := [(4, .int q1.1), (0, .ref (a 89)), (1, .int p0), (2, .int p1), (3, .ref (a 50))]) hx hb dX4_run_8 hl (by decide) rfl (fun ls hl => ?_)
  refine lv_aload_n hx hb dX4_run_10 rfl (lv_at hl 1 rfl) ?_
  refine lv_aload_n hx hb dX4_run_11 rfl (lv_at hl 4 rfl) ?_
  refine va_put (D := (dC, dI)) (ci := 4) (ty := .object "ShapeReader$Tree") (C := RX4) (T := TX4) (N := 12) hx hb hts inlX4 tyX4 tyX4_ok nmX4 hown hK hP hD hS 89 gA_89 rfl 3 (by decide) (hts (.fieldLink RX4 49 "ShapeReader$Reading" "tree" "LShapeReader$Tree;") mw_11_1) (fun _ h9 => h9) rfl (by decide +kernel) rfl rfl (Nat.le_of_ble_eq_true rfl) dX4_run_12 (fun H locs hP hD hS => ?_)
  replace hP := uA_89_3 hP
  replace hD := hD0 ((stR q1.2 89 50))
  refine lv_aload_n hx hb dX4_run_15 rfl (lv_at hl 1 rfl) ?_
  refine va_get (D := (dC, dI)) (ci := 4) (C := RX4) (T := TX4) (N := 12) hx hb hts inlX4 hown hK hP 89 gA_89 rfl 3 (by decide) (hts (.fieldLink RX4 49 "ShapeReader$Reading" "tree" "LShapeReader$Tree;") mw_11_1) (fun _ h9 => h9) rfl dX4_run_16 ?_
  obtain ⟨hg3, h⟩ := ig h
  rw [show (stR q1.2 89 50).2.2.2 89 = 50 from hg3]
  obtain ⟨q4, hc, h⟩ := ib h
  have hF := va_frees hD hS hA
  refine va_callv (va_runV (As := []) (rest := []) ⟨hx, hb, hml, hown, hts⟩ (s_X7_clear_50 hc) (cwV 0 hts (gV mw_11_5 mw_11_6 mw_11_7 mw_0_11 mw_51_23) rfl rfl rfl (by decide +kernel) ⟨(Nat.le_of_ble_eq_true rfl), (Nat.le_of_ble_eq_true rfl)⟩) (vV (ci := 7) (q0 := 50) hK hP hD hN rfl gA_50) rfl rfl hl.1 rfl (lv_room (Nat.le_of_ble_eq_true rfl)) dX4_run_19 ⟨(Nat.le_of_ble_eq_true rfl), (Nat.le_of_ble_eq_true rfl)⟩) hS (fun q _ h => hF q h) hF (fun u t H locs ht hvm hw hB _ _ hS => ?_)
  replace hP : va_P (dC, dI) vwCl (wA a k q4) H := by rw [← ht]; exact hB.1
  replace hD := hD0 (q4)
  clear hB hF
  refine lv_aload_n hx hb dX4_run_22 rfl (lv_at hl 1 rfl) ?_
  refine lv_iload_n hx hb dX4_run_23 rfl (lv_at hl 2 rfl) ?_
  refine va_put (D := (dC, dI)) (ci := 4) (ty := .int) (C := RX4) (T := TX4) (N := 12) hx hb hts inlX4 tyX4 tyX4_ok nmX4 hown hK hP hD hS 89 gA_89 rfl 4 (by decide) (hts (.fieldLink RX4 9 "ShapeReader$Reading" "message" "I") mw_10_20) (fun _ h9 => h9) rfl (by decide +kernel) rfl rfl (Nat.le_of_ble_eq_true rfl) dX4_run_24 (fun H locs hP hD hS => ?_)
  replace hP := uA_89_4 hP
  replace hD := hD0 ((stI q4 89 4 p0))
  refine lv_aload_n hx hb dX4_run_27 rfl (lv_at hl 1 rfl) ?_
  refine lv_iconst (v := 0) hx hb dX4_run_28 (by decide) ?_
  refine va_put (D := (dC, dI)) (ci := 4) (ty := .int) (C := RX4) (T := TX4) (N := 12) hx hb hts inlX4 tyX4 tyX4_ok nmX4 hown hK hP hD hS 89 gA_89 rfl 5 (by decide) (hts (.fieldLink RX4 15 "ShapeReader$Reading" "next" "I") mw_10_21) (fun _ h9 => h9) rfl (by decide +kernel) rfl rfl (Nat.le_of_ble_eq_true rfl) dX4_run_29 (fun H locs hP hD hS => ?_)
  replace hP := uA_89_5 hP
  replace hD := hD0 ((stI (stI q4 89 4 p0) 89 5 0))
  refine lv_aload_n hx hb dX4_run_32 rfl (lv_at hl 1 rfl) ?_
  refine lv_aload_n hx hb dX4_run_33 rfl (lv_at hl 1 rfl) ?_
  refine va_get (D := (dC, dI)) (ci := 4) (C := RX4) (T := TX4) (N := 12) hx hb hts inlX4 hown hK hP 89 gA_89 rfl 1 (by decide) (hts (.fieldLink RX4 41 "ShapeReader$Reading" "messages" "LShapeReader$Messages;") mw_10_29) (fun _ h9 => h9) rfl dX4_run_34 ?_
  refine lv_iload_n hx hb dX4_run_37 rfl (lv_at hl 2 rfl) ?_
  obtain ⟨q6, hc, h⟩ := ib h
  have hF := va_frees hD hS hA
  refine va_calli (va_runV (As := [.int p0]) (rest := [.ref (a 89)]) ⟨hx, hb, hml, hown, hts⟩ (s_X1_sizeOf hc) (cwV 1 hts (gV mw_11_8 mw_4_24 mw_4_25 mw_0_5 mw_48_2) rfl rfl rfl (by decide +kernel) ⟨(Nat.le_of_ble_eq_true rfl), (Nat.le_of_ble_eq_true rfl)⟩) (vV (ci := 1) (q0 := 37) hK hP hD hN rfl gA_37) rfl rfl hl.1 rfl (lv_room (Nat.le_of_ble_eq_true rfl)) dX4_run_38 ⟨(Nat.le_of_ble_eq_true rfl), (Nat.le_of_ble_eq_true rfl)⟩) hS (fun q _ h => hF q h) hF (fun r7 u t H locs ht hvm hw hB _ _ hS => ?_)
  obtain rfl : r7 = q6.1 := hw
  replace hP : va_P (dC, dI) vwCl (wA a k q6.2) H := by rw [← ht]; exact hB.1
  replace hD := hD0 (q6.2)
  clear hB hF
  refine va_put (D := (dC, dI)) (ci := 4) (ty := .int) (C := RX4) (T := TX4) (N := 12) hx hb hts inlX4 tyX4 tyX4_ok nmX4 hown hK hP hD hS 89 gA_89 rfl 6 (by decide) (hts (.fieldLink RX4 18 "ShapeReader$Reading" "end" "I") mw_10_22) (fun _ h9 => h9) rfl (by decide +kernel) rfl rfl (Nat.le_of_ble_eq_true rfl) dX4_run_41 (fun H locs hP hD hS => ?_)
  replace hP := uA_89_6 hP
  replace hD := hD0 ((stI q6.2 89 6 q6.1))
  refine lv_aload_n hx hb dX4_run_44 rfl (lv_at hl 1 rfl) ?_
  refine lv_iconst (v := 0) hx hb dX4_run_45 (by decide) ?_
  refine va_put (D := (dC, dI)) (ci := 4) (ty := .int) (C := RX4) (T := TX4) (N := 12) hx hb hts inlX4 tyX4 tyX4_ok nmX4 hown hK hP hD hS 89 gA_89 rfl 7 (by decide) (hts (.fieldLink RX4 21 "ShapeReader$Reading" "failure" "I") mw_10_23) (fun _ h9 => h9) rfl (by decide +kernel) rfl rfl (Nat.le_of_ble_eq_true rfl) dX4_run_46 (fun H locs hP hD hS => ?_)
  replace hP := uA_89_7 hP
  replace hD := hD0 ((stI (stI q6.2 89 6 q6.1) 89 7 0))
  refine lv_aload_n hx hb dX4_run_49 rfl (lv_at hl 1 rfl) ?_
  refine lv_iconst (v := 0) hx hb dX4_run_50 (by decide) ?_
  refine va_put (D := (dC, dI)) (ci := 4) (ty := .int) (C := RX4) (T := TX4) (N := 12) hx hb hts inlX4 tyX4 tyX4_ok nmX4 hown hK hP hD hS 89 gA_89 rfl 10 (by decide) (hts (.fieldLink RX4 31 "ShapeReader$Reading" "steps" "I") mw_10_26) (fun _ h9 => h9) rfl (by decide +kernel) rfl rfl (Nat.le_of_ble_eq_true rfl) dX4_run_51 (fun H locs hP hD hS => ?_)
  replace hP := uA_89_10 hP
  replace hD := hD0 ((stI (stI (stI q6.2 89 6 q6.1) 89 7 0) 89 10 0))
  refine lv_aload_n hx hb dX4_run_54 rfl (lv_at hl 1 rfl) ?_
  refine va_get (D := (dC, dI)) (ci := 4) (C := RX4) (T := TX4) (N := 12) hx hb hts inlX4 hown hK hP 89 gA_89 rfl 2 (by decide) (hts (.fieldLink RX4 45 "ShapeReader$Reading" "matcher" "LShapeReader$Matcher;") mw_11_0) (fun _ h9 => h9) rfl dX4_run_55 ?_
  refine lv_iload hx hb dX4_run_58 (lv_at hl 0 rfl) ?_
  refine lv_iload_n hx hb dX4_run_60 rfl (lv_at hl 3 rfl) ?_
  obtain ⟨q8, hc, h⟩ := ib h
  have hF := va_frees hD hS hA
  refine va_callv (va_runV (As := [.int q1.1, .int p1]) (rest := []) ⟨hx, hb, hml, hown, hts⟩ (s_X0_turnTo hc) (cwV 2 hts (gV mw_11_9 mw_2_27 mw_2_28 mw_0_4 mw_47_5) rfl rfl rfl (by decide +kernel) ⟨(Nat.le_of_ble_eq_true rfl), (Nat.le_of_ble_eq_true rfl)⟩) (vV (ci := 0) (q0 := 41) hK hP hD hN rfl gA_41) rfl rfl hl.1 rfl (lv_room (Nat.le_of_ble_eq_true rfl)) dX4_run_61 ⟨(Nat.le_of_ble_eq_true rfl), (Nat.le_of_ble_eq_true rfl)⟩) hS (fun q _ h => hF q h) hF (fun u t H locs ht hvm hw hB _ _ hS => ?_)
  replace hP : va_P (dC, dI) vwCl (wA a k q8) H := by rw [← ht]; exact hB.1
  replace hD := hD0 (q8)
  clear hB hF
  refine lv_aload_n hx hb dX4_run_64 rfl (lv_at hl 1 rfl) ?_
  refine va_get (D := (dC, dI)) (ci := 4) (C := RX4) (T := TX4) (N := 12) hx hb hts inlX4 hown hK hP 89 gA_89 rfl 2 (by decide) (hts (.fieldLink RX4 45 "ShapeReader$Reading" "matcher" "LShapeReader$Matcher;") mw_11_0) (fun _ h9 => h9) rfl dX4_run_65 ?_
  obtain ⟨q10, hc, h⟩ := ib h
  have hF := va_frees hD hS hA
  refine va_calli (va_runV (As := []) (rest := []) ⟨hx, hb, hml, hown, hts⟩ (s_X0_rootsFit hc) (cwV 0 hts (gV mw_11_10 mw_3_3 mw_3_4 mw_0_4 mw_47_14) rfl rfl rfl (by decide +kernel) ⟨(Nat.le_of_ble_eq_true rfl), (Nat.le_of_ble_eq_true rfl)⟩) (vV (ci := 0) (q0 := 41) hK hP hD hN rfl gA_41) rfl rfl hl.1 rfl (lv_room (Nat.le_of_ble_eq_true rfl)) dX4_run_68 ⟨(Nat.le_of_ble_eq_true rfl), (Nat.le_of_ble_eq_true rfl)⟩) hS (fun q _ h => hF q h) hF (fun r11 u t H locs ht hvm hw hB _ _ hS => ?_)
  obtain rfl : r11 = q10.1 := hw
  replace hP : va_P (dC, dI) vwCl (wA a k q10.2) H := by rw [← ht]; exact hB.1
  replace hD := hD0 (q10.2)
  clear hB hF
  refine lv_if_ne (tgt := 77) hx hb dX4_run_71 (by decide) (fun hc => ?_) (fun hc => ?_)
  · replace h := iq hc h
    refine lv_aload_n hx hb dX4_run_77 rfl (lv_at hl 1 rfl) ?_
    refine lv_aload_n hx hb dX4_run_78 rfl (lv_at hl 1 rfl) ?_
    refine va_get (D := (dC, dI)) (ci := 4) (C := RX4) (T := TX4) (N := 12) hx hb hts inlX4 hown hK hP 89 gA_89 rfl 0 (by decide) (hts (.fieldLink RX4 37 "ShapeReader$Reading" "shapes" "LShapeReader$Shapes;") mw_10_28) (fun _ h9 => h9) rfl dX4_run_79 ?_
    refine lv_iload hx hb dX4_run_82 (lv_at hl 0 rfl) ?_
    obtain ⟨q12, hc, h⟩ := ib h
    have hF := va_frees hD hS hA
    refine va_calli (va_runV (As := [.int q1.1]) (rest := [.ref (a 89)]) ⟨hx, hb, hml, hown, hts⟩ (s_X5_rootType_4 hc) (cwV 1 hts (gV mw_11_11 mw_3_6 mw_3_7 mw_0_9 mw_49_28) rfl rfl rfl (by decide +kernel) ⟨(Nat.le_of_ble_eq_true rfl), (Nat.le_of_ble_eq_true rfl)⟩) (vV (ci := 5) (q0 := 4) hK hP hD hN rfl gA_4) rfl rfl hl.1 rfl (lv_room (Nat.le_of_ble_eq_true rfl)) dX4_run_84 ⟨(Nat.le_of_ble_eq_true rfl), (Nat.le_of_ble_eq_true rfl)⟩) hS (fun q _ h => hF q h) hF (fun r13 u t H locs ht hvm hw hB _ _ hS => ?_)
    obtain rfl : r13 = q12.1 := hw
    replace hP : va_P (dC, dI) vwCl (wA a k q12.2) H := by rw [← ht]; exact hB.1
    replace hD := hD0 (q12.2)
    clear hB hF
    refine lv_aload_n hx hb dX4_run_87 rfl (lv_at hl 1 rfl) ?_
    refine va_get (D := (dC, dI)) (ci := 4) (C := RX4) (T := TX4) (N := 12) hx hb hts inlX4 hown hK hP 89 gA_89 rfl 0 (by decide) (hts (.fieldLink RX4 37 "ShapeReader$Reading" "shapes" "LShapeReader$Shapes;") mw_10_28) (fun _ h9 => h9) rfl dX4_run_88 ?_
    refine lv_iload_n hx hb dX4_run_91 rfl (lv_at hl 3 rfl) ?_
    obtain ⟨q14, hc, h⟩ := ib h
    have hF := va_frees hD hS hA
    refine va_calli (va_runV (As := [.int p1]) (rest := [.int q12.1, .ref (a 89)]) ⟨hx, hb, hml, hown, hts⟩ (s_X5_rootType_4 hc) (cwV 1 hts (gV mw_11_11 mw_3_6 mw_3_7 mw_0_9 mw_49_28) rfl rfl rfl (by decide +kernel) ⟨(Nat.le_of_ble_eq_true rfl), (Nat.le_of_ble_eq_true rfl)⟩) (vV (ci := 5) (q0 := 4) hK hP hD hN rfl gA_4) rfl rfl hl.1 rfl (lv_room (Nat.le_of_ble_eq_true rfl)) dX4_run_92 ⟨(Nat.le_of_ble_eq_true rfl), (Nat.le_of_ble_eq_true rfl)⟩) hS (fun q _ h => hF q h) hF (fun r15 u t H locs ht hvm hw hB _ _ hS => ?_)
    obtain rfl : r15 = q14.1 := hw
    replace hP : va_P (dC, dI) vwCl (wA a k q14.2) H := by rw [← ht]; exact hB.1
    replace hD := hD0 (q14.2)
    clear hB hF
    refine lv_iconst (v := (-1)) hx hb dX4_run_95 (by decide) ?_
    refine lv_iconst (v := 0) hx hb dX4_run_96 (by decide) ?_
    refine lv_iconst (v := 0) hx hb dX4_run_97 (by decide) ?_
    obtain ⟨q16, hc, h⟩ := ib h
    have hF := va_frees hD hS hA
    refine va_callv (va_runV (As := [.int q12.1, .int q14.1, .int (-1), .int 0, .int 0]) (rest := []) ⟨hx, hb, hml, hown, hts⟩ (s_X4_take_89_50 hc) (cwV 5 hts (gV mw_11_12 mw_11_13 mw_11_14 mw_0_8 mw_49_5) rfl rfl rfl (by decide +kernel) ⟨(Nat.le_of_ble_eq_true rfl), (Nat.le_of_ble_eq_true rfl)⟩) (vV (ci := 4) (q0 := 89) hK hP hD hN rfl gA_89) rfl rfl hl.1 rfl (lv_room (Nat.le_of_ble_eq_true rfl)) dX4_run_98 ⟨(Nat.le_of_ble_eq_true rfl), (Nat.le_of_ble_eq_true rfl)⟩) hS (fun q _ h => hF q h) hF (fun u t H locs ht hvm hw hB _ _ hS => ?_)
    replace hP : va_P (dC, dI) vwCl (wA a k q16) H := by rw [← ht]; exact hB.1
    replace hD := hD0 (q16)
    clear hB hF
    refine lv_aload_n hx hb dX4_run_101 rfl (lv_at hl 1 rfl) ?_
    refine va_get (D := (dC, dI)) (ci := 4) (C := RX4) (T := TX4) (N := 12) hx hb hts inlX4 hown hK hP 89 gA_89 rfl 7 (by decide) (hts (.fieldLink RX4 21 "ShapeReader$Reading" "failure" "I") mw_10_23) (fun _ h9 => h9) rfl dX4_run_102 ?_
    refine lv_if_ne (tgt := 129) hx hb dX4_run_105 (by decide) (fun hc => ?_) (fun hc => ?_)
    · replace h := iq hc h
      exact b_X4_run_129_89_50 hC h _ _ _ hP hD hS (lv_sub hl [1] rfl)
    · replace h := ip hc h
      refine lv_aload_n hx hb dX4_run_108 rfl (lv_at hl 1 rfl) ?_
      refine va_get (D := (dC, dI)) (ci := 4) (C := RX4) (T := TX4) (N := 12) hx hb hts inlX4 hown hK hP 89 gA_89 rfl 5 (by decide) (hts (.fieldLink RX4 15 "ShapeReader$Reading" "next" "I") mw_10_21) (fun _ h9 => h9) rfl dX4_run_109 ?_
      refine lv_aload_n hx hb dX4_run_112 rfl (lv_at hl 1 rfl) ?_
      refine va_get (D := (dC, dI)) (ci := 4) (C := RX4) (T := TX4) (N := 12) hx hb hts inlX4 hown hK hP 89 gA_89 rfl 6 (by decide) (hts (.fieldLink RX4 18 "ShapeReader$Reading" "end" "I") mw_10_22) (fun _ h9 => h9) rfl dX4_run_113 ?_
      refine lv_icmp_ge (tgt := 129) hx hb dX4_run_116 (by decide) (fun hc => ?_) (fun hc => ?_)
      · replace h := ip hc h
        exact b_X4_run_129_89_50 hC h _ _ _ hP hD hS (lv_sub hl [1] rfl)
      · replace h := iq hc h
        refine lv_aload_n hx hb dX4_run_119 rfl (lv_at hl 1 rfl) ?_
        refine lv_bipush (v := 14) hx hb dX4_run_120 (by decide) ?_
        refine lv_aload_n hx hb dX4_run_122 rfl (lv_at hl 1 rfl) ?_
        refine va_get (D := (dC, dI)) (ci := 4) (C := RX4) (T := TX4) (N := 12) hx hb hts inlX4 hown hK hP 89 gA_89 rfl 5 (by decide) (hts (.fieldLink RX4 15 "ShapeReader$Reading" "next" "I") mw_10_21) (fun _ h9 => h9) rfl dX4_run_123 ?_
        obtain ⟨q18, hc, h⟩ := ib h
        have hF := va_frees hD hS hA
        refine va_callv (va_runV (As := [.int 14, .int (q16.1 89 5)]) (rest := []) ⟨hx, hb, hml, hown, hts⟩ (s_X4_fail_89_50 hc) (cwV 2 hts (gV mw_11_15 mw_11_16 mw_11_17 mw_0_8 mw_49_2) rfl rfl rfl (by decide +kernel) ⟨(Nat.le_of_ble_eq_true rfl), (Nat.le_of_ble_eq_true rfl)⟩) (vV (ci := 4) (q0 := 89) hK hP hD hN rfl gA_89) rfl rfl hl.1 rfl (lv_room (Nat.le_of_ble_eq_true rfl)) dX4_run_126 ⟨(Nat.le_of_ble_eq_true rfl), (Nat.le_of_ble_eq_true rfl)⟩) hS (fun q _ h => hF q h) hF (fun u t H locs ht hvm hw hB _ _ hS => ?_)
        replace hP : va_P (dC, dI) vwCl (wA a k q18) H := by rw [← ht]; exact hB.1
        replace hD := hD0 (q18)
        clear hB hF
        exact b_X4_run_129_89_50 hC h _ _ _ hP hD hS (lv_sub hl [1] rfl)
  · replace h := ip hc h
    refine lv_bipush (v := (-2)) hx hb dX4_run_74 (by decide) ?_
    obtain rfl := Option.some.inj h
    exact W.iret hx hb hr (fun t ht hW => ⟨⟨_, (), rfl, rfl, ⟨by rw [ht]; exact hP, va_K.moved hW.alike hK, hD⟩⟩, hS.F ht⟩) hS.2.2 dX4_run_76

theorem s_X4_run_89_50 {l : Launch} {dC : Nat → ClassId} {dI : Nat → Nat → Nat} {a : Nat → Nat} {k : Nat → ClassId} {sz : Nat} {p0 : Int32} {p1 : Int32} {σ : ST} {q : Int32 × ST} (h : f_X4_run 89 50 p0 p1 σ = some q) : Met l yX4_run (.code yX4_run cX4_run 5 (some .int) :: pw) ({ frames := 325, cells := 0, slots := 0, locals := 9080 } : Room) (va_Pc [.ref (a 89), .int p0, .int p1, .ref (a 50)] (vPre dC dI (wA a k σ) (tA k) sz)) (qAi dC dI a k (va_A (wA a k σ) sz) q) 0 0 (va_A (wA a k σ) sz) := metA (fun A => qAi dC dI a k A q) (plainFor_of_name (by decide)) (Nat.le_of_ble_eq_true rfl) (fun _ _ _ _ _ _ _ _ hC => b_X4_run_e_89_50 hC h)

set_option maxRecDepth 100000 in
set_option maxHeartbeats 4000000 in
theorem b_X4_run_129_92_62 {p : Program} {l : Launch} {e : Env} {s : State} {m : MethodId} {args : Array Value} {below : List Frame} {meth : Method} {c : Code} {dC : Nat → ClassId} {dI : Nat → Nat → Nat} {a : Nat → Nat} {k : Nat → ClassId} {A : Nat → Prop} {q : Int32 × ST} (hC : CxA p s m args meth c dC dI k A cX4_run RX4 (some .int) 5)    {σ : ST} (h : f_X4_run_129 92 62  σ = some q) : GoA p l e ({ frames := 325, cells := 0, slots := 0, locals := 9080 } : Room) s m args below meth c (MQ below (qAi dC dI a k A q) args s 0 0 A) dC dI a k A 5 129 σ [(0, .ref (a 92))] [] := by
  have hC0 := hC
  obtain ⟨hx, hb, hr, hml, hown, hts, hlocks, hA, hN, hK⟩ := hC0
  intro H locs ls hP hD hS hl
  have hD0 : ∀ σ1 : ST, va_D A (wA a k σ1) := fun σ1 => wA_D hD
  unfold f_X4_run_129 at h
  refine lv_aload_n hx hb dX4_run_129 rfl (lv_at hl 0 rfl) ?_
  refine va_get (D := (dC, dI)) (ci := 4) (C := RX4) (T := TX4) (N := 12) hx hb hts inlX4 hown hK hP 92 gA_92 rfl 7 (by decide) (hts (.fieldLink RX4 21 "ShapeReader$Reading" "failure" "I") mw_10_23) (fun _ h9 => h9) rfl dX4_run_130 ?_
  refine lv_if_eq (tgt := 146) hx hb dX4_run_133 (by decide) (fun hc => ?_) (fun hc => ?_)
  · replace h := ip hc h
    refine lv_aload_n hx hb dX4_run_146 rfl (lv_at hl 0 rfl) ?_
    refine va_get (D := (dC, dI)) (ci := 4) (C := RX4) (T := TX4) (N := 12) hx hb hts inlX4 hown hK hP 92 gA_92 rfl 3 (by decide) (hts (.fieldLink RX4 49 "ShapeReader$Reading" "tree" "LShapeReader$Tree;") mw_11_1) (fun _ h9 => h9) rfl dX4_run_147 ?_
    obtain ⟨hg1, h⟩ := ig h
    rw [show σ.2.2.2 92 = 62 from hg1]
    obtain ⟨q2, hc, h⟩ := ib h
    have hF := va_frees hD hS hA
    refine va_callv (va_runV (As := []) (rest := []) ⟨hx, hb, hml, hown, hts⟩ (s_X7_putInOrder_62 hc) (cwV 0 hts (gV mw_11_18 mw_11_19 mw_11_20 mw_0_11 mw_52_9) rfl rfl rfl (by decide +kernel) ⟨(Nat.le_of_ble_eq_true rfl), (Nat.le_of_ble_eq_true rfl)⟩) (vV (ci := 7) (q0 := 62) hK hP hD hN rfl gA_62) rfl rfl hl.1 rfl (lv_room (Nat.le_of_ble_eq_true rfl)) dX4_run_150 ⟨(Nat.le_of_ble_eq_true rfl), (Nat.le_of_ble_eq_true rfl)⟩) hS (fun q _ h => hF q h) hF (fun u t H locs ht hvm hw hB _ _ hS => ?_)
    replace hP : va_P (dC, dI) vwCl (wA a k q2) H := by rw [← ht]; exact hB.1
    replace hD := hD0 (q2)
    clear hB hF
    refine lv_aload_n hx hb dX4_run_153 rfl (lv_at hl 0 rfl) ?_
    refine va_get (D := (dC, dI)) (ci := 4) (C := RX4) (T := TX4) (N := 12) hx hb hts inlX4 hown hK hP 92 gA_92 rfl 3 (by decide) (hts (.fieldLink RX4 49 "ShapeReader$Reading" "tree" "LShapeReader$Tree;") mw_11_1) (fun _ h9 => h9) rfl dX4_run_154 ?_
    obtain ⟨hg4, h⟩ := ig h
    rw [show q2.2.2.2 92 = 62 from hg4]
    refine va_get (D := (dC, dI)) (ci := 7) (C := RX7) (T := TX7) (N := 13) hx hb hts inlX7 hown hK hP 62 gA_62 rfl 1 (by decide) (hts (.fieldLink RX4 92 "ShapeReader$Tree" "size" "I") mw_11_21) (fun _ h9 => h9) rfl dX4_run_157 ?_
    obtain rfl := Option.some.inj h
    exact W.iret hx hb hr (fun t ht hW => ⟨⟨_, (), rfl, rfl, ⟨by rw [ht]; exact hP, va_K.moved hW.alike hK, hD⟩⟩, hS.F ht⟩) hS.2.2 dX4_run_160
  · replace h := iq hc h
    refine lv_aload_n hx hb dX4_run_136 rfl (lv_at hl 0 rfl) ?_
    refine va_get (D := (dC, dI)) (ci := 4) (C := RX4) (T := TX4) (N := 12) hx hb hts inlX4 hown hK hP 92 gA_92 rfl 3 (by decide) (hts (.fieldLink RX4 49 "ShapeReader$Reading" "tree" "LShapeReader$Tree;") mw_11_1) (fun _ h9 => h9) rfl dX4_run_137 ?_
    obtain ⟨hg5, h⟩ := ig h
    rw [show σ.2.2.2 92 = 62 from hg5]
    obtain ⟨q6, hc, h⟩ := ib h
    have hF := va_frees hD hS hA
    refine va_callv (va_runV (As := []) (rest := []) ⟨hx, hb, hml, hown, hts⟩ (s_X7_clear_62 hc) (cwV 0 hts (gV mw_11_5 mw_11_6 mw_11_7 mw_0_11 mw_51_23) rfl rfl rfl (by decide +kernel) ⟨(Nat.le_of_ble_eq_true rfl), (Nat.le_of_ble_eq_true rfl)⟩) (vV (ci := 7) (q0 := 62) hK hP hD hN rfl gA_62) rfl rfl hl.1 rfl (lv_room (Nat.le_of_ble_eq_true rfl)) dX4_run_140 ⟨(Nat.le_of_ble_eq_true rfl), (Nat.le_of_ble_eq_true rfl)⟩) hS (fun q _ h => hF q h) hF (fun u t H locs ht hvm hw hB _ _ hS => ?_)
    replace hP : va_P (dC, dI) vwCl (wA a k q6) H := by rw [← ht]; exact hB.1
    replace hD := hD0 (q6)
    clear hB hF
    refine lv_bipush (v := (-3)) hx hb dX4_run_143 (by decide) ?_
    obtain rfl := Option.some.inj h
    exact W.iret hx hb hr (fun t ht hW => ⟨⟨_, (), rfl, rfl, ⟨by rw [ht]; exact hP, va_K.moved hW.alike hK, hD⟩⟩, hS.F ht⟩) hS.2.2 dX4_run_145

set_option maxRecDepth 100000 in
set_option maxHeartbeats 4000000 in
theorem b_X4_run_e_92_62 {p : Program} {l : Launch} {e : Env} {s : State} {m : MethodId} {args : Array Value} {below : List Frame} {meth : Method} {c : Code} {dC : Nat → ClassId} {dI : Nat → Nat → Nat} {a : Nat → Nat} {k : Nat → ClassId} {A : Nat → Prop} {q : Int32 × ST} (hC : CxA p s m args meth c dC dI k A cX4_run RX4 (some .int) 5)   {p0 : Int32} {p1 : Int32} {σ : ST} (h : f_X4_run 92 62 p0 p1 σ = some q) : GoA p l e ({ frames := 325, cells := 0, slots := 0, locals := 9080 } : Room) s m args below meth c (MQ below (qAi dC dI a k A q) args s 0 0 A) dC dI a k A 5 0 σ (lv_args 0 [.ref (a 92), .int p0, .int p1, .ref (a 62)]) [] := by
  have hC0 := hC
  obtain ⟨hx, hb, hr, hml, hown, hts, hlocks, hA, hN, hK⟩ := hC0
  intro H locs ls hP hD hS hl
  have hD0 : ∀ σ1 : ST, va_D A (wA a k σ1) := fun σ1 => wA_D hD
  replace hl : lv_has ls 5 [(0, .ref (a 92)), (1, .int p0), (2, .int p1), (3, .ref (a 62))] := hl
  unfold f_X4_run at h
  refine lv_aload_n hx hb dX4_run_0 rfl (lv_at hl 0 rfl) ?_
  refine va_get (D := (dC, dI)) (ci := 4) (C := RX4) (T := TX4) (N := 12) hx hb hts inlX4 hown hK hP 92 gA_92 rfl 1 (by decide) (hts (.fieldLink RX4 41 "ShapeReader$Reading" "messages" "LShapeReader$Messages;") mw_10_29) (fun _ h9 => h9) rfl dX4_run_1 ?_
  refine lv_iload_n hx hb dX4_run_4 rfl (lv_at hl 1 rfl) ?_
  obtain ⟨q1, hc, h⟩ := ib h
  have hF := va_frees hD hS hA
  refine va_calli (va_runV (As := [.int p0]) (rest := []) ⟨hx, hb, hml, hown, hts⟩ (s_X1_planOf hc) (cwV 1 hts (gV mw_11_2 mw_11_3 mw_11_4 mw_0_5 mw_48_3) rfl rfl rfl (by decide +kernel) ⟨(Nat.le_of_ble_eq_true rfl), (Nat.le_of_ble_eq_true rfl)⟩) (vV (ci := 1) (q0 := 37) hK hP hD hN rfl gA_37) rfl rfl hl.1 rfl (lv_room (Nat.le_of_ble_eq_true rfl)) dX4_run_5 ⟨(Nat.le_of_ble_eq_true rfl), (Nat.le_of_ble_eq_true rfl)⟩) hS (fun q _ h => hF q h) hF (fun r2 u t H locs ht hvm hw hB _ _ hS => ?_)
  obtain rfl : r2 = q1.1 := hw
  replace hP : va_P (dC, dI) vwCl (wA a k q1.2) H := by rw [← ht]; exact hB.1
  replace hD := hD0 (q1.2)
  clear hB hF
  refine lv_istore (lv' := [(4, .int q1.1), (0, .ref (a 92)), (1, .int p0), (2, .int p1), (3, .ref (a 62))]) hx hb dX4_run_8 hl (by decide) rfl (fun ls hl => ?_)
  refine lv_aload_n hx hb dX4_run_10 rfl (lv_at hl 1 rfl) ?_
  refine lv_aload_n hx hb dX4_run_11 rfl (lv_at hl 4 rfl) ?_
  refine va_put (D := (dC, dI)) (ci := 4) (ty := .object "ShapeReader$Tree") (C := RX4) (T := TX4) (N := 12) hx hb hts inlX4 tyX4 tyX4_ok nmX4 hown hK hP hD hS 92 gA_92 rfl 3 (by decide) (hts (.fieldLink RX4 49 "ShapeReader$Reading" "tree" "LShapeReader$Tree;") mw_11_1) (fun _ h9 => h9) rfl (by decide +kernel) rfl rfl (Nat.le_of_ble_eq_true rfl) dX4_run_12 (fun H locs hP hD hS => ?_)
  replace hP := uA_92_3 hP
  replace hD := hD0 ((stR q1.2 92 62))
  refine lv_aload_n hx hb dX4_run_15 rfl (lv_at hl 1 rfl) ?_
  refine va_get (D := (dC, dI)) (ci := 4) (C := RX4) (T := TX4) (N := 12) hx hb hts inlX4 hown hK hP 92 gA_92 rfl 3 (by decide) (hts (.fieldLink RX4 49 "ShapeReader$Reading" "tree" "LShapeReader$Tree;") mw_11_1) (fun _ h9 => h9) rfl dX4_run_16 ?_
  obtain ⟨hg3, h⟩ := ig h
  rw [show (stR q1.2 92 62).2.2.2 92 = 62 from hg3]
  obtain ⟨q4, hc, h⟩ := ib h
  have hF := va_frees hD hS hA
  refine va_callv (va_runV (As := []) (rest := []) ⟨hx, hb, hml, hown, hts⟩ (s_X7_clear_62 hc) (cwV 0 hts (gV mw_11_5 mw_11_6 mw_11_7 mw_0_11 mw_51_23) rfl rfl rfl (by decide +kernel) ⟨(Nat.le_of_ble_eq_true rfl), (Nat.le_of_ble_eq_true rfl)⟩) (vV (ci := 7) (q0 := 62) hK hP hD hN rfl gA_62) rfl rfl hl.1 rfl (lv_room (Nat.le_of_ble_eq_true rfl)) dX4_run_19 ⟨(Nat.le_of_ble_eq_true rfl), (Nat.le_of_ble_eq_true rfl)⟩) hS (fun q _ h => hF q h) hF (fun u t H locs ht hvm hw hB _ _ hS => ?_)
  replace hP : va_P (dC, dI) vwCl (wA a k q4) H := by rw [← ht]; exact hB.1
  replace hD := hD0 (q4)
  clear hB hF
  refine lv_aload_n hx hb dX4_run_22 rfl (lv_at hl 1 rfl) ?_
  refine lv_iload_n hx hb dX4_run_23 rfl (lv_at hl 2 rfl) ?_
  refine va_put (D := (dC, dI)) (ci := 4) (ty := .int) (C := RX4) (T := TX4) (N := 12) hx hb hts inlX4 tyX4 tyX4_ok nmX4 hown hK hP hD hS 92 gA_92 rfl 4 (by decide) (hts (.fieldLink RX4 9 "ShapeReader$Reading" "message" "I") mw_10_20) (fun _ h9 => h9) rfl (by decide +kernel) rfl rfl (Nat.le_of_ble_eq_true rfl) dX4_run_24 (fun H locs hP hD hS => ?_)
  replace hP := uA_92_4 hP
  replace hD := hD0 ((stI q4 92 4 p0))
  refine lv_aload_n hx hb dX4_run_27 rfl (lv_at hl 1 rfl) ?_
  refine lv_iconst (v := 0) hx hb dX4_run_28 (by decide) ?_
  refine va_put (D := (dC, dI)) (ci := 4) (ty := .int) (C := RX4) (T := TX4) (N := 12) hx hb hts inlX4 tyX4 tyX4_ok nmX4 hown hK hP hD hS 92 gA_92 rfl 5 (by decide) (hts (.fieldLink RX4 15 "ShapeReader$Reading" "next" "I") mw_10_21) (fun _ h9 => h9) rfl (by decide +kernel) rfl rfl (Nat.le_of_ble_eq_true rfl) dX4_run_29 (fun H locs hP hD hS => ?_)
  replace hP := uA_92_5 hP
  replace hD := hD0 ((stI (stI q4 92 4 p0) 92 5 0))
  refine lv_aload_n hx hb dX4_run_32 rfl (lv_at hl 1 rfl) ?_
  refine lv_aload_n hx hb dX4_run_33 rfl (lv_at hl 1 rfl) ?_
  refine va_get (D := (dC, dI)) (ci := 4) (C := RX4) (T := TX4) (N := 12) hx hb hts inlX4 hown hK hP 92 gA_92 rfl 1 (by decide) (hts (.fieldLink RX4 41 "ShapeReader$Reading" "messages" "LShapeReader$Messages;") mw_10_29) (fun _ h9 => h9) rfl dX4_run_34 ?_
  refine lv_iload_n hx hb dX4_run_37 rfl (lv_at hl 2 rfl) ?_
  obtain ⟨q6, hc, h⟩ := ib h
  have hF := va_frees hD hS hA
  refine va_calli (va_runV (As := [.int p0]) (rest := [.ref (a 92)]) ⟨hx, hb, hml, hown, hts⟩ (s_X1_sizeOf hc) (cwV 1 hts (gV mw_11_8 mw_4_24 mw_4_25 mw_0_5 mw_48_2) rfl rfl rfl (by decide +kernel) ⟨(Nat.le_of_ble_eq_true rfl), (Nat.le_of_ble_eq_true rfl)⟩) (vV (ci := 1) (q0 := 37) hK hP hD hN rfl gA_37) rfl rfl hl.1 rfl (lv_room (Nat.le_of_ble_eq_true rfl)) dX4_run_38 ⟨(Nat.le_of_ble_eq_true rfl), (Nat.le_of_ble_eq_true rfl)⟩) hS (fun q _ h => hF q h) hF (fun r7 u t H locs ht hvm hw hB _ _ hS => ?_)
  obtain rfl : r7 = q6.1 := hw
  replace hP : va_P (dC, dI) vwCl (wA a k q6.2) H := by rw [← ht]; exact hB.1
  replace hD := hD0 (q6.2)
  clear hB hF
  refine va_put (D := (dC, dI)) (ci := 4) (ty := .int) (C := RX4) (T := TX4) (N := 12) hx hb hts inlX4 tyX4 tyX4_ok nmX4 hown hK hP hD hS 92 gA_92 rfl 6 (by decide) (hts (.fieldLink RX4 18 "ShapeReader$Reading" "end" "I") mw_10_22) (fun _ h9 => h9) rfl (by decide +kernel) rfl rfl (Nat.le_of_ble_eq_true rfl) dX4_run_41 (fun H locs hP hD hS => ?_)
  replace hP := uA_92_6 hP
  replace hD := hD0 ((stI q6.2 92 6 q6.1))
  refine lv_aload_n hx hb dX4_run_44 rfl (lv_at hl 1 rfl) ?_
  refine lv_iconst (v := 0) hx hb dX4_run_45 (by decide) ?_
  refine va_put (D := (dC, dI)) (ci := 4) (ty := .int) (C := RX4) (T := TX4) (N := 12) hx hb hts inlX4 tyX4 tyX4_ok nmX4 hown hK hP hD hS 92 gA_92 rfl 7 (by decide) (hts (.fieldLink RX4 21 "ShapeReader$Reading" "failure" "I") mw_10_23) (fun _ h9 => h9) rfl (by decide +kernel) rfl rfl (Nat.le_of_ble_eq_true rfl) dX4_run_46 (fun H locs hP hD hS => ?_)
  replace hP := uA_92_7 hP
  replace hD := hD0 ((stI (stI q6.2 92 6 q6.1) 92 7 0))
  refine lv_aload_n hx hb dX4_run_49 rfl (lv_at hl 1 rfl) ?_
  refine lv_iconst (v := 0) hx hb dX4_run_50 (by decide) ?_
  refine va_put (D := (dC, dI)) (ci := 4) (ty := .int) (C := RX4) (T := TX4) (N := 12) hx hb hts inlX4 tyX4 tyX4_ok nmX4 hown hK hP hD hS 92 gA_92 rfl 10 (by decide) (hts (.fieldLink RX4 31 "ShapeReader$Reading" "steps" "I") mw_10_26) (fun _ h9 => h9) rfl (by decide +kernel) rfl rfl (Nat.le_of_ble_eq_true rfl) dX4_run_51 (fun H locs hP hD hS => ?_)
  replace hP := uA_92_10 hP
  replace hD := hD0 ((stI (stI (stI q6.2 92 6 q6.1) 92 7 0) 92 10 0))
  refine lv_aload_n hx hb dX4_run_54 rfl (lv_at hl 1 rfl) ?_
  refine va_get (D := (dC, dI)) (ci := 4) (C := RX4) (T := TX4) (N := 12) hx hb hts inlX4 hown hK hP 92 gA_92 rfl 2 (by decide) (hts (.fieldLink RX4 45 "ShapeReader$Reading" "matcher" "LShapeReader$Matcher;") mw_11_0) (fun _ h9 => h9) rfl dX4_run_55 ?_
  refine lv_iload hx hb dX4_run_58 (lv_at hl 0 rfl) ?_
  refine lv_iload_n hx hb dX4_run_60 rfl (lv_at hl 3 rfl) ?_
  obtain ⟨q8, hc, h⟩ := ib h
  have hF := va_frees hD hS hA
  refine va_callv (va_runV (As := [.int q1.1, .int p1]) (rest := []) ⟨hx, hb, hml, hown, hts⟩ (s_X0_turnTo hc) (cwV 2 hts (gV mw_11_9 mw_2_27 mw_2_28 mw_0_4 mw_47_5) rfl rfl rfl (by decide +kernel) ⟨(Nat.le_of_ble_eq_true rfl), (Nat.le_of_ble_eq_true rfl)⟩) (vV (ci := 0) (q0 := 41) hK hP hD hN rfl gA_41) rfl rfl hl.1 rfl (lv_room (Nat.le_of_ble_eq_true rfl)) dX4_run_61 ⟨(Nat.le_of_ble_eq_true rfl), (Nat.le_of_ble_eq_true rfl)⟩) hS (fun q _ h => hF q h) hF (fun u t H locs ht hvm hw hB _ _ hS => ?_)
  replace hP : va_P (dC, dI) vwCl (wA a k q8) H := by rw [← ht]; exact hB.1
  replace hD := hD0 (q8)
  clear hB hF
  refine lv_aload_n hx hb dX4_run_64 rfl (lv_at hl 1 rfl) ?_
  refine va_get (D := (dC, dI)) (ci := 4) (C := RX4) (T := TX4) (N := 12) hx hb hts inlX4 hown hK hP 92 gA_92 rfl 2 (by decide) (hts (.fieldLink RX4 45 "ShapeReader$Reading" "matcher" "LShapeReader$Matcher;") mw_11_0) (fun _ h9 => h9) rfl dX4_run_65 ?_
  obtain ⟨q10, hc, h⟩ := ib h
  have hF := va_frees hD hS hA
  refine va_calli (va_runV (As := []) (rest := []) ⟨hx, hb, hml, hown, hts⟩ (s_X0_rootsFit hc) (cwV 0 hts (gV mw_11_10 mw_3_3 mw_3_4 mw_0_4 mw_47_14) rfl rfl rfl (by decide +kernel) ⟨(Nat.le_of_ble_eq_true rfl), (Nat.le_of_ble_eq_true rfl)⟩) (vV (ci := 0) (q0 := 41) hK hP hD hN rfl gA_41) rfl rfl hl.1 rfl (lv_room (Nat.le_of_ble_eq_true rfl)) dX4_run_68 ⟨(Nat.le_of_ble_eq_true rfl), (Nat.le_of_ble_eq_true rfl)⟩) hS (fun q _ h => hF q h) hF (fun r11 u t H locs ht hvm hw hB _ _ hS => ?_)
  obtain rfl : r11 = q10.1 := hw
  replace hP : va_P (dC, dI) vwCl (wA a k q10.2) H := by rw [← ht]; exact hB.1
  replace hD := hD0 (q10.2)
  clear hB hF
  refine lv_if_ne (tgt := 77) hx hb dX4_run_71 (by decide) (fun hc => ?_) (fun hc => ?_)
  · replace h := iq hc h
    refine lv_aload_n hx hb dX4_run_77 rfl (lv_at hl 1 rfl) ?_
    refine lv_aload_n hx hb dX4_run_78 rfl (lv_at hl 1 rfl) ?_
    refine va_get (D := (dC, dI)) (ci := 4) (C := RX4) (T := TX4) (N := 12) hx hb hts inlX4 hown hK hP 92 gA_92 rfl 0 (by decide) (hts (.fieldLink RX4 37 "ShapeReader$Reading" "shapes" "LShapeReader$Shapes;") mw_10_28) (fun _ h9 => h9) rfl dX4_run_79 ?_
    refine lv_iload hx hb dX4_run_82 (lv_at hl 0 rfl) ?_
    obtain ⟨q12, hc, h⟩ := ib h
    have hF := va_frees hD hS hA
    refine va_calli (va_runV (As := [.int q1.1]) (rest := [.ref (a 92)]) ⟨hx, hb, hml, hown, hts⟩ (s_X5_rootType_4 hc) (cwV 1 hts (gV mw_11_11 mw_3_6 mw_3_7 mw_0_9 mw_49_28) rfl rfl rfl (by decide +kernel) ⟨(Nat.le_of_ble_eq_true rfl), (Nat.le_of_ble_eq_true rfl)⟩) (vV (ci := 5) (q0 := 4) hK hP hD hN rfl gA_4) rfl rfl hl.1 rfl (lv_room (Nat.le_of_ble_eq_true rfl)) dX4_run_84 ⟨(Nat.le_of_ble_eq_true rfl), (Nat.le_of_ble_eq_true rfl)⟩) hS (fun q _ h => hF q h) hF (fun r13 u t H locs ht hvm hw hB _ _ hS => ?_)
    obtain rfl : r13 = q12.1 := hw
    replace hP : va_P (dC, dI) vwCl (wA a k q12.2) H := by rw [← ht]; exact hB.1
    replace hD := hD0 (q12.2)
    clear hB hF
    refine lv_aload_n hx hb dX4_run_87 rfl (lv_at hl 1 rfl) ?_
    refine va_get (D := (dC, dI)) (ci := 4) (C := RX4) (T := TX4) (N := 12) hx hb hts inlX4 hown hK hP 92 gA_92 rfl 0 (by decide) (hts (.fieldLink RX4 37 "ShapeReader$Reading" "shapes" "LShapeReader$Shapes;") mw_10_28) (fun _ h9 => h9) rfl dX4_run_88 ?_
    refine lv_iload_n hx hb dX4_run_91 rfl (lv_at hl 3 rfl) ?_
    obtain ⟨q14, hc, h⟩ := ib h
    have hF := va_frees hD hS hA
    refine va_calli (va_runV (As := [.int p1]) (rest := [.int q12.1, .ref (a 92)]) ⟨hx, hb, hml, hown, hts⟩ (s_X5_rootType_4 hc) (cwV 1 hts (gV mw_11_11 mw_3_6 mw_3_7 mw_0_9 mw_49_28) rfl rfl rfl (by decide +kernel) ⟨(Nat.le_of_ble_eq_true rfl), (Nat.le_of_ble_eq_true rfl)⟩) (vV (ci := 5) (q0 := 4) hK hP hD hN rfl gA_4) rfl rfl hl.1 rfl (lv_room (Nat.le_of_ble_eq_true rfl)) dX4_run_92 ⟨(Nat.le_of_ble_eq_true rfl), (Nat.le_of_ble_eq_true rfl)⟩) hS (fun q _ h => hF q h) hF (fun r15 u t H locs ht hvm hw hB _ _ hS => ?_)
    obtain rfl : r15 = q14.1 := hw
    replace hP : va_P (dC, dI) vwCl (wA a k q14.2) H := by rw [← ht]; exact hB.1
    replace hD := hD0 (q14.2)
    clear hB hF
    refine lv_iconst (v := (-1)) hx hb dX4_run_95 (by decide) ?_
    refine lv_iconst (v := 0) hx hb dX4_run_96 (by decide) ?_
    refine lv_iconst (v := 0) hx hb dX4_run_97 (by decide) ?_
    obtain ⟨q16, hc, h⟩ := ib h
    have hF := va_frees hD hS hA
    refine va_callv (va_runV (As := [.int q12.1, .int q14.1, .int (-1), .int 0, .int 0]) (rest := []) ⟨hx, hb, hml, hown, hts⟩ (s_X4_take_92_62 hc) (cwV 5 hts (gV mw_11_12 mw_11_13 mw_11_14 mw_0_8 mw_49_5) rfl rfl rfl (by decide +kernel) ⟨(Nat.le_of_ble_eq_true rfl), (Nat.le_of_ble_eq_true rfl)⟩) (vV (ci := 4) (q0 := 92) hK hP hD hN rfl gA_92) rfl rfl hl.1 rfl (lv_room (Nat.le_of_ble_eq_true rfl)) dX4_run_98 ⟨(Nat.le_of_ble_eq_true rfl), (Nat.le_of_ble_eq_true rfl)⟩) hS (fun q _ h => hF q h) hF (fun u t H locs ht hvm hw hB _ _ hS => ?_)
    replace hP : va_P (dC, dI) vwCl (wA a k q16) H := by rw [← ht]; exact hB.1
    replace hD := hD0 (q16)
    clear hB hF
    refine lv_aload_n hx hb dX4_run_101 rfl (lv_at hl 1 rfl) ?_
    refine va_get (D := (dC, dI)) (ci := 4) (C := RX4) (T := TX4) (N := 12) hx hb hts inlX4 hown hK hP 92 gA_92 rfl 7 (by decide) (hts (.fieldLink RX4 21 "ShapeReader$Reading" "failure" "I") mw_10_23) (fun _ h9 => h9) rfl dX4_run_102 ?_
    refine lv_if_ne (tgt := 129) hx hb dX4_run_105 (by decide) (fun hc => ?_) (fun hc => ?_)
    · replace h := iq hc h
      exact b_X4_run_129_92_62 hC h _ _ _ hP hD hS (lv_sub hl [1] rfl)
    · replace h := ip hc h
      refine lv_aload_n hx hb dX4_run_108 rfl (lv_at hl 1 rfl) ?_
      refine va_get (D := (dC, dI)) (ci := 4) (C := RX4) (T := TX4) (N := 12) hx hb hts inlX4 hown hK hP 92 gA_92 rfl 5 (by decide) (hts (.fieldLink RX4 15 "ShapeReader$Reading" "next" "I") mw_10_21) (fun _ h9 => h9) rfl dX4_run_109 ?_
      refine lv_aload_n hx hb dX4_run_112 rfl (lv_at hl 1 rfl) ?_
      refine va_get (D := (dC, dI)) (ci := 4) (C := RX4) (T := TX4) (N := 12) hx hb hts inlX4 hown hK hP 92 gA_92 rfl 6 (by decide) (hts (.fieldLink RX4 18 "ShapeReader$Reading" "end" "I") mw_10_22) (fun _ h9 => h9) rfl dX4_run_113 ?_
      refine lv_icmp_ge (tgt := 129) hx hb dX4_run_116 (by decide) (fun hc => ?_) (fun hc => ?_)
      · replace h := ip hc h
        exact b_X4_run_129_92_62 hC h _ _ _ hP hD hS (lv_sub hl [1] rfl)
      · replace h := iq hc h
        refine lv_aload_n hx hb dX4_run_119 rfl (lv_at hl 1 rfl) ?_
        refine lv_bipush (v := 14) hx hb dX4_run_120 (by decide) ?_
        refine lv_aload_n hx hb dX4_run_122 rfl (lv_at hl 1 rfl) ?_
        refine va_get (D := (dC, dI)) (ci := 4) (C := RX4) (T := TX4) (N := 12) hx hb hts inlX4 hown hK hP 92 gA_92 rfl 5 (by decide) (hts (.fieldLink RX4 15 "ShapeReader$Reading" "next" "I") mw_10_21) (fun _ h9 => h9) rfl dX4_run_123 ?_
        obtain ⟨q18, hc, h⟩ := ib h
        have hF := va_frees hD hS hA
        refine va_callv (va_runV (As := [.int 14, .int (q16.1 92 5)]) (rest := []) ⟨hx, hb, hml, hown, hts⟩ (s_X4_fail_92_62 hc) (cwV 2 hts (gV mw_11_15 mw_11_16 mw_11_17 mw_0_8 mw_49_2) rfl rfl rfl (by decide +kernel) ⟨(Nat.le_of_ble_eq_true rfl), (Nat.le_of_ble_eq_true rfl)⟩) (vV (ci := 4) (q0 := 92) hK hP hD hN rfl gA_92) rfl rfl hl.1 rfl (lv_room (Nat.le_of_ble_eq_true rfl)) dX4_run_126 ⟨(Nat.le_of_ble_eq_true rfl), (Nat.le_of_ble_eq_true rfl)⟩) hS (fun q _ h => hF q h) hF (fun u t H locs ht hvm hw hB _ _ hS => ?_)
        replace hP : va_P (dC, dI) vwCl (wA a k q18) H := by rw [← ht]; exact hB.1
        replace hD := hD0 (q18)
        clear hB hF
        exact b_X4_run_129_92_62 hC h _ _ _ hP hD hS (lv_sub hl [1] rfl)
  · replace h := ip hc h
    refine lv_bipush (v := (-2)) hx hb dX4_run_74 (by decide) ?_
    obtain rfl := Option.some.inj h
    exact W.iret hx hb hr (fun t ht hW => ⟨⟨_, (), rfl, rfl, ⟨by rw [ht]; exact hP, va_K.moved hW.alike hK, hD⟩⟩, hS.F ht⟩) hS.2.2 dX4_run_76

theorem s_X4_run_92_62 {l : Launch} {dC : Nat → ClassId} {dI : Nat → Nat → Nat} {a : Nat → Nat} {k : Nat → ClassId} {sz : Nat} {p0 : Int32} {p1 : Int32} {σ : ST} {q : Int32 × ST} (h : f_X4_run 92 62 p0 p1 σ = some q) : Met l yX4_run (.code yX4_run cX4_run 5 (some .int) :: pw) ({ frames := 325, cells := 0, slots := 0, locals := 9080 } : Room) (va_Pc [.ref (a 92), .int p0, .int p1, .ref (a 62)] (vPre dC dI (wA a k σ) (tA k) sz)) (qAi dC dI a k (va_A (wA a k σ) sz) q) 0 0 (va_A (wA a k σ) sz) := metA (fun A => qAi dC dI a k A q) (plainFor_of_name (by decide)) (Nat.le_of_ble_eq_true rfl) (fun _ _ _ _ _ _ _ _ hC => b_X4_run_e_92_62 hC h)

set_option maxRecDepth 100000 in
set_option maxHeartbeats 4000000 in
theorem b_X4_run_129_92_74 {p : Program} {l : Launch} {e : Env} {s : State} {m : MethodId} {args : Array Value} {below : List Frame} {meth : Method} {c : Code} {dC : Nat → ClassId} {dI : Nat → Nat → Nat} {a : Nat → Nat} {k : Nat → ClassId} {A : Nat → Prop} {q : Int32 × ST} (hC : CxA p s m args meth c dC dI k A cX4_run RX4 (some .int) 5)    {σ : ST} (h : f_X4_run_129 92 74  σ = some q) : GoA p l e ({ frames := 325, cells := 0, slots := 0, locals := 9080 } : Room) s m args below meth c (MQ below (qAi dC dI a k A q) args s 0 0 A) dC dI a k A 5 129 σ [(0, .ref (a 92))] [] := by
  have hC0 := hC
  obtain ⟨hx, hb, hr, hml, hown, hts, hlocks, hA, hN, hK⟩ := hC0
  intro H locs ls hP hD hS hl
  have hD0 : ∀ σ1 : ST, va_D A (wA a k σ1) := fun σ1 => wA_D hD
  unfold f_X4_run_129 at h
  refine lv_aload_n hx hb dX4_run_129 rfl (lv_at hl 0 rfl) ?_
  refine va_get (D := (dC, dI)) (ci := 4) (C := RX4) (T := TX4) (N := 12) hx hb hts inlX4 hown hK hP 92 gA_92 rfl 7 (by decide) (hts (.fieldLink RX4 21 "ShapeReader$Reading" "failure" "I") mw_10_23) (fun _ h9 => h9) rfl dX4_run_130 ?_
  refine lv_if_eq (tgt := 146) hx hb dX4_run_133 (by decide) (fun hc => ?_) (fun hc => ?_)
  · replace h := ip hc h
    refine lv_aload_n hx hb dX4_run_146 rfl (lv_at hl 0 rfl) ?_
    refine va_get (D := (dC, dI)) (ci := 4) (C := RX4) (T := TX4) (N := 12) hx hb hts inlX4 hown hK hP 92 gA_92 rfl 3 (by decide) (hts (.fieldLink RX4 49 "ShapeReader$Reading" "tree" "LShapeReader$Tree;") mw_11_1) (fun _ h9 => h9) rfl dX4_run_147 ?_
    obtain ⟨hg1, h⟩ := ig h
    rw [show σ.2.2.2 92 = 74 from hg1]
    obtain ⟨q2, hc, h⟩ := ib h
    have hF := va_frees hD hS hA
    refine va_callv (va_runV (As := []) (rest := []) ⟨hx, hb, hml, hown, hts⟩ (s_X7_putInOrder_74 hc) (cwV 0 hts (gV mw_11_18 mw_11_19 mw_11_20 mw_0_11 mw_52_9) rfl rfl rfl (by decide +kernel) ⟨(Nat.le_of_ble_eq_true rfl), (Nat.le_of_ble_eq_true rfl)⟩) (vV (ci := 7) (q0 := 74) hK hP hD hN rfl gA_74) rfl rfl hl.1 rfl (lv_room (Nat.le_of_ble_eq_true rfl)) dX4_run_150 ⟨(Nat.le_of_ble_eq_true rfl), (Nat.le_of_ble_eq_true rfl)⟩) hS (fun q _ h => hF q h) hF (fun u t H locs ht hvm hw hB _ _ hS => ?_)
    replace hP : va_P (dC, dI) vwCl (wA a k q2) H := by rw [← ht]; exact hB.1
    replace hD := hD0 (q2)
    clear hB hF
    refine lv_aload_n hx hb dX4_run_153 rfl (lv_at hl 0 rfl) ?_
    refine va_get (D := (dC, dI)) (ci := 4) (C := RX4) (T := TX4) (N := 12) hx hb hts inlX4 hown hK hP 92 gA_92 rfl 3 (by decide) (hts (.fieldLink RX4 49 "ShapeReader$Reading" "tree" "LShapeReader$Tree;") mw_11_1) (fun _ h9 => h9) rfl dX4_run_154 ?_
    obtain ⟨hg4, h⟩ := ig h
    rw [show q2.2.2.2 92 = 74 from hg4]
    refine va_get (D := (dC, dI)) (ci := 7) (C := RX7) (T := TX7) (N := 13) hx hb hts inlX7 hown hK hP 74 gA_74 rfl 1 (by decide) (hts (.fieldLink RX4 92 "ShapeReader$Tree" "size" "I") mw_11_21) (fun _ h9 => h9) rfl dX4_run_157 ?_
    obtain rfl := Option.some.inj h
    exact W.iret hx hb hr (fun t ht hW => ⟨⟨_, (), rfl, rfl, ⟨by rw [ht]; exact hP, va_K.moved hW.alike hK, hD⟩⟩, hS.F ht⟩) hS.2.2 dX4_run_160
  · replace h := iq hc h
    refine lv_aload_n hx hb dX4_run_136 rfl (lv_at hl 0 rfl) ?_
    refine va_get (D := (dC, dI)) (ci := 4) (C := RX4) (T := TX4) (N := 12) hx hb hts inlX4 hown hK hP 92 gA_92 rfl 3 (by decide) (hts (.fieldLink RX4 49 "ShapeReader$Reading" "tree" "LShapeReader$Tree;") mw_11_1) (fun _ h9 => h9) rfl dX4_run_137 ?_
    obtain ⟨hg5, h⟩ := ig h
    rw [show σ.2.2.2 92 = 74 from hg5]
    obtain ⟨q6, hc, h⟩ := ib h
    have hF := va_frees hD hS hA
    refine va_callv (va_runV (As := []) (rest := []) ⟨hx, hb, hml, hown, hts⟩ (s_X7_clear_74 hc) (cwV 0 hts (gV mw_11_5 mw_11_6 mw_11_7 mw_0_11 mw_51_23) rfl rfl rfl (by decide +kernel) ⟨(Nat.le_of_ble_eq_true rfl), (Nat.le_of_ble_eq_true rfl)⟩) (vV (ci := 7) (q0 := 74) hK hP hD hN rfl gA_74) rfl rfl hl.1 rfl (lv_room (Nat.le_of_ble_eq_true rfl)) dX4_run_140 ⟨(Nat.le_of_ble_eq_true rfl), (Nat.le_of_ble_eq_true rfl)⟩) hS (fun q _ h => hF q h) hF (fun u t H locs ht hvm hw hB _ _ hS => ?_)
    replace hP : va_P (dC, dI) vwCl (wA a k q6) H := by rw [← ht]; exact hB.1
    replace hD := hD0 (q6)
    clear hB hF
    refine lv_bipush (v := (-3)) hx hb dX4_run_143 (by decide) ?_
    obtain rfl := Option.some.inj h
    exact W.iret hx hb hr (fun t ht hW => ⟨⟨_, (), rfl, rfl, ⟨by rw [ht]; exact hP, va_K.moved hW.alike hK, hD⟩⟩, hS.F ht⟩) hS.2.2 dX4_run_145

set_option maxRecDepth 100000 in
set_option maxHeartbeats 4000000 in
theorem b_X4_run_e_92_74 {p : Program} {l : Launch} {e : Env} {s : State} {m : MethodId} {args : Array Value} {below : List Frame} {meth : Method} {c : Code} {dC : Nat → ClassId} {dI : Nat → Nat → Nat} {a : Nat → Nat} {k : Nat → ClassId} {A : Nat → Prop} {q : Int32 × ST} (hC : CxA p s m args meth c dC dI k A cX4_run RX4 (some .int) 5)   {p0 : Int32} {p1 : Int32} {σ : ST} (h : f_X4_run 92 74 p0 p1 σ = some q) : GoA p l e ({ frames := 325, cells := 0, slots := 0, locals := 9080 } : Room) s m args below meth c (MQ below (qAi dC dI a k A q) args s 0 0 A) dC dI a k A 5 0 σ (lv_args 0 [.ref (a 92), .int p0, .int p1, .ref (a 74)]) [] := by
  have hC0 := hC
  obtain ⟨hx, hb, hr, hml, hown, hts, hlocks, hA, hN, hK⟩ := hC0
  intro H locs ls hP hD hS hl
  have hD0 : ∀ σ1 : ST, va_D A (wA a k σ1) := fun σ1 => wA_D hD
  replace hl : lv_has ls 5 [(0, .ref (a 92)), (1, .int p0), (2, .int p1), (3, .ref (a 74))] := hl
  unfold f_X4_run at h
  refine lv_aload_n hx hb dX4_run_0 rfl (lv_at hl 0 rfl) ?_
  refine va_get (D := (dC, dI)) (ci := 4) (C := RX4) (T := TX4) (N := 12) hx hb hts inlX4 hown hK hP 92 gA_92 rfl 1 (by decide) (hts (.fieldLink RX4 41 "ShapeReader$Reading" "messages" "LShapeReader$Messages;") mw_10_29) (fun _ h9 => h9) rfl dX4_run_1 ?_
  refine lv_iload_n hx hb dX4_run_4 rfl (lv_at hl 1 rfl) ?_
  obtain ⟨q1, hc, h⟩ := ib h
  have hF := va_frees hD hS hA
  refine va_calli (va_runV (As := [.int p0]) (rest := []) ⟨hx, hb, hml, hown, hts⟩ (s_X1_planOf hc) (cwV 1 hts (gV mw_11_2 mw_11_3 mw_11_4 mw_0_5 mw_48_3) rfl rfl rfl (by decide +kernel) ⟨(Nat.le_of_ble_eq_true rfl), (Nat.le_of_ble_eq_true rfl)⟩) (vV (ci := 1) (q0 := 37) hK hP hD hN rfl gA_37) rfl rfl hl.1 rfl (lv_room (Nat.le_of_ble_eq_true rfl)) dX4_run_5 ⟨(Nat.le_of_ble_eq_true rfl), (Nat.le_of_ble_eq_true rfl)⟩) hS (fun q _ h => hF q h) hF (fun r2 u t H locs ht hvm hw hB _ _ hS => ?_)
  obtain rfl : r2 = q1.1 := hw
  replace hP : va_P (dC, dI) vwCl (wA a k q1.2) H := by rw [← ht]; exact hB.1
  replace hD := hD0 (q1.2)
  clear hB hF
  refine lv_istore (lv' := [(4, .int q1.1), (0, .ref (a 92)), (1, .int p0), (2, .int p1), (3, .ref (a 74))]) hx hb dX4_run_8 hl (by decide) rfl (fun ls hl => ?_)
  refine lv_aload_n hx hb dX4_run_10 rfl (lv_at hl 1 rfl) ?_
  refine lv_aload_n hx hb dX4_run_11 rfl (lv_at hl 4 rfl) ?_
  refine va_put (D := (dC, dI)) (ci := 4) (ty := .object "ShapeReader$Tree") (C := RX4) (T := TX4) (N := 12) hx hb hts inlX4 tyX4 tyX4_ok nmX4 hown hK hP hD hS 92 gA_92 rfl 3 (by decide) (hts (.fieldLink RX4 49 "ShapeReader$Reading" "tree" "LShapeReader$Tree;") mw_11_1) (fun _ h9 => h9) rfl (by decide +kernel) rfl rfl (Nat.le_of_ble_eq_true rfl) dX4_run_12 (fun H locs hP hD hS => ?_)
  replace hP := uA_92_3 hP
  replace hD := hD0 ((stR q1.2 92 74))
  refine lv_aload_n hx hb dX4_run_15 rfl (lv_at hl 1 rfl) ?_
  refine va_get (D := (dC, dI)) (ci := 4) (C := RX4) (T := TX4) (N := 12) hx hb hts inlX4 hown hK hP 92 gA_92 rfl 3 (by decide) (hts (.fieldLink RX4 49 "ShapeReader$Reading" "tree" "LShapeReader$Tree;") mw_11_1) (fun _ h9 => h9) rfl dX4_run_16 ?_
  obtain ⟨hg3, h⟩ := ig h
  rw [show (stR q1.2 92 74).2.2.2 92 = 74 from hg3]
  obtain ⟨q4, hc, h⟩ := ib h
  have hF := va_frees hD hS hA
  refine va_callv (va_runV (As := []) (rest := []) ⟨hx, hb, hml, hown, hts⟩ (s_X7_clear_74 hc) (cwV 0 hts (gV mw_11_5 mw_11_6 mw_11_7 mw_0_11 mw_51_23) rfl rfl rfl (by decide +kernel) ⟨(Nat.le_of_ble_eq_true rfl), (Nat.le_of_ble_eq_true rfl)⟩) (vV (ci := 7) (q0 := 74) hK hP hD hN rfl gA_74) rfl rfl hl.1 rfl (lv_room (Nat.le_of_ble_eq_true rfl)) dX4_run_19 ⟨(Nat.le_of_ble_eq_true rfl), (Nat.le_of_ble_eq_true rfl)⟩) hS (fun q _ h => hF q h) hF (fun u t H locs ht hvm hw hB _ _ hS => ?_)
  replace hP : va_P (dC, dI) vwCl (wA a k q4) H := by rw [← ht]; exact hB.1
  replace hD := hD0 (q4)
  clear hB hF
  refine lv_aload_n hx hb dX4_run_22 rfl (lv_at hl 1 rfl) ?_
  refine lv_iload_n hx hb dX4_run_23 rfl (lv_at hl 2 rfl) ?_
  refine va_put (D := (dC, dI)) (ci := 4) (ty := .int) (C := RX4) (T := TX4) (N := 12) hx hb hts inlX4 tyX4 tyX4_ok nmX4 hown hK hP hD hS 92 gA_92 rfl 4 (by decide) (hts (.fieldLink RX4 9 "ShapeReader$Reading" "message" "I") mw_10_20) (fun _ h9 => h9) rfl (by decide +kernel) rfl rfl (Nat.le_of_ble_eq_true rfl) dX4_run_24 (fun H locs hP hD hS => ?_)
  replace hP := uA_92_4 hP
  replace hD := hD0 ((stI q4 92 4 p0))
  refine lv_aload_n hx hb dX4_run_27 rfl (lv_at hl 1 rfl) ?_
  refine lv_iconst (v := 0) hx hb dX4_run_28 (by decide) ?_
  refine va_put (D := (dC, dI)) (ci := 4) (ty := .int) (C := RX4) (T := TX4) (N := 12) hx hb hts inlX4 tyX4 tyX4_ok nmX4 hown hK hP hD hS 92 gA_92 rfl 5 (by decide) (hts (.fieldLink RX4 15 "ShapeReader$Reading" "next" "I") mw_10_21) (fun _ h9 => h9) rfl (by decide +kernel) rfl rfl (Nat.le_of_ble_eq_true rfl) dX4_run_29 (fun H locs hP hD hS => ?_)
  replace hP := uA_92_5 hP
  replace hD := hD0 ((stI (stI q4 92 4 p0) 92 5 0))
  refine lv_aload_n hx hb dX4_run_32 rfl (lv_at hl 1 rfl) ?_
  refine lv_aload_n hx hb dX4_run_33 rfl (lv_at hl 1 rfl) ?_
  refine va_get (D := (dC, dI)) (ci := 4) (C := RX4) (T := TX4) (N := 12) hx hb hts inlX4 hown hK hP 92 gA_92 rfl 1 (by decide) (hts (.fieldLink RX4 41 "ShapeReader$Reading" "messages" "LShapeReader$Messages;") mw_10_29) (fun _ h9 => h9) rfl dX4_run_34 ?_
  refine lv_iload_n hx hb dX4_run_37 rfl (lv_at hl 2 rfl) ?_
  obtain ⟨q6, hc, h⟩ := ib h
  have hF := va_frees hD hS hA
  refine va_calli (va_runV (As := [.int p0]) (rest := [.ref (a 92)]) ⟨hx, hb, hml, hown, hts⟩ (s_X1_sizeOf hc) (cwV 1 hts (gV mw_11_8 mw_4_24 mw_4_25 mw_0_5 mw_48_2) rfl rfl rfl (by decide +kernel) ⟨(Nat.le_of_ble_eq_true rfl), (Nat.le_of_ble_eq_true rfl)⟩) (vV (ci := 1) (q0 := 37) hK hP hD hN rfl gA_37) rfl rfl hl.1 rfl (lv_room (Nat.le_of_ble_eq_true rfl)) dX4_run_38 ⟨(Nat.le_of_ble_eq_true rfl), (Nat.le_of_ble_eq_true rfl)⟩) hS (fun q _ h => hF q h) hF (fun r7 u t H locs ht hvm hw hB _ _ hS => ?_)
  obtain rfl : r7 = q6.1 := hw
  replace hP : va_P (dC, dI) vwCl (wA a k q6.2) H := by rw [← ht]; exact hB.1
  replace hD := hD0 (q6.2)
  clear hB hF
  refine va_put (D := (dC, dI)) (ci := 4) (ty := .int) (C := RX4) (T := TX4) (N := 12) hx hb hts inlX4 tyX4 tyX4_ok nmX4 hown hK hP hD hS 92 gA_92 rfl 6 (by decide) (hts (.fieldLink RX4 18 "ShapeReader$Reading" "end" "I") mw_10_22) (fun _ h9 => h9) rfl (by decide +kernel) rfl rfl (Nat.le_of_ble_eq_true rfl) dX4_run_41 (fun H locs hP hD hS => ?_)
  replace hP := uA_92_6 hP
  replace hD := hD0 ((stI q6.2 92 6 q6.1))
  refine lv_aload_n hx hb dX4_run_44 rfl (lv_at hl 1 rfl) ?_
  refine lv_iconst (v := 0) hx hb dX4_run_45 (by decide) ?_
  refine va_put (D := (dC, dI)) (ci := 4) (ty := .int) (C := RX4) (T := TX4) (N := 12) hx hb hts inlX4 tyX4 tyX4_ok nmX4 hown hK hP hD hS 92 gA_92 rfl 7 (by decide) (hts (.fieldLink RX4 21 "ShapeReader$Reading" "failure" "I") mw_10_23) (fun _ h9 => h9) rfl (by decide +kernel) rfl rfl (Nat.le_of_ble_eq_true rfl) dX4_run_46 (fun H locs hP hD hS => ?_)
  replace hP := uA_92_7 hP
  replace hD := hD0 ((stI (stI q6.2 92 6 q6.1) 92 7 0))
  refine lv_aload_n hx hb dX4_run_49 rfl (lv_at hl 1 rfl) ?_
  refine lv_iconst (v := 0) hx hb dX4_run_50 (by decide) ?_
  refine va_put (D := (dC, dI)) (ci := 4) (ty := .int) (C := RX4) (T := TX4) (N := 12) hx hb hts inlX4 tyX4 tyX4_ok nmX4 hown hK hP hD hS 92 gA_92 rfl 10 (by decide) (hts (.fieldLink RX4 31 "ShapeReader$Reading" "steps" "I") mw_10_26) (fun _ h9 => h9) rfl (by decide +kernel) rfl rfl (Nat.le_of_ble_eq_true rfl) dX4_run_51 (fun H locs hP hD hS => ?_)
  replace hP := uA_92_10 hP
  replace hD := hD0 ((stI (stI (stI q6.2 92 6 q6.1) 92 7 0) 92 10 0))
  refine lv_aload_n hx hb dX4_run_54 rfl (lv_at hl 1 rfl) ?_
  refine va_get (D := (dC, dI)) (ci := 4) (C := RX4) (T := TX4) (N := 12) hx hb hts inlX4 hown hK hP 92 gA_92 rfl 2 (by decide) (hts (.fieldLink RX4 45 "ShapeReader$Reading" "matcher" "LShapeReader$Matcher;") mw_11_0) (fun _ h9 => h9) rfl dX4_run_55 ?_
  refine lv_iload hx hb dX4_run_58 (lv_at hl 0 rfl) ?_
  refine lv_iload_n hx hb dX4_run_60 rfl (lv_at hl 3 rfl) ?_
  obtain ⟨q8, hc, h⟩ := ib h
  have hF := va_frees hD hS hA
  refine va_callv (va_runV (As := [.int q1.1, .int p1]) (rest := []) ⟨hx, hb, hml, hown, hts⟩ (s_X0_turnTo hc) (cwV 2 hts (gV mw_11_9 mw_2_27 mw_2_28 mw_0_4 mw_47_5) rfl rfl rfl (by decide +kernel) ⟨(Nat.le_of_ble_eq_true rfl), (Nat.le_of_ble_eq_true rfl)⟩) (vV (ci := 0) (q0 := 41) hK hP hD hN rfl gA_41) rfl rfl hl.1 rfl (lv_room (Nat.le_of_ble_eq_true rfl)) dX4_run_61 ⟨(Nat.le_of_ble_eq_true rfl), (Nat.le_of_ble_eq_true rfl)⟩) hS (fun q _ h => hF q h) hF (fun u t H locs ht hvm hw hB _ _ hS => ?_)
  replace hP : va_P (dC, dI) vwCl (wA a k q8) H := by rw [← ht]; exact hB.1
  replace hD := hD0 (q8)
  clear hB hF
  refine lv_aload_n hx hb dX4_run_64 rfl (lv_at hl 1 rfl) ?_
  refine va_get (D := (dC, dI)) (ci := 4) (C := RX4) (T := TX4) (N := 12) hx hb hts inlX4 hown hK hP 92 gA_92 rfl 2 (by decide) (hts (.fieldLink RX4 45 "ShapeReader$Reading" "matcher" "LShapeReader$Matcher;") mw_11_0) (fun _ h9 => h9) rfl dX4_run_65 ?_
  obtain ⟨q10, hc, h⟩ := ib h
  have hF := va_frees hD hS hA
  refine va_calli (va_runV (As := []) (rest := []) ⟨hx, hb, hml, hown, hts⟩ (s_X0_rootsFit hc) (cwV 0 hts (gV mw_11_10 mw_3_3 mw_3_4 mw_0_4 mw_47_14) rfl rfl rfl (by decide +kernel) ⟨(Nat.le_of_ble_eq_true rfl), (Nat.le_of_ble_eq_true rfl)⟩) (vV (ci := 0) (q0 := 41) hK hP hD hN rfl gA_41) rfl rfl hl.1 rfl (lv_room (Nat.le_of_ble_eq_true rfl)) dX4_run_68 ⟨(Nat.le_of_ble_eq_true rfl), (Nat.le_of_ble_eq_true rfl)⟩) hS (fun q _ h => hF q h) hF (fun r11 u t H locs ht hvm hw hB _ _ hS => ?_)
  obtain rfl : r11 = q10.1 := hw
  replace hP : va_P (dC, dI) vwCl (wA a k q10.2) H := by rw [← ht]; exact hB.1
  replace hD := hD0 (q10.2)
  clear hB hF
  refine lv_if_ne (tgt := 77) hx hb dX4_run_71 (by decide) (fun hc => ?_) (fun hc => ?_)
  · replace h := iq hc h
    refine lv_aload_n hx hb dX4_run_77 rfl (lv_at hl 1 rfl) ?_
    refine lv_aload_n hx hb dX4_run_78 rfl (lv_at hl 1 rfl) ?_
    refine va_get (D := (dC, dI)) (ci := 4) (C := RX4) (T := TX4) (N := 12) hx hb hts inlX4 hown hK hP 92 gA_92 rfl 0 (by decide) (hts (.fieldLink RX4 37 "ShapeReader$Reading" "shapes" "LShapeReader$Shapes;") mw_10_28) (fun _ h9 => h9) rfl dX4_run_79 ?_
    refine lv_iload hx hb dX4_run_82 (lv_at hl 0 rfl) ?_
    obtain ⟨q12, hc, h⟩ := ib h
    have hF := va_frees hD hS hA
    refine va_calli (va_runV (As := [.int q1.1]) (rest := [.ref (a 92)]) ⟨hx, hb, hml, hown, hts⟩ (s_X5_rootType_4 hc) (cwV 1 hts (gV mw_11_11 mw_3_6 mw_3_7 mw_0_9 mw_49_28) rfl rfl rfl (by decide +kernel) ⟨(Nat.le_of_ble_eq_true rfl), (Nat.le_of_ble_eq_true rfl)⟩) (vV (ci := 5) (q0 := 4) hK hP hD hN rfl gA_4) rfl rfl hl.1 rfl (lv_room (Nat.le_of_ble_eq_true rfl)) dX4_run_84 ⟨(Nat.le_of_ble_eq_true rfl), (Nat.le_of_ble_eq_true rfl)⟩) hS (fun q _ h => hF q h) hF (fun r13 u t H locs ht hvm hw hB _ _ hS => ?_)
    obtain rfl : r13 = q12.1 := hw
    replace hP : va_P (dC, dI) vwCl (wA a k q12.2) H := by rw [← ht]; exact hB.1
    replace hD := hD0 (q12.2)
    clear hB hF
    refine lv_aload_n hx hb dX4_run_87 rfl (lv_at hl 1 rfl) ?_
    refine va_get (D := (dC, dI)) (ci := 4) (C := RX4) (T := TX4) (N := 12) hx hb hts inlX4 hown hK hP 92 gA_92 rfl 0 (by decide) (hts (.fieldLink RX4 37 "ShapeReader$Reading" "shapes" "LShapeReader$Shapes;") mw_10_28) (fun _ h9 => h9) rfl dX4_run_88 ?_
    refine lv_iload_n hx hb dX4_run_91 rfl (lv_at hl 3 rfl) ?_
    obtain ⟨q14, hc, h⟩ := ib h
    have hF := va_frees hD hS hA
    refine va_calli (va_runV (As := [.int p1]) (rest := [.int q12.1, .ref (a 92)]) ⟨hx, hb, hml, hown, hts⟩ (s_X5_rootType_4 hc) (cwV 1 hts (gV mw_11_11 mw_3_6 mw_3_7 mw_0_9 mw_49_28) rfl rfl rfl (by decide +kernel) ⟨(Nat.le_of_ble_eq_true rfl), (Nat.le_of_ble_eq_true rfl)⟩) (vV (ci := 5) (q0 := 4) hK hP hD hN rfl gA_4) rfl rfl hl.1 rfl (lv_room (Nat.le_of_ble_eq_true rfl)) dX4_run_92 ⟨(Nat.le_of_ble_eq_true rfl), (Nat.le_of_ble_eq_true rfl)⟩) hS (fun q _ h => hF q h) hF (fun r15 u t H locs ht hvm hw hB _ _ hS => ?_)
    obtain rfl : r15 = q14.1 := hw
    replace hP : va_P (dC, dI) vwCl (wA a k q14.2) H := by rw [← ht]; exact hB.1
    replace hD := hD0 (q14.2)
    clear hB hF
    refine lv_iconst (v := (-1)) hx hb dX4_run_95 (by decide) ?_
    refine lv_iconst (v := 0) hx hb dX4_run_96 (by decide) ?_
    refine lv_iconst (v := 0) hx hb dX4_run_97 (by decide) ?_
    obtain ⟨q16, hc, h⟩ := ib h
    have hF := va_frees hD hS hA
    refine va_callv (va_runV (As := [.int q12.1, .int q14.1, .int (-1), .int 0, .int 0]) (rest := []) ⟨hx, hb, hml, hown, hts⟩ (s_X4_take_92_74 hc) (cwV 5 hts (gV mw_11_12 mw_11_13 mw_11_14 mw_0_8 mw_49_5) rfl rfl rfl (by decide +kernel) ⟨(Nat.le_of_ble_eq_true rfl), (Nat.le_of_ble_eq_true rfl)⟩) (vV (ci := 4) (q0 := 92) hK hP hD hN rfl gA_92) rfl rfl hl.1 rfl (lv_room (Nat.le_of_ble_eq_true rfl)) dX4_run_98 ⟨(Nat.le_of_ble_eq_true rfl), (Nat.le_of_ble_eq_true rfl)⟩) hS (fun q _ h => hF q h) hF (fun u t H locs ht hvm hw hB _ _ hS => ?_)
    replace hP : va_P (dC, dI) vwCl (wA a k q16) H := by rw [← ht]; exact hB.1
    replace hD := hD0 (q16)
    clear hB hF
    refine lv_aload_n hx hb dX4_run_101 rfl (lv_at hl 1 rfl) ?_
    refine va_get (D := (dC, dI)) (ci := 4) (C := RX4) (T := TX4) (N := 12) hx hb hts inlX4 hown hK hP 92 gA_92 rfl 7 (by decide) (hts (.fieldLink RX4 21 "ShapeReader$Reading" "failure" "I") mw_10_23) (fun _ h9 => h9) rfl dX4_run_102 ?_
    refine lv_if_ne (tgt := 129) hx hb dX4_run_105 (by decide) (fun hc => ?_) (fun hc => ?_)
    · replace h := iq hc h
      exact b_X4_run_129_92_74 hC h _ _ _ hP hD hS (lv_sub hl [1] rfl)
    · replace h := ip hc h
      refine lv_aload_n hx hb dX4_run_108 rfl (lv_at hl 1 rfl) ?_
      refine va_get (D := (dC, dI)) (ci := 4) (C := RX4) (T := TX4) (N := 12) hx hb hts inlX4 hown hK hP 92 gA_92 rfl 5 (by decide) (hts (.fieldLink RX4 15 "ShapeReader$Reading" "next" "I") mw_10_21) (fun _ h9 => h9) rfl dX4_run_109 ?_
      refine lv_aload_n hx hb dX4_run_112 rfl (lv_at hl 1 rfl) ?_
      refine va_get (D := (dC, dI)) (ci := 4) (C := RX4) (T := TX4) (N := 12) hx hb hts inlX4 hown hK hP 92 gA_92 rfl 6 (by decide) (hts (.fieldLink RX4 18 "ShapeReader$Reading" "end" "I") mw_10_22) (fun _ h9 => h9) rfl dX4_run_113 ?_
      refine lv_icmp_ge (tgt := 129) hx hb dX4_run_116 (by decide) (fun hc => ?_) (fun hc => ?_)
      · replace h := ip hc h
        exact b_X4_run_129_92_74 hC h _ _ _ hP hD hS (lv_sub hl [1] rfl)
      · replace h := iq hc h
        refine lv_aload_n hx hb dX4_run_119 rfl (lv_at hl 1 rfl) ?_
        refine lv_bipush (v := 14) hx hb dX4_run_120 (by decide) ?_
        refine lv_aload_n hx hb dX4_run_122 rfl (lv_at hl 1 rfl) ?_
        refine va_get (D := (dC, dI)) (ci := 4) (C := RX4) (T := TX4) (N := 12) hx hb hts inlX4 hown hK hP 92 gA_92 rfl 5 (by decide) (hts (.fieldLink RX4 15 "ShapeReader$Reading" "next" "I") mw_10_21) (fun _ h9 => h9) rfl dX4_run_123 ?_
        obtain ⟨q18, hc, h⟩ := ib h
        have hF := va_frees hD hS hA
        refine va_callv (va_runV (As := [.int 14, .int (q16.1 92 5)]) (rest := []) ⟨hx, hb, hml, hown, hts⟩ (s_X4_fail_92_74 hc) (cwV 2 hts (gV mw_11_15 mw_11_16 mw_11_17 mw_0_8 mw_49_2) rfl rfl rfl (by decide +kernel) ⟨(Nat.le_of_ble_eq_true rfl), (Nat.le_of_ble_eq_true rfl)⟩) (vV (ci := 4) (q0 := 92) hK hP hD hN rfl gA_92) rfl rfl hl.1 rfl (lv_room (Nat.le_of_ble_eq_true rfl)) dX4_run_126 ⟨(Nat.le_of_ble_eq_true rfl), (Nat.le_of_ble_eq_true rfl)⟩) hS (fun q _ h => hF q h) hF (fun u t H locs ht hvm hw hB _ _ hS => ?_)
        replace hP : va_P (dC, dI) vwCl (wA a k q18) H := by rw [← ht]; exact hB.1
        replace hD := hD0 (q18)
        clear hB hF
        exact b_X4_run_129_92_74 hC h _ _ _ hP hD hS (lv_sub hl [1] rfl)
  · replace h := ip hc h
    refine lv_bipush (v := (-2)) hx hb dX4_run_74 (by decide) ?_
    obtain rfl := Option.some.inj h
    exact W.iret hx hb hr (fun t ht hW => ⟨⟨_, (), rfl, rfl, ⟨by rw [ht]; exact hP, va_K.moved hW.alike hK, hD⟩⟩, hS.F ht⟩) hS.2.2 dX4_run_76

theorem s_X4_run_92_74 {l : Launch} {dC : Nat → ClassId} {dI : Nat → Nat → Nat} {a : Nat → Nat} {k : Nat → ClassId} {sz : Nat} {p0 : Int32} {p1 : Int32} {σ : ST} {q : Int32 × ST} (h : f_X4_run 92 74 p0 p1 σ = some q) : Met l yX4_run (.code yX4_run cX4_run 5 (some .int) :: pw) ({ frames := 325, cells := 0, slots := 0, locals := 9080 } : Room) (va_Pc [.ref (a 92), .int p0, .int p1, .ref (a 74)] (vPre dC dI (wA a k σ) (tA k) sz)) (qAi dC dI a k (va_A (wA a k σ) sz) q) 0 0 (va_A (wA a k σ) sz) := metA (fun A => qAi dC dI a k A q) (plainFor_of_name (by decide)) (Nat.le_of_ble_eq_true rfl) (fun _ _ _ _ _ _ _ _ hC => b_X4_run_e_92_74 hC h)

def f_X7_rowAt (b : Nat) (p0 : Int32) (σ : ST) : Option (Int32 × ST) := if p0 < 0 then (some ((-1), σ)) else (if (σ.1 b 1) ≤ p0 then (some ((-1), σ)) else (if (σ.1 b 0) ≤ p0 then (some ((-1), σ)) else (if 0 ≤ p0.toInt ∧ p0.toInt < (ln7 b : Nat) then (some ((σ.1 (b + 10) p0.toNatClampNeg), σ)) else none)))

set_option maxRecDepth 100000 in
set_option maxHeartbeats 4000000 in
theorem b_X7_rowAt_e_50 {p : Program} {l : Launch} {e : Env} {s : State} {m : MethodId} {args : Array Value} {below : List Frame} {meth : Method} {c : Code} {dC : Nat → ClassId} {dI : Nat → Nat → Nat} {a : Nat → Nat} {k : Nat → ClassId} {A : Nat → Prop} {q : Int32 × ST} (hC : CxA p s m args meth c dC dI k A cX7_rowAt RX7 (some .int) 2)   {p0 : Int32} {σ : ST} (h : f_X7_rowAt 50 p0 σ = some q) : GoA p l e ({ frames := 0, cells := 0, slots := 0, locals := 0 } : Room) s m args below meth c (MQ below (qAi dC dI a k A q) args s 0 0 A) dC dI a k A 2 0 σ (lv_args 0 [.ref (a 50), .int p0]) [] := by
  have hC0 := hC
  obtain ⟨hx, hb, hr, hml, hown, hts, hlocks, hA, hN, hK⟩ := hC0
  intro H locs ls hP hD hS hl
  have hD0 : ∀ σ1 : ST, va_D A (wA a k σ1) := fun σ1 => wA_D hD
  replace hl : lv_has ls 2 [(0, .ref (a 50)), (1, .int p0)] := hl
  unfold f_X7_rowAt at h
  refine lv_iload_n hx hb dX7_rowAt_0 rfl (lv_at hl 1 rfl) ?_
  refine lv_if_lt (tgt := 29) hx hb dX7_rowAt_1 (by decide) (fun hc => ?_) (fun hc => ?_)
  · replace h := ip hc h
    refine lv_iconst (v := (-1)) hx hb dX7_rowAt_29 (by decide) ?_
    obtain rfl := Option.some.inj h
    exact W.iret hx hb hr (fun t ht hW => ⟨⟨_, (), rfl, rfl, ⟨by rw [ht]; exact hP, va_K.moved hW.alike hK, hD⟩⟩, hS.F ht⟩) hS.2.2 dX7_rowAt_30
  · replace h := iq hc h
    refine lv_iload_n hx hb dX7_rowAt_4 rfl (lv_at hl 1 rfl) ?_
    refine lv_aload_n hx hb dX7_rowAt_5 rfl (lv_at hl 0 rfl) ?_
    refine va_get (D := (dC, dI)) (ci := 7) (C := RX7) (T := TX7) (N := 13) hx hb hts inlX7 hown hK hP 50 gA_50 rfl 1 (by decide) (hts (.fieldLink RX7 9 "ShapeReader$Tree" "size" "I") mw_18_1) (fun _ h9 => h9) rfl dX7_rowAt_6 ?_
    refine lv_icmp_ge (tgt := 29) hx hb dX7_rowAt_9 (by decide) (fun hc => ?_) (fun hc => ?_)
    · replace h := ip hc h
      refine lv_iconst (v := (-1)) hx hb dX7_rowAt_29 (by decide) ?_
      obtain rfl := Option.some.inj h
      exact W.iret hx hb hr (fun t ht hW => ⟨⟨_, (), rfl, rfl, ⟨by rw [ht]; exact hP, va_K.moved hW.alike hK, hD⟩⟩, hS.F ht⟩) hS.2.2 dX7_rowAt_30
    · replace h := iq hc h
      refine lv_iload_n hx hb dX7_rowAt_12 rfl (lv_at hl 1 rfl) ?_
      refine lv_aload_n hx hb dX7_rowAt_13 rfl (lv_at hl 0 rfl) ?_
      refine va_get (D := (dC, dI)) (ci := 7) (C := RX7) (T := TX7) (N := 13) hx hb hts inlX7 hown hK hP 50 gA_50 rfl 0 (by decide) (hts (.fieldLink RX7 15 "ShapeReader$Tree" "rows" "I") mw_18_2) (fun _ h9 => h9) rfl dX7_rowAt_14 ?_
      refine lv_icmp_ge (tgt := 29) hx hb dX7_rowAt_17 (by decide) (fun hc => ?_) (fun hc => ?_)
      · replace h := ip hc h
        refine lv_iconst (v := (-1)) hx hb dX7_rowAt_29 (by decide) ?_
        obtain rfl := Option.some.inj h
        exact W.iret hx hb hr (fun t ht hW => ⟨⟨_, (), rfl, rfl, ⟨by rw [ht]; exact hP, va_K.moved hW.alike hK, hD⟩⟩, hS.F ht⟩) hS.2.2 dX7_rowAt_30
      · replace h := iq hc h
        refine lv_aload_n hx hb dX7_rowAt_20 rfl (lv_at hl 0 rfl) ?_
        refine va_get (D := (dC, dI)) (ci := 7) (C := RX7) (T := TX7) (N := 13) hx hb hts inlX7 hown hK hP 50 gA_50 rfl 11 (by decide) (hts (.fieldLink RX7 48 "ShapeReader$Tree" "order" "[I") mw_18_12) (fun _ h9 => h9) rfl dX7_rowAt_21 ?_
        refine lv_iload_n hx hb dX7_rowAt_24 rfl (lv_at hl 1 rfl) ?_
        obtain ⟨hg1, h⟩ := ig h
        refine va_iald hx hb hK hP 60 51 gA_60 yA_60 (vp_in_iff.mpr hg1) dX7_rowAt_25 ?_
        refine lv_goto (tgt := 30) hx hb dX7_rowAt_26 (by decide) ?_
        obtain rfl := Option.some.inj h
        exact W.iret hx hb hr (fun t ht hW => ⟨⟨_, (), rfl, rfl, ⟨by rw [ht]; exact hP, va_K.moved hW.alike hK, hD⟩⟩, hS.F ht⟩) hS.2.2 dX7_rowAt_30

theorem s_X7_rowAt_50 {l : Launch} {dC : Nat → ClassId} {dI : Nat → Nat → Nat} {a : Nat → Nat} {k : Nat → ClassId} {sz : Nat} {p0 : Int32} {σ : ST} {q : Int32 × ST} (h : f_X7_rowAt 50 p0 σ = some q) : Met l yX7_rowAt (.code yX7_rowAt cX7_rowAt 2 (some .int) :: pw) ({ frames := 0, cells := 0, slots := 0, locals := 0 } : Room) (va_Pc [.ref (a 50), .int p0] (vPre dC dI (wA a k σ) (tA k) sz)) (qAi dC dI a k (va_A (wA a k σ) sz) q) 0 0 (va_A (wA a k σ) sz) := metA (fun A => qAi dC dI a k A q) (plainFor_of_name (by decide)) (Nat.le_of_ble_eq_true rfl) (fun _ _ _ _ _ _ _ _ hC => b_X7_rowAt_e_50 hC h)

set_option maxRecDepth 100000 in
set_option maxHeartbeats 4000000 in
theorem b_X7_rowAt_e_62 {p : Program} {l : Launch} {e : Env} {s : State} {m : MethodId} {args : Array Value} {below : List Frame} {meth : Method} {c : Code} {dC : Nat → ClassId} {dI : Nat → Nat → Nat} {a : Nat → Nat} {k : Nat → ClassId} {A : Nat → Prop} {q : Int32 × ST} (hC : CxA p s m args meth c dC dI k A cX7_rowAt RX7 (some .int) 2)   {p0 : Int32} {σ : ST} (h : f_X7_rowAt 62 p0 σ = some q) : GoA p l e ({ frames := 0, cells := 0, slots := 0, locals := 0 } : Room) s m args below meth c (MQ below (qAi dC dI a k A q) args s 0 0 A) dC dI a k A 2 0 σ (lv_args 0 [.ref (a 62), .int p0]) [] := by
  have hC0 := hC
  obtain ⟨hx, hb, hr, hml, hown, hts, hlocks, hA, hN, hK⟩ := hC0
  intro H locs ls hP hD hS hl
  have hD0 : ∀ σ1 : ST, va_D A (wA a k σ1) := fun σ1 => wA_D hD
  replace hl : lv_has ls 2 [(0, .ref (a 62)), (1, .int p0)] := hl
  unfold f_X7_rowAt at h
  refine lv_iload_n hx hb dX7_rowAt_0 rfl (lv_at hl 1 rfl) ?_
  refine lv_if_lt (tgt := 29) hx hb dX7_rowAt_1 (by decide) (fun hc => ?_) (fun hc => ?_)
  · replace h := ip hc h
    refine lv_iconst (v := (-1)) hx hb dX7_rowAt_29 (by decide) ?_
    obtain rfl := Option.some.inj h
    exact W.iret hx hb hr (fun t ht hW => ⟨⟨_, (), rfl, rfl, ⟨by rw [ht]; exact hP, va_K.moved hW.alike hK, hD⟩⟩, hS.F ht⟩) hS.2.2 dX7_rowAt_30
  · replace h := iq hc h
    refine lv_iload_n hx hb dX7_rowAt_4 rfl (lv_at hl 1 rfl) ?_
    refine lv_aload_n hx hb dX7_rowAt_5 rfl (lv_at hl 0 rfl) ?_
    refine va_get (D := (dC, dI)) (ci := 7) (C := RX7) (T := TX7) (N := 13) hx hb hts inlX7 hown hK hP 62 gA_62 rfl 1 (by decide) (hts (.fieldLink RX7 9 "ShapeReader$Tree" "size" "I") mw_18_1) (fun _ h9 => h9) rfl dX7_rowAt_6 ?_
    refine lv_icmp_ge (tgt := 29) hx hb dX7_rowAt_9 (by decide) (fun hc => ?_) (fun hc => ?_)
    · replace h := ip hc h
      refine lv_iconst (v := (-1)) hx hb dX7_rowAt_29 (by decide) ?_
      obtain rfl := Option.some.inj h
      exact W.iret hx hb hr (fun t ht hW => ⟨⟨_, (), rfl, rfl, ⟨by rw [ht]; exact hP, va_K.moved hW.alike hK, hD⟩⟩, hS.F ht⟩) hS.2.2 dX7_rowAt_30
    · replace h := iq hc h
      refine lv_iload_n hx hb dX7_rowAt_12 rfl (lv_at hl 1 rfl) ?_
      refine lv_aload_n hx hb dX7_rowAt_13 rfl (lv_at hl 0 rfl) ?_
      refine va_get (D := (dC, dI)) (ci := 7) (C := RX7) (T := TX7) (N := 13) hx hb hts inlX7 hown hK hP 62 gA_62 rfl 0 (by decide) (hts (.fieldLink RX7 15 "ShapeReader$Tree" "rows" "I") mw_18_2) (fun _ h9 => h9) rfl dX7_rowAt_14 ?_
      refine lv_icmp_ge (tgt := 29) hx hb dX7_rowAt_17 (by decide) (fun hc => ?_) (fun hc => ?_)
      · replace h := ip hc h
        refine lv_iconst (v := (-1)) hx hb dX7_rowAt_29 (by decide) ?_
        obtain rfl := Option.some.inj h
        exact W.iret hx hb hr (fun t ht hW => ⟨⟨_, (), rfl, rfl, ⟨by rw [ht]; exact hP, va_K.moved hW.alike hK, hD⟩⟩, hS.F ht⟩) hS.2.2 dX7_rowAt_30
      · replace h := iq hc h
        refine lv_aload_n hx hb dX7_rowAt_20 rfl (lv_at hl 0 rfl) ?_
        refine va_get (D := (dC, dI)) (ci := 7) (C := RX7) (T := TX7) (N := 13) hx hb hts inlX7 hown hK hP 62 gA_62 rfl 11 (by decide) (hts (.fieldLink RX7 48 "ShapeReader$Tree" "order" "[I") mw_18_12) (fun _ h9 => h9) rfl dX7_rowAt_21 ?_
        refine lv_iload_n hx hb dX7_rowAt_24 rfl (lv_at hl 1 rfl) ?_
        obtain ⟨hg1, h⟩ := ig h
        refine va_iald hx hb hK hP 72 62 gA_72 yA_72 (vp_in_iff.mpr hg1) dX7_rowAt_25 ?_
        refine lv_goto (tgt := 30) hx hb dX7_rowAt_26 (by decide) ?_
        obtain rfl := Option.some.inj h
        exact W.iret hx hb hr (fun t ht hW => ⟨⟨_, (), rfl, rfl, ⟨by rw [ht]; exact hP, va_K.moved hW.alike hK, hD⟩⟩, hS.F ht⟩) hS.2.2 dX7_rowAt_30

theorem s_X7_rowAt_62 {l : Launch} {dC : Nat → ClassId} {dI : Nat → Nat → Nat} {a : Nat → Nat} {k : Nat → ClassId} {sz : Nat} {p0 : Int32} {σ : ST} {q : Int32 × ST} (h : f_X7_rowAt 62 p0 σ = some q) : Met l yX7_rowAt (.code yX7_rowAt cX7_rowAt 2 (some .int) :: pw) ({ frames := 0, cells := 0, slots := 0, locals := 0 } : Room) (va_Pc [.ref (a 62), .int p0] (vPre dC dI (wA a k σ) (tA k) sz)) (qAi dC dI a k (va_A (wA a k σ) sz) q) 0 0 (va_A (wA a k σ) sz) := metA (fun A => qAi dC dI a k A q) (plainFor_of_name (by decide)) (Nat.le_of_ble_eq_true rfl) (fun _ _ _ _ _ _ _ _ hC => b_X7_rowAt_e_62 hC h)

set_option maxRecDepth 100000 in
set_option maxHeartbeats 4000000 in
theorem b_X7_rowAt_e_74 {p : Program} {l : Launch} {e : Env} {s : State} {m : MethodId} {args : Array Value} {below : List Frame} {meth : Method} {c : Code} {dC : Nat → ClassId} {dI : Nat → Nat → Nat} {a : Nat → Nat} {k : Nat → ClassId} {A : Nat → Prop} {q : Int32 × ST} (hC : CxA p s m args meth c dC dI k A cX7_rowAt RX7 (some .int) 2)   {p0 : Int32} {σ : ST} (h : f_X7_rowAt 74 p0 σ = some q) : GoA p l e ({ frames := 0, cells := 0, slots := 0, locals := 0 } : Room) s m args below meth c (MQ below (qAi dC dI a k A q) args s 0 0 A) dC dI a k A 2 0 σ (lv_args 0 [.ref (a 74), .int p0]) [] := by
  have hC0 := hC
  obtain ⟨hx, hb, hr, hml, hown, hts, hlocks, hA, hN, hK⟩ := hC0
  intro H locs ls hP hD hS hl
  have hD0 : ∀ σ1 : ST, va_D A (wA a k σ1) := fun σ1 => wA_D hD
  replace hl : lv_has ls 2 [(0, .ref (a 74)), (1, .int p0)] := hl
  unfold f_X7_rowAt at h
  refine lv_iload_n hx hb dX7_rowAt_0 rfl (lv_at hl 1 rfl) ?_
  refine lv_if_lt (tgt := 29) hx hb dX7_rowAt_1 (by decide) (fun hc => ?_) (fun hc => ?_)
  · replace h := ip hc h
    refine lv_iconst (v := (-1)) hx hb dX7_rowAt_29 (by decide) ?_
    obtain rfl := Option.some.inj h
    exact W.iret hx hb hr (fun t ht hW => ⟨⟨_, (), rfl, rfl, ⟨by rw [ht]; exact hP, va_K.moved hW.alike hK, hD⟩⟩, hS.F ht⟩) hS.2.2 dX7_rowAt_30
  · replace h := iq hc h
    refine lv_iload_n hx hb dX7_rowAt_4 rfl (lv_at hl 1 rfl) ?_
    refine lv_aload_n hx hb dX7_rowAt_5 rfl (lv_at hl 0 rfl) ?_
    refine va_get (D := (dC, dI)) (ci := 7) (C := RX7) (T := TX7) (N := 13) hx hb hts inlX7 hown hK hP 74 gA_74 rfl 1 (by decide) (hts (.fieldLink RX7 9 "ShapeReader$Tree" "size" "I") mw_18_1) (fun _ h9 => h9) rfl dX7_rowAt_6 ?_
    refine lv_icmp_ge (tgt := 29) hx hb dX7_rowAt_9 (by decide) (fun hc => ?_) (fun hc => ?_)
    · replace h := ip hc h
      refine lv_iconst (v := (-1)) hx hb dX7_rowAt_29 (by decide) ?_
      obtain rfl := Option.some.inj h
      exact W.iret hx hb hr (fun t ht hW => ⟨⟨_, (), rfl, rfl, ⟨by rw [ht]; exact hP, va_K.moved hW.alike hK, hD⟩⟩, hS.F ht⟩) hS.2.2 dX7_rowAt_30
    · replace h := iq hc h
      refine lv_iload_n hx hb dX7_rowAt_12 rfl (lv_at hl 1 rfl) ?_
      refine lv_aload_n hx hb dX7_rowAt_13 rfl (lv_at hl 0 rfl) ?_
      refine va_get (D := (dC, dI)) (ci := 7) (C := RX7) (T := TX7) (N := 13) hx hb hts inlX7 hown hK hP 74 gA_74 rfl 0 (by decide) (hts (.fieldLink RX7 15 "ShapeReader$Tree" "rows" "I") mw_18_2) (fun _ h9 => h9) rfl dX7_rowAt_14 ?_
      refine lv_icmp_ge (tgt := 29) hx hb dX7_rowAt_17 (by decide) (fun hc => ?_) (fun hc => ?_)
      · replace h := ip hc h
        refine lv_iconst (v := (-1)) hx hb dX7_rowAt_29 (by decide) ?_
        obtain rfl := Option.some.inj h
        exact W.iret hx hb hr (fun t ht hW => ⟨⟨_, (), rfl, rfl, ⟨by rw [ht]; exact hP, va_K.moved hW.alike hK, hD⟩⟩, hS.F ht⟩) hS.2.2 dX7_rowAt_30
      · replace h := iq hc h
        refine lv_aload_n hx hb dX7_rowAt_20 rfl (lv_at hl 0 rfl) ?_
        refine va_get (D := (dC, dI)) (ci := 7) (C := RX7) (T := TX7) (N := 13) hx hb hts inlX7 hown hK hP 74 gA_74 rfl 11 (by decide) (hts (.fieldLink RX7 48 "ShapeReader$Tree" "order" "[I") mw_18_12) (fun _ h9 => h9) rfl dX7_rowAt_21 ?_
        refine lv_iload_n hx hb dX7_rowAt_24 rfl (lv_at hl 1 rfl) ?_
        obtain ⟨hg1, h⟩ := ig h
        refine va_iald hx hb hK hP 84 73 gA_84 yA_84 (vp_in_iff.mpr hg1) dX7_rowAt_25 ?_
        refine lv_goto (tgt := 30) hx hb dX7_rowAt_26 (by decide) ?_
        obtain rfl := Option.some.inj h
        exact W.iret hx hb hr (fun t ht hW => ⟨⟨_, (), rfl, rfl, ⟨by rw [ht]; exact hP, va_K.moved hW.alike hK, hD⟩⟩, hS.F ht⟩) hS.2.2 dX7_rowAt_30

theorem s_X7_rowAt_74 {l : Launch} {dC : Nat → ClassId} {dI : Nat → Nat → Nat} {a : Nat → Nat} {k : Nat → ClassId} {sz : Nat} {p0 : Int32} {σ : ST} {q : Int32 × ST} (h : f_X7_rowAt 74 p0 σ = some q) : Met l yX7_rowAt (.code yX7_rowAt cX7_rowAt 2 (some .int) :: pw) ({ frames := 0, cells := 0, slots := 0, locals := 0 } : Room) (va_Pc [.ref (a 74), .int p0] (vPre dC dI (wA a k σ) (tA k) sz)) (qAi dC dI a k (va_A (wA a k σ) sz) q) 0 0 (va_A (wA a k σ) sz) := metA (fun A => qAi dC dI a k A q) (plainFor_of_name (by decide)) (Nat.le_of_ble_eq_true rfl) (fun _ _ _ _ _ _ _ _ hC => b_X7_rowAt_e_74 hC h)

def f_X7_sizeOf (b : Nat) (p0 : Int32) (σ : ST) : Option (Int32 × ST) := (f_X7_isRow b p0 σ).bind fun q1 => if q1.1 = 0 then (some (0, q1.2)) else (if 0 ≤ p0.toInt ∧ p0.toInt < (ln7 b : Nat) then (some ((q1.2.1 (b + 4) p0.toNatClampNeg), q1.2)) else none)

set_option maxRecDepth 100000 in
set_option maxHeartbeats 4000000 in
theorem b_X7_sizeOf_e_50 {p : Program} {l : Launch} {e : Env} {s : State} {m : MethodId} {args : Array Value} {below : List Frame} {meth : Method} {c : Code} {dC : Nat → ClassId} {dI : Nat → Nat → Nat} {a : Nat → Nat} {k : Nat → ClassId} {A : Nat → Prop} {q : Int32 × ST} (hC : CxA p s m args meth c dC dI k A cX7_sizeOf RX7 (some .int) 2)   {p0 : Int32} {σ : ST} (h : f_X7_sizeOf 50 p0 σ = some q) : GoA p l e ({ frames := 1, cells := 0, slots := 0, locals := 21 } : Room) s m args below meth c (MQ below (qAi dC dI a k A q) args s 0 0 A) dC dI a k A 2 0 σ (lv_args 0 [.ref (a 50), .int p0]) [] := by
  have hC0 := hC
  obtain ⟨hx, hb, hr, hml, hown, hts, hlocks, hA, hN, hK⟩ := hC0
  intro H locs ls hP hD hS hl
  have hD0 : ∀ σ1 : ST, va_D A (wA a k σ1) := fun σ1 => wA_D hD
  replace hl : lv_has ls 2 [(0, .ref (a 50)), (1, .int p0)] := hl
  unfold f_X7_sizeOf at h
  refine lv_aload_n hx hb dX7_sizeOf_0 rfl (lv_at hl 0 rfl) ?_
  refine lv_iload_n hx hb dX7_sizeOf_1 rfl (lv_at hl 1 rfl) ?_
  obtain ⟨q1, hc, h⟩ := ib h
  have hF := va_frees hD hS hA
  refine va_calli (va_runV (As := [.int p0]) (rest := []) ⟨hx, hb, hml, hown, hts⟩ (s_X7_isRow_50 hc) (cwV 1 hts (gV mw_18_14 mw_18_15 mw_18_16 mw_0_11 mw_51_24) rfl rfl rfl (by decide +kernel) ⟨(Nat.le_of_ble_eq_true rfl), (Nat.le_of_ble_eq_true rfl)⟩) (vV (ci := 7) (q0 := 50) hK hP hD hN rfl gA_50) rfl rfl hl.1 rfl (lv_room (Nat.le_of_ble_eq_true rfl)) dX7_sizeOf_2 ⟨(Nat.le_of_ble_eq_true rfl), (Nat.le_of_ble_eq_true rfl)⟩) hS (fun q _ h => hF q h) hF (fun r2 u t H locs ht hvm hw hB _ _ hS => ?_)
  obtain rfl : r2 = q1.1 := hw
  replace hP : va_P (dC, dI) vwCl (wA a k q1.2) H := by rw [← ht]; exact hB.1
  replace hD := hD0 (q1.2)
  clear hB hF
  refine lv_if_eq (tgt := 17) hx hb dX7_sizeOf_5 (by decide) (fun hc => ?_) (fun hc => ?_)
  · replace h := ip hc h
    refine lv_iconst (v := 0) hx hb dX7_sizeOf_17 (by decide) ?_
    obtain rfl := Option.some.inj h
    exact W.iret hx hb hr (fun t ht hW => ⟨⟨_, (), rfl, rfl, ⟨by rw [ht]; exact hP, va_K.moved hW.alike hK, hD⟩⟩, hS.F ht⟩) hS.2.2 dX7_sizeOf_18
  · replace h := iq hc h
    refine lv_aload_n hx hb dX7_sizeOf_8 rfl (lv_at hl 0 rfl) ?_
    refine va_get (D := (dC, dI)) (ci := 7) (C := RX7) (T := TX7) (N := 13) hx hb hts inlX7 hown hK hP 50 gA_50 rfl 5 (by decide) (hts (.fieldLink RX7 28 "ShapeReader$Tree" "sizes" "[I") mw_18_6) (fun _ h9 => h9) rfl dX7_sizeOf_9 ?_
    refine lv_iload_n hx hb dX7_sizeOf_12 rfl (lv_at hl 1 rfl) ?_
    obtain ⟨hg3, h⟩ := ig h
    refine va_iald hx hb hK hP 54 45 gA_54 yA_54 (vp_in_iff.mpr hg3) dX7_sizeOf_13 ?_
    refine lv_goto (tgt := 18) hx hb dX7_sizeOf_14 (by decide) ?_
    obtain rfl := Option.some.inj h
    exact W.iret hx hb hr (fun t ht hW => ⟨⟨_, (), rfl, rfl, ⟨by rw [ht]; exact hP, va_K.moved hW.alike hK, hD⟩⟩, hS.F ht⟩) hS.2.2 dX7_sizeOf_18

theorem s_X7_sizeOf_50 {l : Launch} {dC : Nat → ClassId} {dI : Nat → Nat → Nat} {a : Nat → Nat} {k : Nat → ClassId} {sz : Nat} {p0 : Int32} {σ : ST} {q : Int32 × ST} (h : f_X7_sizeOf 50 p0 σ = some q) : Met l yX7_sizeOf (.code yX7_sizeOf cX7_sizeOf 2 (some .int) :: pw) ({ frames := 1, cells := 0, slots := 0, locals := 21 } : Room) (va_Pc [.ref (a 50), .int p0] (vPre dC dI (wA a k σ) (tA k) sz)) (qAi dC dI a k (va_A (wA a k σ) sz) q) 0 0 (va_A (wA a k σ) sz) := metA (fun A => qAi dC dI a k A q) (plainFor_of_name (by decide)) (Nat.le_of_ble_eq_true rfl) (fun _ _ _ _ _ _ _ _ hC => b_X7_sizeOf_e_50 hC h)

set_option maxRecDepth 100000 in
set_option maxHeartbeats 4000000 in
theorem b_X7_sizeOf_e_62 {p : Program} {l : Launch} {e : Env} {s : State} {m : MethodId} {args : Array Value} {below : List Frame} {meth : Method} {c : Code} {dC : Nat → ClassId} {dI : Nat → Nat → Nat} {a : Nat → Nat} {k : Nat → ClassId} {A : Nat → Prop} {q : Int32 × ST} (hC : CxA p s m args meth c dC dI k A cX7_sizeOf RX7 (some .int) 2)   {p0 : Int32} {σ : ST} (h : f_X7_sizeOf 62 p0 σ = some q) : GoA p l e ({ frames := 1, cells := 0, slots := 0, locals := 21 } : Room) s m args below meth c (MQ below (qAi dC dI a k A q) args s 0 0 A) dC dI a k A 2 0 σ (lv_args 0 [.ref (a 62), .int p0]) [] := by
  have hC0 := hC
  obtain ⟨hx, hb, hr, hml, hown, hts, hlocks, hA, hN, hK⟩ := hC0
  intro H locs ls hP hD hS hl
  have hD0 : ∀ σ1 : ST, va_D A (wA a k σ1) := fun σ1 => wA_D hD
  replace hl : lv_has ls 2 [(0, .ref (a 62)), (1, .int p0)] := hl
  unfold f_X7_sizeOf at h
  refine lv_aload_n hx hb dX7_sizeOf_0 rfl (lv_at hl 0 rfl) ?_
  refine lv_iload_n hx hb dX7_sizeOf_1 rfl (lv_at hl 1 rfl) ?_
  obtain ⟨q1, hc, h⟩ := ib h
  have hF := va_frees hD hS hA
  refine va_calli (va_runV (As := [.int p0]) (rest := []) ⟨hx, hb, hml, hown, hts⟩ (s_X7_isRow_62 hc) (cwV 1 hts (gV mw_18_14 mw_18_15 mw_18_16 mw_0_11 mw_51_24) rfl rfl rfl (by decide +kernel) ⟨(Nat.le_of_ble_eq_true rfl), (Nat.le_of_ble_eq_true rfl)⟩) (vV (ci := 7) (q0 := 62) hK hP hD hN rfl gA_62) rfl rfl hl.1 rfl (lv_room (Nat.le_of_ble_eq_true rfl)) dX7_sizeOf_2 ⟨(Nat.le_of_ble_eq_true rfl), (Nat.le_of_ble_eq_true rfl)⟩) hS (fun q _ h => hF q h) hF (fun r2 u t H locs ht hvm hw hB _ _ hS => ?_)
  obtain rfl : r2 = q1.1 := hw
  replace hP : va_P (dC, dI) vwCl (wA a k q1.2) H := by rw [← ht]; exact hB.1
  replace hD := hD0 (q1.2)
  clear hB hF
  refine lv_if_eq (tgt := 17) hx hb dX7_sizeOf_5 (by decide) (fun hc => ?_) (fun hc => ?_)
  · replace h := ip hc h
    refine lv_iconst (v := 0) hx hb dX7_sizeOf_17 (by decide) ?_
    obtain rfl := Option.some.inj h
    exact W.iret hx hb hr (fun t ht hW => ⟨⟨_, (), rfl, rfl, ⟨by rw [ht]; exact hP, va_K.moved hW.alike hK, hD⟩⟩, hS.F ht⟩) hS.2.2 dX7_sizeOf_18
  · replace h := iq hc h
    refine lv_aload_n hx hb dX7_sizeOf_8 rfl (lv_at hl 0 rfl) ?_
    refine va_get (D := (dC, dI)) (ci := 7) (C := RX7) (T := TX7) (N := 13) hx hb hts inlX7 hown hK hP 62 gA_62 rfl 5 (by decide) (hts (.fieldLink RX7 28 "ShapeReader$Tree" "sizes" "[I") mw_18_6) (fun _ h9 => h9) rfl dX7_sizeOf_9 ?_
    refine lv_iload_n hx hb dX7_sizeOf_12 rfl (lv_at hl 1 rfl) ?_
    obtain ⟨hg3, h⟩ := ig h
    refine va_iald hx hb hK hP 66 56 gA_66 yA_66 (vp_in_iff.mpr hg3) dX7_sizeOf_13 ?_
    refine lv_goto (tgt := 18) hx hb dX7_sizeOf_14 (by decide) ?_
    obtain rfl := Option.some.inj h
    exact W.iret hx hb hr (fun t ht hW => ⟨⟨_, (), rfl, rfl, ⟨by rw [ht]; exact hP, va_K.moved hW.alike hK, hD⟩⟩, hS.F ht⟩) hS.2.2 dX7_sizeOf_18

theorem s_X7_sizeOf_62 {l : Launch} {dC : Nat → ClassId} {dI : Nat → Nat → Nat} {a : Nat → Nat} {k : Nat → ClassId} {sz : Nat} {p0 : Int32} {σ : ST} {q : Int32 × ST} (h : f_X7_sizeOf 62 p0 σ = some q) : Met l yX7_sizeOf (.code yX7_sizeOf cX7_sizeOf 2 (some .int) :: pw) ({ frames := 1, cells := 0, slots := 0, locals := 21 } : Room) (va_Pc [.ref (a 62), .int p0] (vPre dC dI (wA a k σ) (tA k) sz)) (qAi dC dI a k (va_A (wA a k σ) sz) q) 0 0 (va_A (wA a k σ) sz) := metA (fun A => qAi dC dI a k A q) (plainFor_of_name (by decide)) (Nat.le_of_ble_eq_true rfl) (fun _ _ _ _ _ _ _ _ hC => b_X7_sizeOf_e_62 hC h)

set_option maxRecDepth 100000 in
set_option maxHeartbeats 4000000 in
theorem b_X7_sizeOf_e_74 {p : Program} {l : Launch} {e : Env} {s : State} {m : MethodId} {args : Array Value} {below : List Frame} {meth : Method} {c : Code} {dC : Nat → ClassId} {dI : Nat → Nat → Nat} {a : Nat → Nat} {k : Nat → ClassId} {A : Nat → Prop} {q : Int32 × ST} (hC : CxA p s m args meth c dC dI k A cX7_sizeOf RX7 (some .int) 2)   {p0 : Int32} {σ : ST} (h : f_X7_sizeOf 74 p0 σ = some q) : GoA p l e ({ frames := 1, cells := 0, slots := 0, locals := 21 } : Room) s m args below meth c (MQ below (qAi dC dI a k A q) args s 0 0 A) dC dI a k A 2 0 σ (lv_args 0 [.ref (a 74), .int p0]) [] := by
  have hC0 := hC
  obtain ⟨hx, hb, hr, hml, hown, hts, hlocks, hA, hN, hK⟩ := hC0
  intro H locs ls hP hD hS hl
  have hD0 : ∀ σ1 : ST, va_D A (wA a k σ1) := fun σ1 => wA_D hD
  replace hl : lv_has ls 2 [(0, .ref (a 74)), (1, .int p0)] := hl
  unfold f_X7_sizeOf at h
  refine lv_aload_n hx hb dX7_sizeOf_0 rfl (lv_at hl 0 rfl) ?_
  refine lv_iload_n hx hb dX7_sizeOf_1 rfl (lv_at hl 1 rfl) ?_
  obtain ⟨q1, hc, h⟩ := ib h
  have hF := va_frees hD hS hA
  refine va_calli (va_runV (As := [.int p0]) (rest := []) ⟨hx, hb, hml, hown, hts⟩ (s_X7_isRow_74 hc) (cwV 1 hts (gV mw_18_14 mw_18_15 mw_18_16 mw_0_11 mw_51_24) rfl rfl rfl (by decide +kernel) ⟨(Nat.le_of_ble_eq_true rfl), (Nat.le_of_ble_eq_true rfl)⟩) (vV (ci := 7) (q0 := 74) hK hP hD hN rfl gA_74) rfl rfl hl.1 rfl (lv_room (Nat.le_of_ble_eq_true rfl)) dX7_sizeOf_2 ⟨(Nat.le_of_ble_eq_true rfl), (Nat.le_of_ble_eq_true rfl)⟩) hS (fun q _ h => hF q h) hF (fun r2 u t H locs ht hvm hw hB _ _ hS => ?_)
  obtain rfl : r2 = q1.1 := hw
  replace hP : va_P (dC, dI) vwCl (wA a k q1.2) H := by rw [← ht]; exact hB.1
  replace hD := hD0 (q1.2)
  clear hB hF
  refine lv_if_eq (tgt := 17) hx hb dX7_sizeOf_5 (by decide) (fun hc => ?_) (fun hc => ?_)
  · replace h := ip hc h
    refine lv_iconst (v := 0) hx hb dX7_sizeOf_17 (by decide) ?_
    obtain rfl := Option.some.inj h
    exact W.iret hx hb hr (fun t ht hW => ⟨⟨_, (), rfl, rfl, ⟨by rw [ht]; exact hP, va_K.moved hW.alike hK, hD⟩⟩, hS.F ht⟩) hS.2.2 dX7_sizeOf_18
  · replace h := iq hc h
    refine lv_aload_n hx hb dX7_sizeOf_8 rfl (lv_at hl 0 rfl) ?_
    refine va_get (D := (dC, dI)) (ci := 7) (C := RX7) (T := TX7) (N := 13) hx hb hts inlX7 hown hK hP 74 gA_74 rfl 5 (by decide) (hts (.fieldLink RX7 28 "ShapeReader$Tree" "sizes" "[I") mw_18_6) (fun _ h9 => h9) rfl dX7_sizeOf_9 ?_
    refine lv_iload_n hx hb dX7_sizeOf_12 rfl (lv_at hl 1 rfl) ?_
    obtain ⟨hg3, h⟩ := ig h
    refine va_iald hx hb hK hP 78 67 gA_78 yA_78 (vp_in_iff.mpr hg3) dX7_sizeOf_13 ?_
    refine lv_goto (tgt := 18) hx hb dX7_sizeOf_14 (by decide) ?_
    obtain rfl := Option.some.inj h
    exact W.iret hx hb hr (fun t ht hW => ⟨⟨_, (), rfl, rfl, ⟨by rw [ht]; exact hP, va_K.moved hW.alike hK, hD⟩⟩, hS.F ht⟩) hS.2.2 dX7_sizeOf_18

theorem s_X7_sizeOf_74 {l : Launch} {dC : Nat → ClassId} {dI : Nat → Nat → Nat} {a : Nat → Nat} {k : Nat → ClassId} {sz : Nat} {p0 : Int32} {σ : ST} {q : Int32 × ST} (h : f_X7_sizeOf 74 p0 σ = some q) : Met l yX7_sizeOf (.code yX7_sizeOf cX7_sizeOf 2 (some .int) :: pw) ({ frames := 1, cells := 0, slots := 0, locals := 21 } : Room) (va_Pc [.ref (a 74), .int p0] (vPre dC dI (wA a k σ) (tA k) sz)) (qAi dC dI a k (va_A (wA a k σ) sz) q) 0 0 (va_A (wA a k σ) sz) := metA (fun A => qAi dC dI a k A q) (plainFor_of_name (by decide)) (Nat.le_of_ble_eq_true rfl) (fun _ _ _ _ _ _ _ _ hC => b_X7_sizeOf_e_74 hC h)

def f_X7_sortAt (b : Nat) (p0 : Int32) (σ : ST) : Option (Int32 × ST) := (f_X7_isRow b p0 σ).bind fun q1 => if q1.1 = 0 then (some ((-1), q1.2)) else (if 0 ≤ p0.toInt ∧ p0.toInt < (ln7 b : Nat) then (some ((q1.2.1 (b + 1) p0.toNatClampNeg), q1.2)) else none)

set_option maxRecDepth 100000 in
set_option maxHeartbeats 4000000 in
theorem b_X7_sortAt_e_50 {p : Program} {l : Launch} {e : Env} {s : State} {m : MethodId} {args : Array Value} {below : List Frame} {meth : Method} {c : Code} {dC : Nat → ClassId} {dI : Nat → Nat → Nat} {a : Nat → Nat} {k : Nat → ClassId} {A : Nat → Prop} {q : Int32 × ST} (hC : CxA p s m args meth c dC dI k A cX7_sortAt RX7 (some .int) 2)   {p0 : Int32} {σ : ST} (h : f_X7_sortAt 50 p0 σ = some q) : GoA p l e ({ frames := 1, cells := 0, slots := 0, locals := 21 } : Room) s m args below meth c (MQ below (qAi dC dI a k A q) args s 0 0 A) dC dI a k A 2 0 σ (lv_args 0 [.ref (a 50), .int p0]) [] := by
  have hC0 := hC
  obtain ⟨hx, hb, hr, hml, hown, hts, hlocks, hA, hN, hK⟩ := hC0
  intro H locs ls hP hD hS hl
  have hD0 : ∀ σ1 : ST, va_D A (wA a k σ1) := fun σ1 => wA_D hD
  replace hl : lv_has ls 2 [(0, .ref (a 50)), (1, .int p0)] := hl
  unfold f_X7_sortAt at h
  refine lv_aload_n hx hb dX7_sortAt_0 rfl (lv_at hl 0 rfl) ?_
  refine lv_iload_n hx hb dX7_sortAt_1 rfl (lv_at hl 1 rfl) ?_
  obtain ⟨q1, hc, h⟩ := ib h
  have hF := va_frees hD hS hA
  refine va_calli (va_runV (As := [.int p0]) (rest := []) ⟨hx, hb, hml, hown, hts⟩ (s_X7_isRow_50 hc) (cwV 1 hts (gV mw_18_14 mw_18_15 mw_18_16 mw_0_11 mw_51_24) rfl rfl rfl (by decide +kernel) ⟨(Nat.le_of_ble_eq_true rfl), (Nat.le_of_ble_eq_true rfl)⟩) (vV (ci := 7) (q0 := 50) hK hP hD hN rfl gA_50) rfl rfl hl.1 rfl (lv_room (Nat.le_of_ble_eq_true rfl)) dX7_sortAt_2 ⟨(Nat.le_of_ble_eq_true rfl), (Nat.le_of_ble_eq_true rfl)⟩) hS (fun q _ h => hF q h) hF (fun r2 u t H locs ht hvm hw hB _ _ hS => ?_)
  obtain rfl : r2 = q1.1 := hw
  replace hP : va_P (dC, dI) vwCl (wA a k q1.2) H := by rw [← ht]; exact hB.1
  replace hD := hD0 (q1.2)
  clear hB hF
  refine lv_if_eq (tgt := 17) hx hb dX7_sortAt_5 (by decide) (fun hc => ?_) (fun hc => ?_)
  · replace h := ip hc h
    refine lv_iconst (v := (-1)) hx hb dX7_sortAt_17 (by decide) ?_
    obtain rfl := Option.some.inj h
    exact W.iret hx hb hr (fun t ht hW => ⟨⟨_, (), rfl, rfl, ⟨by rw [ht]; exact hP, va_K.moved hW.alike hK, hD⟩⟩, hS.F ht⟩) hS.2.2 dX7_sortAt_18
  · replace h := iq hc h
    refine lv_aload_n hx hb dX7_sortAt_8 rfl (lv_at hl 0 rfl) ?_
    refine va_get (D := (dC, dI)) (ci := 7) (C := RX7) (T := TX7) (N := 13) hx hb hts inlX7 hown hK hP 50 gA_50 rfl 2 (by decide) (hts (.fieldLink RX7 18 "ShapeReader$Tree" "sorts" "[I") mw_18_3) (fun _ h9 => h9) rfl dX7_sortAt_9 ?_
    refine lv_iload_n hx hb dX7_sortAt_12 rfl (lv_at hl 1 rfl) ?_
    obtain ⟨hg3, h⟩ := ig h
    refine va_iald hx hb hK hP 51 42 gA_51 yA_51 (vp_in_iff.mpr hg3) dX7_sortAt_13 ?_
    refine lv_goto (tgt := 18) hx hb dX7_sortAt_14 (by decide) ?_
    obtain rfl := Option.some.inj h
    exact W.iret hx hb hr (fun t ht hW => ⟨⟨_, (), rfl, rfl, ⟨by rw [ht]; exact hP, va_K.moved hW.alike hK, hD⟩⟩, hS.F ht⟩) hS.2.2 dX7_sortAt_18

theorem s_X7_sortAt_50 {l : Launch} {dC : Nat → ClassId} {dI : Nat → Nat → Nat} {a : Nat → Nat} {k : Nat → ClassId} {sz : Nat} {p0 : Int32} {σ : ST} {q : Int32 × ST} (h : f_X7_sortAt 50 p0 σ = some q) : Met l yX7_sortAt (.code yX7_sortAt cX7_sortAt 2 (some .int) :: pw) ({ frames := 1, cells := 0, slots := 0, locals := 21 } : Room) (va_Pc [.ref (a 50), .int p0] (vPre dC dI (wA a k σ) (tA k) sz)) (qAi dC dI a k (va_A (wA a k σ) sz) q) 0 0 (va_A (wA a k σ) sz) := metA (fun A => qAi dC dI a k A q) (plainFor_of_name (by decide)) (Nat.le_of_ble_eq_true rfl) (fun _ _ _ _ _ _ _ _ hC => b_X7_sortAt_e_50 hC h)

set_option maxRecDepth 100000 in
set_option maxHeartbeats 4000000 in
theorem b_X7_sortAt_e_62 {p : Program} {l : Launch} {e : Env} {s : State} {m : MethodId} {args : Array Value} {below : List Frame} {meth : Method} {c : Code} {dC : Nat → ClassId} {dI : Nat → Nat → Nat} {a : Nat → Nat} {k : Nat → ClassId} {A : Nat → Prop} {q : Int32 × ST} (hC : CxA p s m args meth c dC dI k A cX7_sortAt RX7 (some .int) 2)   {p0 : Int32} {σ : ST} (h : f_X7_sortAt 62 p0 σ = some q) : GoA p l e ({ frames := 1, cells := 0, slots := 0, locals := 21 } : Room) s m args below meth c (MQ below (qAi dC dI a k A q) args s 0 0 A) dC dI a k A 2 0 σ (lv_args 0 [.ref (a 62), .int p0]) [] := by
  have hC0 := hC
  obtain ⟨hx, hb, hr, hml, hown, hts, hlocks, hA, hN, hK⟩ := hC0
  intro H locs ls hP hD hS hl
  have hD0 : ∀ σ1 : ST, va_D A (wA a k σ1) := fun σ1 => wA_D hD
  replace hl : lv_has ls 2 [(0, .ref (a 62)), (1, .int p0)] := hl
  unfold f_X7_sortAt at h
  refine lv_aload_n hx hb dX7_sortAt_0 rfl (lv_at hl 0 rfl) ?_
  refine lv_iload_n hx hb dX7_sortAt_1 rfl (lv_at hl 1 rfl) ?_
  obtain ⟨q1, hc, h⟩ := ib h
  have hF := va_frees hD hS hA
  refine va_calli (va_runV (As := [.int p0]) (rest := []) ⟨hx, hb, hml, hown, hts⟩ (s_X7_isRow_62 hc) (cwV 1 hts (gV mw_18_14 mw_18_15 mw_18_16 mw_0_11 mw_51_24) rfl rfl rfl (by decide +kernel) ⟨(Nat.le_of_ble_eq_true rfl), (Nat.le_of_ble_eq_true rfl)⟩) (vV (ci := 7) (q0 := 62) hK hP hD hN rfl gA_62) rfl rfl hl.1 rfl (lv_room (Nat.le_of_ble_eq_true rfl)) dX7_sortAt_2 ⟨(Nat.le_of_ble_eq_true rfl), (Nat.le_of_ble_eq_true rfl)⟩) hS (fun q _ h => hF q h) hF (fun r2 u t H locs ht hvm hw hB _ _ hS => ?_)
  obtain rfl : r2 = q1.1 := hw
  replace hP : va_P (dC, dI) vwCl (wA a k q1.2) H := by rw [← ht]; exact hB.1
  replace hD := hD0 (q1.2)
  clear hB hF
  refine lv_if_eq (tgt := 17) hx hb dX7_sortAt_5 (by decide) (fun hc => ?_) (fun hc => ?_)
  · replace h := ip hc h
    refine lv_iconst (v := (-1)) hx hb dX7_sortAt_17 (by decide) ?_
    obtain rfl := Option.some.inj h
    exact W.iret hx hb hr (fun t ht hW => ⟨⟨_, (), rfl, rfl, ⟨by rw [ht]; exact hP, va_K.moved hW.alike hK, hD⟩⟩, hS.F ht⟩) hS.2.2 dX7_sortAt_18
  · replace h := iq hc h
    refine lv_aload_n hx hb dX7_sortAt_8 rfl (lv_at hl 0 rfl) ?_
    refine va_get (D := (dC, dI)) (ci := 7) (C := RX7) (T := TX7) (N := 13) hx hb hts inlX7 hown hK hP 62 gA_62 rfl 2 (by decide) (hts (.fieldLink RX7 18 "ShapeReader$Tree" "sorts" "[I") mw_18_3) (fun _ h9 => h9) rfl dX7_sortAt_9 ?_
    refine lv_iload_n hx hb dX7_sortAt_12 rfl (lv_at hl 1 rfl) ?_
    obtain ⟨hg3, h⟩ := ig h
    refine va_iald hx hb hK hP 63 53 gA_63 yA_63 (vp_in_iff.mpr hg3) dX7_sortAt_13 ?_
    refine lv_goto (tgt := 18) hx hb dX7_sortAt_14 (by decide) ?_
    obtain rfl := Option.some.inj h
    exact W.iret hx hb hr (fun t ht hW => ⟨⟨_, (), rfl, rfl, ⟨by rw [ht]; exact hP, va_K.moved hW.alike hK, hD⟩⟩, hS.F ht⟩) hS.2.2 dX7_sortAt_18

theorem s_X7_sortAt_62 {l : Launch} {dC : Nat → ClassId} {dI : Nat → Nat → Nat} {a : Nat → Nat} {k : Nat → ClassId} {sz : Nat} {p0 : Int32} {σ : ST} {q : Int32 × ST} (h : f_X7_sortAt 62 p0 σ = some q) : Met l yX7_sortAt (.code yX7_sortAt cX7_sortAt 2 (some .int) :: pw) ({ frames := 1, cells := 0, slots := 0, locals := 21 } : Room) (va_Pc [.ref (a 62), .int p0] (vPre dC dI (wA a k σ) (tA k) sz)) (qAi dC dI a k (va_A (wA a k σ) sz) q) 0 0 (va_A (wA a k σ) sz) := metA (fun A => qAi dC dI a k A q) (plainFor_of_name (by decide)) (Nat.le_of_ble_eq_true rfl) (fun _ _ _ _ _ _ _ _ hC => b_X7_sortAt_e_62 hC h)

set_option maxRecDepth 100000 in
set_option maxHeartbeats 4000000 in
theorem b_X7_sortAt_e_74 {p : Program} {l : Launch} {e : Env} {s : State} {m : MethodId} {args : Array Value} {below : List Frame} {meth : Method} {c : Code} {dC : Nat → ClassId} {dI : Nat → Nat → Nat} {a : Nat → Nat} {k : Nat → ClassId} {A : Nat → Prop} {q : Int32 × ST} (hC : CxA p s m args meth c dC dI k A cX7_sortAt RX7 (some .int) 2)   {p0 : Int32} {σ : ST} (h : f_X7_sortAt 74 p0 σ = some q) : GoA p l e ({ frames := 1, cells := 0, slots := 0, locals := 21 } : Room) s m args below meth c (MQ below (qAi dC dI a k A q) args s 0 0 A) dC dI a k A 2 0 σ (lv_args 0 [.ref (a 74), .int p0]) [] := by
  have hC0 := hC
  obtain ⟨hx, hb, hr, hml, hown, hts, hlocks, hA, hN, hK⟩ := hC0
  intro H locs ls hP hD hS hl
  have hD0 : ∀ σ1 : ST, va_D A (wA a k σ1) := fun σ1 => wA_D hD
  replace hl : lv_has ls 2 [(0, .ref (a 74)), (1, .int p0)] := hl
  unfold f_X7_sortAt at h
  refine lv_aload_n hx hb dX7_sortAt_0 rfl (lv_at hl 0 rfl) ?_
  refine lv_iload_n hx hb dX7_sortAt_1 rfl (lv_at hl 1 rfl) ?_
  obtain ⟨q1, hc, h⟩ := ib h
  have hF := va_frees hD hS hA
  refine va_calli (va_runV (As := [.int p0]) (rest := []) ⟨hx, hb, hml, hown, hts⟩ (s_X7_isRow_74 hc) (cwV 1 hts (gV mw_18_14 mw_18_15 mw_18_16 mw_0_11 mw_51_24) rfl rfl rfl (by decide +kernel) ⟨(Nat.le_of_ble_eq_true rfl), (Nat.le_of_ble_eq_true rfl)⟩) (vV (ci := 7) (q0 := 74) hK hP hD hN rfl gA_74) rfl rfl hl.1 rfl (lv_room (Nat.le_of_ble_eq_true rfl)) dX7_sortAt_2 ⟨(Nat.le_of_ble_eq_true rfl), (Nat.le_of_ble_eq_true rfl)⟩) hS (fun q _ h => hF q h) hF (fun r2 u t H locs ht hvm hw hB _ _ hS => ?_)
  obtain rfl : r2 = q1.1 := hw
  replace hP : va_P (dC, dI) vwCl (wA a k q1.2) H := by rw [← ht]; exact hB.1
  replace hD := hD0 (q1.2)
  clear hB hF
  refine lv_if_eq (tgt := 17) hx hb dX7_sortAt_5 (by decide) (fun hc => ?_) (fun hc => ?_)
  · replace h := ip hc h
    refine lv_iconst (v := (-1)) hx hb dX7_sortAt_17 (by decide) ?_
    obtain rfl := Option.some.inj h
    exact W.iret hx hb hr (fun t ht hW => ⟨⟨_, (), rfl, rfl, ⟨by rw [ht]; exact hP, va_K.moved hW.alike hK, hD⟩⟩, hS.F ht⟩) hS.2.2 dX7_sortAt_18
  · replace h := iq hc h
    refine lv_aload_n hx hb dX7_sortAt_8 rfl (lv_at hl 0 rfl) ?_
    refine va_get (D := (dC, dI)) (ci := 7) (C := RX7) (T := TX7) (N := 13) hx hb hts inlX7 hown hK hP 74 gA_74 rfl 2 (by decide) (hts (.fieldLink RX7 18 "ShapeReader$Tree" "sorts" "[I") mw_18_3) (fun _ h9 => h9) rfl dX7_sortAt_9 ?_
    refine lv_iload_n hx hb dX7_sortAt_12 rfl (lv_at hl 1 rfl) ?_
    obtain ⟨hg3, h⟩ := ig h
    refine va_iald hx hb hK hP 75 64 gA_75 yA_75 (vp_in_iff.mpr hg3) dX7_sortAt_13 ?_
    refine lv_goto (tgt := 18) hx hb dX7_sortAt_14 (by decide) ?_
    obtain rfl := Option.some.inj h
    exact W.iret hx hb hr (fun t ht hW => ⟨⟨_, (), rfl, rfl, ⟨by rw [ht]; exact hP, va_K.moved hW.alike hK, hD⟩⟩, hS.F ht⟩) hS.2.2 dX7_sortAt_18

theorem s_X7_sortAt_74 {l : Launch} {dC : Nat → ClassId} {dI : Nat → Nat → Nat} {a : Nat → Nat} {k : Nat → ClassId} {sz : Nat} {p0 : Int32} {σ : ST} {q : Int32 × ST} (h : f_X7_sortAt 74 p0 σ = some q) : Met l yX7_sortAt (.code yX7_sortAt cX7_sortAt 2 (some .int) :: pw) ({ frames := 1, cells := 0, slots := 0, locals := 21 } : Room) (va_Pc [.ref (a 74), .int p0] (vPre dC dI (wA a k σ) (tA k) sz)) (qAi dC dI a k (va_A (wA a k σ) sz) q) 0 0 (va_A (wA a k σ) sz) := metA (fun A => qAi dC dI a k A q) (plainFor_of_name (by decide)) (Nat.le_of_ble_eq_true rfl) (fun _ _ _ _ _ _ _ _ hC => b_X7_sortAt_e_74 hC h)

def f_X7_worthOf (b : Nat) (p0 : Int32) (σ : ST) : Option (Int64 × ST) := (f_X7_isRow b p0 σ).bind fun q1 => if q1.1 = 0 then (some (0, q1.2)) else (if 0 ≤ p0.toInt ∧ p0.toInt < (ln7 b : Nat) then (some ((q1.2.2.1 (b + 6) p0.toNatClampNeg), q1.2)) else none)

set_option maxRecDepth 100000 in
set_option maxHeartbeats 4000000 in
theorem b_X7_worthOf_e_50 {p : Program} {l : Launch} {e : Env} {s : State} {m : MethodId} {args : Array Value} {below : List Frame} {meth : Method} {c : Code} {dC : Nat → ClassId} {dI : Nat → Nat → Nat} {a : Nat → Nat} {k : Nat → ClassId} {A : Nat → Prop} {q : Int64 × ST} (hC : CxA p s m args meth c dC dI k A cX7_worthOf RX7 (some .long) 2)   {p0 : Int32} {σ : ST} (h : f_X7_worthOf 50 p0 σ = some q) : GoA p l e ({ frames := 1, cells := 0, slots := 0, locals := 21 } : Room) s m args below meth c (MQ below (qAl dC dI a k A q) args s 0 0 A) dC dI a k A 2 0 σ (lv_args 0 [.ref (a 50), .int p0]) [] := by
  have hC0 := hC
  obtain ⟨hx, hb, hr, hml, hown, hts, hlocks, hA, hN, hK⟩ := hC0
  intro H locs ls hP hD hS hl
  have hD0 : ∀ σ1 : ST, va_D A (wA a k σ1) := fun σ1 => wA_D hD
  replace hl : lv_has ls 2 [(0, .ref (a 50)), (1, .int p0)] := hl
  unfold f_X7_worthOf at h
  refine lv_aload_n hx hb dX7_worthOf_0 rfl (lv_at hl 0 rfl) ?_
  refine lv_iload_n hx hb dX7_worthOf_1 rfl (lv_at hl 1 rfl) ?_
  obtain ⟨q1, hc, h⟩ := ib h
  have hF := va_frees hD hS hA
  refine va_calli (va_runV (As := [.int p0]) (rest := []) ⟨hx, hb, hml, hown, hts⟩ (s_X7_isRow_50 hc) (cwV 1 hts (gV mw_18_14 mw_18_15 mw_18_16 mw_0_11 mw_51_24) rfl rfl rfl (by decide +kernel) ⟨(Nat.le_of_ble_eq_true rfl), (Nat.le_of_ble_eq_true rfl)⟩) (vV (ci := 7) (q0 := 50) hK hP hD hN rfl gA_50) rfl rfl hl.1 rfl (lv_room (Nat.le_of_ble_eq_true rfl)) dX7_worthOf_2 ⟨(Nat.le_of_ble_eq_true rfl), (Nat.le_of_ble_eq_true rfl)⟩) hS (fun q _ h => hF q h) hF (fun r2 u t H locs ht hvm hw hB _ _ hS => ?_)
  obtain rfl : r2 = q1.1 := hw
  replace hP : va_P (dC, dI) vwCl (wA a k q1.2) H := by rw [← ht]; exact hB.1
  replace hD := hD0 (q1.2)
  clear hB hF
  refine lv_if_eq (tgt := 17) hx hb dX7_worthOf_5 (by decide) (fun hc => ?_) (fun hc => ?_)
  · replace h := ip hc h
    refine lv_lconst (v := 0) hx hb dX7_worthOf_17 (by decide) ?_
    obtain rfl := Option.some.inj h
    exact W.lret hx hb hr (fun t ht hW => ⟨⟨_, (), rfl, rfl, ⟨by rw [ht]; exact hP, va_K.moved hW.alike hK, hD⟩⟩, hS.F ht⟩) hS.2.2 dX7_worthOf_18
  · replace h := iq hc h
    refine lv_aload_n hx hb dX7_worthOf_8 rfl (lv_at hl 0 rfl) ?_
    refine va_get (D := (dC, dI)) (ci := 7) (C := RX7) (T := TX7) (N := 13) hx hb hts inlX7 hown hK hP 50 gA_50 rfl 7 (by decide) (hts (.fieldLink RX7 35 "ShapeReader$Tree" "worths" "[J") mw_18_8) (fun _ h9 => h9) rfl dX7_worthOf_9 ?_
    refine lv_iload_n hx hb dX7_worthOf_12 rfl (lv_at hl 1 rfl) ?_
    obtain ⟨hg3, h⟩ := ig h
    refine va_lald hx hb hK hP 56 47 gA_56 yA_56 (vp_in_iff.mpr hg3) dX7_worthOf_13 ?_
    refine lv_goto (tgt := 18) hx hb dX7_worthOf_14 (by decide) ?_
    obtain rfl := Option.some.inj h
    exact W.lret hx hb hr (fun t ht hW => ⟨⟨_, (), rfl, rfl, ⟨by rw [ht]; exact hP, va_K.moved hW.alike hK, hD⟩⟩, hS.F ht⟩) hS.2.2 dX7_worthOf_18

theorem s_X7_worthOf_50 {l : Launch} {dC : Nat → ClassId} {dI : Nat → Nat → Nat} {a : Nat → Nat} {k : Nat → ClassId} {sz : Nat} {p0 : Int32} {σ : ST} {q : Int64 × ST} (h : f_X7_worthOf 50 p0 σ = some q) : Met l yX7_worthOf (.code yX7_worthOf cX7_worthOf 2 (some .long) :: pw) ({ frames := 1, cells := 0, slots := 0, locals := 21 } : Room) (va_Pc [.ref (a 50), .int p0] (vPre dC dI (wA a k σ) (tA k) sz)) (qAl dC dI a k (va_A (wA a k σ) sz) q) 0 0 (va_A (wA a k σ) sz) := metA (fun A => qAl dC dI a k A q) (plainFor_of_name (by decide)) (Nat.le_of_ble_eq_true rfl) (fun _ _ _ _ _ _ _ _ hC => b_X7_worthOf_e_50 hC h)

set_option maxRecDepth 100000 in
set_option maxHeartbeats 4000000 in
theorem b_X7_worthOf_e_62 {p : Program} {l : Launch} {e : Env} {s : State} {m : MethodId} {args : Array Value} {below : List Frame} {meth : Method} {c : Code} {dC : Nat → ClassId} {dI : Nat → Nat → Nat} {a : Nat → Nat} {k : Nat → ClassId} {A : Nat → Prop} {q : Int64 × ST} (hC : CxA p s m args meth c dC dI k A cX7_worthOf RX7 (some .long) 2)   {p0 : Int32} {σ : ST} (h : f_X7_worthOf 62 p0 σ = some q) : GoA p l e ({ frames := 1, cells := 0, slots := 0, locals := 21 } : Room) s m args below meth c (MQ below (qAl dC dI a k A q) args s 0 0 A) dC dI a k A 2 0 σ (lv_args 0 [.ref (a 62), .int p0]) [] := by
  have hC0 := hC
  obtain ⟨hx, hb, hr, hml, hown, hts, hlocks, hA, hN, hK⟩ := hC0
  intro H locs ls hP hD hS hl
  have hD0 : ∀ σ1 : ST, va_D A (wA a k σ1) := fun σ1 => wA_D hD
  replace hl : lv_has ls 2 [(0, .ref (a 62)), (1, .int p0)] := hl
  unfold f_X7_worthOf at h
  refine lv_aload_n hx hb dX7_worthOf_0 rfl (lv_at hl 0 rfl) ?_
  refine lv_iload_n hx hb dX7_worthOf_1 rfl (lv_at hl 1 rfl) ?_
  obtain ⟨q1, hc, h⟩ := ib h
  have hF := va_frees hD hS hA
  refine va_calli (va_runV (As := [.int p0]) (rest := []) ⟨hx, hb, hml, hown, hts⟩ (s_X7_isRow_62 hc) (cwV 1 hts (gV mw_18_14 mw_18_15 mw_18_16 mw_0_11 mw_51_24) rfl rfl rfl (by decide +kernel) ⟨(Nat.le_of_ble_eq_true rfl), (Nat.le_of_ble_eq_true rfl)⟩) (vV (ci := 7) (q0 := 62) hK hP hD hN rfl gA_62) rfl rfl hl.1 rfl (lv_room (Nat.le_of_ble_eq_true rfl)) dX7_worthOf_2 ⟨(Nat.le_of_ble_eq_true rfl), (Nat.le_of_ble_eq_true rfl)⟩) hS (fun q _ h => hF q h) hF (fun r2 u t H locs ht hvm hw hB _ _ hS => ?_)
  obtain rfl : r2 = q1.1 := hw
  replace hP : va_P (dC, dI) vwCl (wA a k q1.2) H := by rw [← ht]; exact hB.1
  replace hD := hD0 (q1.2)
  clear hB hF
  refine lv_if_eq (tgt := 17) hx hb dX7_worthOf_5 (by decide) (fun hc => ?_) (fun hc => ?_)
  · replace h := ip hc h
    refine lv_lconst (v := 0) hx hb dX7_worthOf_17 (by decide) ?_
    obtain rfl := Option.some.inj h
    exact W.lret hx hb hr (fun t ht hW => ⟨⟨_, (), rfl, rfl, ⟨by rw [ht]; exact hP, va_K.moved hW.alike hK, hD⟩⟩, hS.F ht⟩) hS.2.2 dX7_worthOf_18
  · replace h := iq hc h
    refine lv_aload_n hx hb dX7_worthOf_8 rfl (lv_at hl 0 rfl) ?_
    refine va_get (D := (dC, dI)) (ci := 7) (C := RX7) (T := TX7) (N := 13) hx hb hts inlX7 hown hK hP 62 gA_62 rfl 7 (by decide) (hts (.fieldLink RX7 35 "ShapeReader$Tree" "worths" "[J") mw_18_8) (fun _ h9 => h9) rfl dX7_worthOf_9 ?_
    refine lv_iload_n hx hb dX7_worthOf_12 rfl (lv_at hl 1 rfl) ?_
    obtain ⟨hg3, h⟩ := ig h
    refine va_lald hx hb hK hP 68 58 gA_68 yA_68 (vp_in_iff.mpr hg3) dX7_worthOf_13 ?_
    refine lv_goto (tgt := 18) hx hb dX7_worthOf_14 (by decide) ?_
    obtain rfl := Option.some.inj h
    exact W.lret hx hb hr (fun t ht hW => ⟨⟨_, (), rfl, rfl, ⟨by rw [ht]; exact hP, va_K.moved hW.alike hK, hD⟩⟩, hS.F ht⟩) hS.2.2 dX7_worthOf_18

theorem s_X7_worthOf_62 {l : Launch} {dC : Nat → ClassId} {dI : Nat → Nat → Nat} {a : Nat → Nat} {k : Nat → ClassId} {sz : Nat} {p0 : Int32} {σ : ST} {q : Int64 × ST} (h : f_X7_worthOf 62 p0 σ = some q) : Met l yX7_worthOf (.code yX7_worthOf cX7_worthOf 2 (some .long) :: pw) ({ frames := 1, cells := 0, slots := 0, locals := 21 } : Room) (va_Pc [.ref (a 62), .int p0] (vPre dC dI (wA a k σ) (tA k) sz)) (qAl dC dI a k (va_A (wA a k σ) sz) q) 0 0 (va_A (wA a k σ) sz) := metA (fun A => qAl dC dI a k A q) (plainFor_of_name (by decide)) (Nat.le_of_ble_eq_true rfl) (fun _ _ _ _ _ _ _ _ hC => b_X7_worthOf_e_62 hC h)

set_option maxRecDepth 100000 in
set_option maxHeartbeats 4000000 in
theorem b_X7_worthOf_e_74 {p : Program} {l : Launch} {e : Env} {s : State} {m : MethodId} {args : Array Value} {below : List Frame} {meth : Method} {c : Code} {dC : Nat → ClassId} {dI : Nat → Nat → Nat} {a : Nat → Nat} {k : Nat → ClassId} {A : Nat → Prop} {q : Int64 × ST} (hC : CxA p s m args meth c dC dI k A cX7_worthOf RX7 (some .long) 2)   {p0 : Int32} {σ : ST} (h : f_X7_worthOf 74 p0 σ = some q) : GoA p l e ({ frames := 1, cells := 0, slots := 0, locals := 21 } : Room) s m args below meth c (MQ below (qAl dC dI a k A q) args s 0 0 A) dC dI a k A 2 0 σ (lv_args 0 [.ref (a 74), .int p0]) [] := by
  have hC0 := hC
  obtain ⟨hx, hb, hr, hml, hown, hts, hlocks, hA, hN, hK⟩ := hC0
  intro H locs ls hP hD hS hl
  have hD0 : ∀ σ1 : ST, va_D A (wA a k σ1) := fun σ1 => wA_D hD
  replace hl : lv_has ls 2 [(0, .ref (a 74)), (1, .int p0)] := hl
  unfold f_X7_worthOf at h
  refine lv_aload_n hx hb dX7_worthOf_0 rfl (lv_at hl 0 rfl) ?_
  refine lv_iload_n hx hb dX7_worthOf_1 rfl (lv_at hl 1 rfl) ?_
  obtain ⟨q1, hc, h⟩ := ib h
  have hF := va_frees hD hS hA
  refine va_calli (va_runV (As := [.int p0]) (rest := []) ⟨hx, hb, hml, hown, hts⟩ (s_X7_isRow_74 hc) (cwV 1 hts (gV mw_18_14 mw_18_15 mw_18_16 mw_0_11 mw_51_24) rfl rfl rfl (by decide +kernel) ⟨(Nat.le_of_ble_eq_true rfl), (Nat.le_of_ble_eq_true rfl)⟩) (vV (ci := 7) (q0 := 74) hK hP hD hN rfl gA_74) rfl rfl hl.1 rfl (lv_room (Nat.le_of_ble_eq_true rfl)) dX7_worthOf_2 ⟨(Nat.le_of_ble_eq_true rfl), (Nat.le_of_ble_eq_true rfl)⟩) hS (fun q _ h => hF q h) hF (fun r2 u t H locs ht hvm hw hB _ _ hS => ?_)
  obtain rfl : r2 = q1.1 := hw
  replace hP : va_P (dC, dI) vwCl (wA a k q1.2) H := by rw [← ht]; exact hB.1
  replace hD := hD0 (q1.2)
  clear hB hF
  refine lv_if_eq (tgt := 17) hx hb dX7_worthOf_5 (by decide) (fun hc => ?_) (fun hc => ?_)
  · replace h := ip hc h
    refine lv_lconst (v := 0) hx hb dX7_worthOf_17 (by decide) ?_
    obtain rfl := Option.some.inj h
    exact W.lret hx hb hr (fun t ht hW => ⟨⟨_, (), rfl, rfl, ⟨by rw [ht]; exact hP, va_K.moved hW.alike hK, hD⟩⟩, hS.F ht⟩) hS.2.2 dX7_worthOf_18
  · replace h := iq hc h
    refine lv_aload_n hx hb dX7_worthOf_8 rfl (lv_at hl 0 rfl) ?_
    refine va_get (D := (dC, dI)) (ci := 7) (C := RX7) (T := TX7) (N := 13) hx hb hts inlX7 hown hK hP 74 gA_74 rfl 7 (by decide) (hts (.fieldLink RX7 35 "ShapeReader$Tree" "worths" "[J") mw_18_8) (fun _ h9 => h9) rfl dX7_worthOf_9 ?_
    refine lv_iload_n hx hb dX7_worthOf_12 rfl (lv_at hl 1 rfl) ?_
    obtain ⟨hg3, h⟩ := ig h
    refine va_lald hx hb hK hP 80 69 gA_80 yA_80 (vp_in_iff.mpr hg3) dX7_worthOf_13 ?_
    refine lv_goto (tgt := 18) hx hb dX7_worthOf_14 (by decide) ?_
    obtain rfl := Option.some.inj h
    exact W.lret hx hb hr (fun t ht hW => ⟨⟨_, (), rfl, rfl, ⟨by rw [ht]; exact hP, va_K.moved hW.alike hK, hD⟩⟩, hS.F ht⟩) hS.2.2 dX7_worthOf_18

theorem s_X7_worthOf_74 {l : Launch} {dC : Nat → ClassId} {dI : Nat → Nat → Nat} {a : Nat → Nat} {k : Nat → ClassId} {sz : Nat} {p0 : Int32} {σ : ST} {q : Int64 × ST} (h : f_X7_worthOf 74 p0 σ = some q) : Met l yX7_worthOf (.code yX7_worthOf cX7_worthOf 2 (some .long) :: pw) ({ frames := 1, cells := 0, slots := 0, locals := 21 } : Room) (va_Pc [.ref (a 74), .int p0] (vPre dC dI (wA a k σ) (tA k) sz)) (qAl dC dI a k (va_A (wA a k σ) sz) q) 0 0 (va_A (wA a k σ) sz) := metA (fun A => qAl dC dI a k A q) (plainFor_of_name (by decide)) (Nat.le_of_ble_eq_true rfl) (fun _ _ _ _ _ _ _ _ hC => b_X7_worthOf_e_74 hC h)

def f_X7_isLike_15 (b : Nat) (t : Nat) : Nat → Int32 → ST → Option (Int32 × ST)
  | 0, _, _ => none
  | n + 1, x2, σ => if (σ.1 b 1) ≤ x2 then (some (1, σ)) else ((f_X7_rowAt b x2 σ).bind fun q1 => (f_X7_rowAt t x2 q1.2).bind fun q3 => (f_X7_sortAt b q1.1 q3.2).bind fun q5 => (f_X7_sortAt t q3.1 q5.2).bind fun q7 => if q5.1 = q7.1 then ((f_X7_sizeOf b q1.1 q7.2).bind fun q9 => (f_X7_sizeOf t q3.1 q9.2).bind fun q11 => if q9.1 = q11.1 then ((f_X7_worthOf b q1.1 q11.2).bind fun q13 => (f_X7_worthOf t q3.1 q13.2).bind fun q15 => if (lg_cmp q13.1 q15.1) = 0 then (f_X7_isLike_15 b t n (x2 + 1) q15.2) else (some (0, q15.2))) else (some (0, q11.2))) else (some (0, q7.2)))
def f_X7_isLike (b : Nat) (t : Nat) (σ : ST) : Option (Int32 × ST) := if (σ.1 b 1) = (σ.1 t 1) then (f_X7_isLike_15 b t FU 0 σ) else (some (0, σ))

set_option maxRecDepth 100000 in
set_option maxHeartbeats 4000000 in
theorem b_X7_isLike_15_62_74 {p : Program} {l : Launch} {e : Env} {s : State} {m : MethodId} {args : Array Value} {below : List Frame} {meth : Method} {c : Code} {dC : Nat → ClassId} {dI : Nat → Nat → Nat} {a : Nat → Nat} {k : Nat → ClassId} {A : Nat → Prop} {q : Int32 × ST} (hC : CxA p s m args meth c dC dI k A cX7_isLike RX7 (some .boolean) 5)   : ∀ (n : Nat) (x2 : Int32) (σ : ST), f_X7_isLike_15 62 74 n x2 σ = some q → GoA p l e ({ frames := 2, cells := 0, slots := 0, locals := 42 } : Room) s m args below meth c (MQ below (qAi dC dI a k A q) args s 0 0 A) dC dI a k A 5 15 σ [(0, .ref (a 62)), (1, .ref (a 74)), (2, .int x2)] [] := by
  intro n
  induction n with
  | zero =>
    intro x2 σ h
    rw [f_X7_isLike_15] at h
    cases h
  | succ n ih =>
    intro x2 σ h
    have hC0 := hC
    obtain ⟨hx, hb, hr, hml, hown, hts, hlocks, hA, hN, hK⟩ := hC0
    intro H locs ls hP hD hS hl
    have hD0 : ∀ σ1 : ST, va_D A (wA a k σ1) := fun σ1 => wA_D hD
    rw [f_X7_isLike_15] at h
    refine lv_iload_n hx hb dX7_isLike_15 rfl (lv_at hl 2 rfl) ?_
    refine lv_aload_n hx hb dX7_isLike_16 rfl (lv_at hl 0 rfl) ?_
    refine va_get (D := (dC, dI)) (ci := 7) (C := RX7) (T := TX7) (N := 13) hx hb hts inlX7 hown hK hP 62 gA_62 rfl 1 (by decide) (hts (.fieldLink RX7 9 "ShapeReader$Tree" "size" "I") mw_18_1) (fun _ h9 => h9) rfl dX7_isLike_17 ?_
    refine lv_icmp_ge (tgt := 87) hx hb dX7_isLike_20 (by decide) (fun hc => ?_) (fun hc => ?_)
    · replace h := ip hc h
      refine lv_iconst (v := 1) hx hb dX7_isLike_87 (by decide) ?_
      obtain rfl := Option.some.inj h
      exact W.zret hx hb hr rfl (fun t ht hW => ⟨⟨_, (), rfl, rfl, ⟨by rw [ht]; exact hP, va_K.moved hW.alike hK, hD⟩⟩, hS.F ht⟩) hS.2.2 dX7_isLike_88
    · replace h := iq hc h
      refine lv_aload_n hx hb dX7_isLike_23 rfl (lv_at hl 0 rfl) ?_
      refine lv_iload_n hx hb dX7_isLike_24 rfl (lv_at hl 2 rfl) ?_
      obtain ⟨q1, hc, h⟩ := ib h
      have hF := va_frees hD hS hA
      refine va_calli (va_runV (As := [.int x2]) (rest := []) ⟨hx, hb, hml, hown, hts⟩ (s_X7_rowAt_62 hc) (cwV 1 hts (gV mw_18_28 mw_18_29 mw_19_0 mw_0_11 mw_52_7) rfl rfl rfl (by decide +kernel) ⟨(Nat.le_of_ble_eq_true rfl), (Nat.le_of_ble_eq_true rfl)⟩) (vV (ci := 7) (q0 := 62) hK hP hD hN rfl gA_62) rfl rfl hl.1 rfl (lv_room (Nat.le_of_ble_eq_true rfl)) dX7_isLike_25 ⟨(Nat.le_of_ble_eq_true rfl), (Nat.le_of_ble_eq_true rfl)⟩) hS (fun q _ h => hF q h) hF (fun r2 u t H locs ht hvm hw hB _ _ hS => ?_)
      obtain rfl : r2 = q1.1 := hw
      replace hP : va_P (dC, dI) vwCl (wA a k q1.2) H := by rw [← ht]; exact hB.1
      replace hD := hD0 (q1.2)
      clear hB hF
      refine lv_istore_n (lv' := [(3, .int q1.1), (0, .ref (a 62)), (1, .ref (a 74)), (2, .int x2)]) hx hb dX7_isLike_28 rfl hl (by decide) rfl (fun ls hl => ?_)
      refine lv_aload_n hx hb dX7_isLike_29 rfl (lv_at hl 2 rfl) ?_
      refine lv_iload_n hx hb dX7_isLike_30 rfl (lv_at hl 3 rfl) ?_
      obtain ⟨q3, hc, h⟩ := ib h
      have hF := va_frees hD hS hA
      refine va_calli (va_runV (As := [.int x2]) (rest := []) ⟨hx, hb, hml, hown, hts⟩ (s_X7_rowAt_74 hc) (cwV 1 hts (gV mw_18_28 mw_18_29 mw_19_0 mw_0_11 mw_52_7) rfl rfl rfl (by decide +kernel) ⟨(Nat.le_of_ble_eq_true rfl), (Nat.le_of_ble_eq_true rfl)⟩) (vV (ci := 7) (q0 := 74) hK hP hD hN rfl gA_74) rfl rfl hl.1 rfl (lv_room (Nat.le_of_ble_eq_true rfl)) dX7_isLike_31 ⟨(Nat.le_of_ble_eq_true rfl), (Nat.le_of_ble_eq_true rfl)⟩) hS (fun q _ h => hF q h) hF (fun r4 u t H locs ht hvm hw hB _ _ hS => ?_)
      obtain rfl : r4 = q3.1 := hw
      replace hP : va_P (dC, dI) vwCl (wA a k q3.2) H := by rw [← ht]; exact hB.1
      replace hD := hD0 (q3.2)
      clear hB hF
      refine lv_istore (lv' := [(4, .int q3.1), (3, .int q1.1), (0, .ref (a 62)), (1, .ref (a 74)), (2, .int x2)]) hx hb dX7_isLike_34 hl (by decide) rfl (fun ls hl => ?_)
      refine lv_aload_n hx hb dX7_isLike_36 rfl (lv_at hl 2 rfl) ?_
      refine lv_iload_n hx hb dX7_isLike_37 rfl (lv_at hl 1 rfl) ?_
      obtain ⟨q5, hc, h⟩ := ib h
      have hF := va_frees hD hS hA
      refine va_calli (va_runV (As := [.int q1.1]) (rest := []) ⟨hx, hb, hml, hown, hts⟩ (s_X7_sortAt_62 hc) (cwV 1 hts (gV mw_19_1 mw_5_7 mw_5_8 mw_0_11 mw_51_29) rfl rfl rfl (by decide +kernel) ⟨(Nat.le_of_ble_eq_true rfl), (Nat.le_of_ble_eq_true rfl)⟩) (vV (ci := 7) (q0 := 62) hK hP hD hN rfl gA_62) rfl rfl hl.1 rfl (lv_room (Nat.le_of_ble_eq_true rfl)) dX7_isLike_38 ⟨(Nat.le_of_ble_eq_true rfl), (Nat.le_of_ble_eq_true rfl)⟩) hS (fun q _ h => hF q h) hF (fun r6 u t H locs ht hvm hw hB _ _ hS => ?_)
      obtain rfl : r6 = q5.1 := hw
      replace hP : va_P (dC, dI) vwCl (wA a k q5.2) H := by rw [← ht]; exact hB.1
      replace hD := hD0 (q5.2)
      clear hB hF
      refine lv_aload_n hx hb dX7_isLike_41 rfl (lv_at hl 3 rfl) ?_
      refine lv_iload hx hb dX7_isLike_42 (lv_at hl 0 rfl) ?_
      obtain ⟨q7, hc, h⟩ := ib h
      have hF := va_frees hD hS hA
      refine va_calli (va_runV (As := [.int q3.1]) (rest := [.int q5.1]) ⟨hx, hb, hml, hown, hts⟩ (s_X7_sortAt_74 hc) (cwV 1 hts (gV mw_19_1 mw_5_7 mw_5_8 mw_0_11 mw_51_29) rfl rfl rfl (by decide +kernel) ⟨(Nat.le_of_ble_eq_true rfl), (Nat.le_of_ble_eq_true rfl)⟩) (vV (ci := 7) (q0 := 74) hK hP hD hN rfl gA_74) rfl rfl hl.1 rfl (lv_room (Nat.le_of_ble_eq_true rfl)) dX7_isLike_44 ⟨(Nat.le_of_ble_eq_true rfl), (Nat.le_of_ble_eq_true rfl)⟩) hS (fun q _ h => hF q h) hF (fun r8 u t H locs ht hvm hw hB _ _ hS => ?_)
      obtain rfl : r8 = q7.1 := hw
      replace hP : va_P (dC, dI) vwCl (wA a k q7.2) H := by rw [← ht]; exact hB.1
      replace hD := hD0 (q7.2)
      clear hB hF
      refine lv_icmp_ne (tgt := 79) hx hb dX7_isLike_47 (by decide) (fun hc => ?_) (fun hc => ?_)
      · replace h := iq hc h
        refine lv_iconst (v := 0) hx hb dX7_isLike_79 (by decide) ?_
        obtain rfl := Option.some.inj h
        exact W.zret hx hb hr rfl (fun t ht hW => ⟨⟨_, (), rfl, rfl, ⟨by rw [ht]; exact hP, va_K.moved hW.alike hK, hD⟩⟩, hS.F ht⟩) hS.2.2 dX7_isLike_80
      · replace h := ip hc h
        refine lv_aload_n hx hb dX7_isLike_50 rfl (lv_at hl 2 rfl) ?_
        refine lv_iload_n hx hb dX7_isLike_51 rfl (lv_at hl 1 rfl) ?_
        obtain ⟨q9, hc, h⟩ := ib h
        have hF := va_frees hD hS hA
        refine va_calli (va_runV (As := [.int q1.1]) (rest := []) ⟨hx, hb, hml, hown, hts⟩ (s_X7_sizeOf_62 hc) (cwV 1 hts (gV mw_19_2 mw_5_18 mw_5_19 mw_0_11 mw_52_2) rfl rfl rfl (by decide +kernel) ⟨(Nat.le_of_ble_eq_true rfl), (Nat.le_of_ble_eq_true rfl)⟩) (vV (ci := 7) (q0 := 62) hK hP hD hN rfl gA_62) rfl rfl hl.1 rfl (lv_room (Nat.le_of_ble_eq_true rfl)) dX7_isLike_52 ⟨(Nat.le_of_ble_eq_true rfl), (Nat.le_of_ble_eq_true rfl)⟩) hS (fun q _ h => hF q h) hF (fun r10 u t H locs ht hvm hw hB _ _ hS => ?_)
        obtain rfl : r10 = q9.1 := hw
        replace hP : va_P (dC, dI) vwCl (wA a k q9.2) H := by rw [← ht]; exact hB.1
        replace hD := hD0 (q9.2)
        clear hB hF
        refine lv_aload_n hx hb dX7_isLike_55 rfl (lv_at hl 3 rfl) ?_
        refine lv_iload hx hb dX7_isLike_56 (lv_at hl 0 rfl) ?_
        obtain ⟨q11, hc, h⟩ := ib h
        have hF := va_frees hD hS hA
        refine va_calli (va_runV (As := [.int q3.1]) (rest := [.int q9.1]) ⟨hx, hb, hml, hown, hts⟩ (s_X7_sizeOf_74 hc) (cwV 1 hts (gV mw_19_2 mw_5_18 mw_5_19 mw_0_11 mw_52_2) rfl rfl rfl (by decide +kernel) ⟨(Nat.le_of_ble_eq_true rfl), (Nat.le_of_ble_eq_true rfl)⟩) (vV (ci := 7) (q0 := 74) hK hP hD hN rfl gA_74) rfl rfl hl.1 rfl (lv_room (Nat.le_of_ble_eq_true rfl)) dX7_isLike_58 ⟨(Nat.le_of_ble_eq_true rfl), (Nat.le_of_ble_eq_true rfl)⟩) hS (fun q _ h => hF q h) hF (fun r12 u t H locs ht hvm hw hB _ _ hS => ?_)
        obtain rfl : r12 = q11.1 := hw
        replace hP : va_P (dC, dI) vwCl (wA a k q11.2) H := by rw [← ht]; exact hB.1
        replace hD := hD0 (q11.2)
        clear hB hF
        refine lv_icmp_ne (tgt := 79) hx hb dX7_isLike_61 (by decide) (fun hc => ?_) (fun hc => ?_)
        · replace h := iq hc h
          refine lv_iconst (v := 0) hx hb dX7_isLike_79 (by decide) ?_
          obtain rfl := Option.some.inj h
          exact W.zret hx hb hr rfl (fun t ht hW => ⟨⟨_, (), rfl, rfl, ⟨by rw [ht]; exact hP, va_K.moved hW.alike hK, hD⟩⟩, hS.F ht⟩) hS.2.2 dX7_isLike_80
        · replace h := ip hc h
          refine lv_aload_n hx hb dX7_isLike_64 rfl (lv_at hl 2 rfl) ?_
          refine lv_iload_n hx hb dX7_isLike_65 rfl (lv_at hl 1 rfl) ?_
          obtain ⟨q13, hc, h⟩ := ib h
          have hF := va_frees hD hS hA
          refine va_calll (va_runV (As := [.int q1.1]) (rest := []) ⟨hx, hb, hml, hown, hts⟩ (s_X7_worthOf_62 hc) (cwV 1 hts (gV mw_19_3 mw_6_0 mw_6_1 mw_0_11 mw_52_4) rfl rfl rfl (by decide +kernel) ⟨(Nat.le_of_ble_eq_true rfl), (Nat.le_of_ble_eq_true rfl)⟩) (vV (ci := 7) (q0 := 62) hK hP hD hN rfl gA_62) rfl rfl hl.1 rfl (lv_room (Nat.le_of_ble_eq_true rfl)) dX7_isLike_66 ⟨(Nat.le_of_ble_eq_true rfl), (Nat.le_of_ble_eq_true rfl)⟩) hS (fun q _ h => hF q h) hF (fun r14 u t H locs ht hvm hw hB _ _ hS => ?_)
          obtain rfl : r14 = q13.1 := hw
          replace hP : va_P (dC, dI) vwCl (wA a k q13.2) H := by rw [← ht]; exact hB.1
          replace hD := hD0 (q13.2)
          clear hB hF
          refine lv_aload_n hx hb dX7_isLike_69 rfl (lv_at hl 3 rfl) ?_
          refine lv_iload hx hb dX7_isLike_70 (lv_at hl 0 rfl) ?_
          obtain ⟨q15, hc, h⟩ := ib h
          have hF := va_frees hD hS hA
          refine va_calll (va_runV (As := [.int q3.1]) (rest := [.long q13.1]) ⟨hx, hb, hml, hown, hts⟩ (s_X7_worthOf_74 hc) (cwV 1 hts (gV mw_19_3 mw_6_0 mw_6_1 mw_0_11 mw_52_4) rfl rfl rfl (by decide +kernel) ⟨(Nat.le_of_ble_eq_true rfl), (Nat.le_of_ble_eq_true rfl)⟩) (vV (ci := 7) (q0 := 74) hK hP hD hN rfl gA_74) rfl rfl hl.1 rfl (lv_room (Nat.le_of_ble_eq_true rfl)) dX7_isLike_72 ⟨(Nat.le_of_ble_eq_true rfl), (Nat.le_of_ble_eq_true rfl)⟩) hS (fun q _ h => hF q h) hF (fun r16 u t H locs ht hvm hw hB _ _ hS => ?_)
          obtain rfl : r16 = q15.1 := hw
          replace hP : va_P (dC, dI) vwCl (wA a k q15.2) H := by rw [← ht]; exact hB.1
          replace hD := hD0 (q15.2)
          clear hB hF
          refine W.lcmp hx hb dX7_isLike_75 ?_
          refine lv_if_eq (tgt := 81) hx hb dX7_isLike_76 (by decide) (fun hc => ?_) (fun hc => ?_)
          · replace h := ip hc h
            refine lv_iinc (v := (x2 + 1)) (lv' := [(2, .int (x2 + 1)), (4, .int q3.1), (3, .int q1.1), (0, .ref (a 62)), (1, .ref (a 74))]) hx hb dX7_isLike_81 hl (k := 4) rfl rfl (by decide) rfl (fun ls hl => ?_)
            refine lv_goto (tgt := 15) hx hb dX7_isLike_84 (by decide) ?_
            exact ih _ _ h _ _ _ hP hD hS (lv_sub hl [3, 4, 0] rfl)
          · replace h := iq hc h
            refine lv_iconst (v := 0) hx hb dX7_isLike_79 (by decide) ?_
            obtain rfl := Option.some.inj h
            exact W.zret hx hb hr rfl (fun t ht hW => ⟨⟨_, (), rfl, rfl, ⟨by rw [ht]; exact hP, va_K.moved hW.alike hK, hD⟩⟩, hS.F ht⟩) hS.2.2 dX7_isLike_80

set_option maxRecDepth 100000 in
set_option maxHeartbeats 4000000 in
theorem b_X7_isLike_e_62_74 {p : Program} {l : Launch} {e : Env} {s : State} {m : MethodId} {args : Array Value} {below : List Frame} {meth : Method} {c : Code} {dC : Nat → ClassId} {dI : Nat → Nat → Nat} {a : Nat → Nat} {k : Nat → ClassId} {A : Nat → Prop} {q : Int32 × ST} (hC : CxA p s m args meth c dC dI k A cX7_isLike RX7 (some .boolean) 5)    {σ : ST} (h : f_X7_isLike 62 74  σ = some q) : GoA p l e ({ frames := 2, cells := 0, slots := 0, locals := 42 } : Room) s m args below meth c (MQ below (qAi dC dI a k A q) args s 0 0 A) dC dI a k A 5 0 σ (lv_args 0 [.ref (a 62), .ref (a 74)]) [] := by
  have hC0 := hC
  obtain ⟨hx, hb, hr, hml, hown, hts, hlocks, hA, hN, hK⟩ := hC0
  intro H locs ls hP hD hS hl
  have hD0 : ∀ σ1 : ST, va_D A (wA a k σ1) := fun σ1 => wA_D hD
  replace hl : lv_has ls 5 [(0, .ref (a 62)), (1, .ref (a 74))] := hl
  unfold f_X7_isLike at h
  refine lv_aload_n hx hb dX7_isLike_0 rfl (lv_at hl 0 rfl) ?_
  refine va_get (D := (dC, dI)) (ci := 7) (C := RX7) (T := TX7) (N := 13) hx hb hts inlX7 hown hK hP 62 gA_62 rfl 1 (by decide) (hts (.fieldLink RX7 9 "ShapeReader$Tree" "size" "I") mw_18_1) (fun _ h9 => h9) rfl dX7_isLike_1 ?_
  refine lv_aload_n hx hb dX7_isLike_4 rfl (lv_at hl 1 rfl) ?_
  refine va_get (D := (dC, dI)) (ci := 7) (C := RX7) (T := TX7) (N := 13) hx hb hts inlX7 hown hK hP 74 gA_74 rfl 1 (by decide) (hts (.fieldLink RX7 9 "ShapeReader$Tree" "size" "I") mw_18_1) (fun _ h9 => h9) rfl dX7_isLike_5 ?_
  refine lv_icmp_eq (tgt := 13) hx hb dX7_isLike_8 (by decide) (fun hc => ?_) (fun hc => ?_)
  · replace h := ip hc h
    refine lv_iconst (v := 0) hx hb dX7_isLike_13 (by decide) ?_
    refine lv_istore_n (lv' := [(2, .int 0), (0, .ref (a 62)), (1, .ref (a 74))]) hx hb dX7_isLike_14 rfl hl (by decide) rfl (fun ls hl => ?_)
    exact b_X7_isLike_15_62_74 hC FU _ _ h _ _ _ hP hD hS (lv_sub hl [1, 2, 0] rfl)
  · replace h := iq hc h
    refine lv_iconst (v := 0) hx hb dX7_isLike_11 (by decide) ?_
    obtain rfl := Option.some.inj h
    exact W.zret hx hb hr rfl (fun t ht hW => ⟨⟨_, (), rfl, rfl, ⟨by rw [ht]; exact hP, va_K.moved hW.alike hK, hD⟩⟩, hS.F ht⟩) hS.2.2 dX7_isLike_12

theorem s_X7_isLike_62_74 {l : Launch} {dC : Nat → ClassId} {dI : Nat → Nat → Nat} {a : Nat → Nat} {k : Nat → ClassId} {sz : Nat}  {σ : ST} {q : Int32 × ST} (h : f_X7_isLike 62 74  σ = some q) : Met l yX7_isLike (.code yX7_isLike cX7_isLike 5 (some .boolean) :: pw) ({ frames := 2, cells := 0, slots := 0, locals := 42 } : Room) (va_Pc [.ref (a 62), .ref (a 74)] (vPre dC dI (wA a k σ) (tA k) sz)) (qAi dC dI a k (va_A (wA a k σ) sz) q) 0 0 (va_A (wA a k σ) sz) := metA (fun A => qAi dC dI a k A q) (plainFor_of_name (by decide)) (Nat.le_of_ble_eq_true rfl) (fun _ _ _ _ _ _ _ _ hC => b_X7_isLike_e_62_74 hC h)

def f_X10_alike (p0 : Int32) (p1 : Int32) (p2 : Int32) (σ : ST) : Option (Int32 × ST) := (f_X1_isWritten  p0 σ).bind fun q1 => if q1.1 = 0 then (some ((-1), q1.2)) else ((f_X1_isWritten  p1 q1.2).bind fun q3 => if q3.1 = 0 then (some ((-1), q3.2)) else ((f_X10_isPlan  p2 q3.2).bind fun q5 => if q5.1 = 0 then (some ((-1), q5.2)) else ((f_X4_run 92 62 p0 p2 q5.2).bind fun q7 => if 0 ≤ q7.1 then ((f_X4_run 92 74 p1 p2 q7.2).bind fun q9 => if 0 ≤ q9.1 then ((f_X7_isLike 62 74  q9.2).bind fun q11 => if q11.1 = 0 then (some (0, q11.2)) else (some (1, q11.2))) else (some (q9.1, q9.2))) else (some (q7.1, q7.2)))))

set_option maxRecDepth 100000 in
set_option maxHeartbeats 4000000 in
theorem b_X10_alike_e {p : Program} {l : Launch} {e : Env} {s : State} {m : MethodId} {args : Array Value} {below : List Frame} {meth : Method} {c : Code} {dC : Nat → ClassId} {dI : Nat → Nat → Nat} {a : Nat → Nat} {k : Nat → ClassId} {A : Nat → Prop} {q : Int32 × ST} (hC : CxA p s m args meth c dC dI k A cX10_alike RX10 (some .int) 6)   {p0 : Int32} {p1 : Int32} {p2 : Int32} {σ : ST} (h : f_X10_alike  p0 p1 p2 σ = some q) : GoA p l e ({ frames := 326, cells := 0, slots := 0, locals := 9104 } : Room) s m args below meth c (MQ below (qAi dC dI a k A q) args s 0 0 A) dC dI a k A 6 0 σ (lv_args 0 [.ref (a 0), .int p0, .int p1, .int p2]) [] := by
  have hC0 := hC
  obtain ⟨hx, hb, hr, hml, hown, hts, hlocks, hA, hN, hK⟩ := hC0
  intro H locs ls hP hD hS hl
  have hD0 : ∀ σ1 : ST, va_D A (wA a k σ1) := fun σ1 => wA_D hD
  replace hl : lv_has ls 6 [(0, .ref (a 0)), (1, .int p0), (2, .int p1), (3, .int p2)] := hl
  unfold f_X10_alike at h
  refine lv_aload_n hx hb dX10_alike_0 rfl (lv_at hl 0 rfl) ?_
  refine va_get (D := (dC, dI)) (ci := 10) (C := RX10) (T := TX10) (N := 16) hx hb hts inlX10 hown hK hP 0 gA_0 rfl 6 (by decide) (hts (.fieldLink RX10 48 "ShapeReader" "messages" "LShapeReader$Messages;") mw_21_12) (fun _ h9 => h9) rfl dX10_alike_1 ?_
  refine lv_iload_n hx hb dX10_alike_4 rfl (lv_at hl 1 rfl) ?_
  obtain ⟨q1, hc, h⟩ := ib h
  have hF := va_frees hD hS hA
  refine va_calli (va_runV (As := [.int p0]) (rest := []) ⟨hx, hb, hml, hown, hts⟩ (s_X1_isWritten hc) (cwV 1 hts (gV mw_24_13 mw_4_15 mw_4_16 mw_0_5 mw_48_0) rfl rfl rfl (by decide +kernel) ⟨(Nat.le_of_ble_eq_true rfl), (Nat.le_of_ble_eq_true rfl)⟩) (vV (ci := 1) (q0 := 37) hK hP hD hN rfl gA_37) rfl rfl hl.1 rfl (lv_room (Nat.le_of_ble_eq_true rfl)) dX10_alike_5 ⟨(Nat.le_of_ble_eq_true rfl), (Nat.le_of_ble_eq_true rfl)⟩) hS (fun q _ h => hF q h) hF (fun r2 u t H locs ht hvm hw hB _ _ hS => ?_)
  obtain rfl : r2 = q1.1 := hw
  replace hP : va_P (dC, dI) vwCl (wA a k q1.2) H := by rw [← ht]; exact hB.1
  replace hD := hD0 (q1.2)
  clear hB hF
  refine lv_if_eq (tgt := 30) hx hb dX10_alike_8 (by decide) (fun hc => ?_) (fun hc => ?_)
  · replace h := ip hc h
    refine lv_iconst (v := (-1)) hx hb dX10_alike_30 (by decide) ?_
    obtain rfl := Option.some.inj h
    exact W.iret hx hb hr (fun t ht hW => ⟨⟨_, (), rfl, rfl, ⟨by rw [ht]; exact hP, va_K.moved hW.alike hK, hD⟩⟩, hS.F ht⟩) hS.2.2 dX10_alike_31
  · replace h := iq hc h
    refine lv_aload_n hx hb dX10_alike_11 rfl (lv_at hl 0 rfl) ?_
    refine va_get (D := (dC, dI)) (ci := 10) (C := RX10) (T := TX10) (N := 16) hx hb hts inlX10 hown hK hP 0 gA_0 rfl 6 (by decide) (hts (.fieldLink RX10 48 "ShapeReader" "messages" "LShapeReader$Messages;") mw_21_12) (fun _ h9 => h9) rfl dX10_alike_12 ?_
    refine lv_iload_n hx hb dX10_alike_15 rfl (lv_at hl 2 rfl) ?_
    obtain ⟨q3, hc, h⟩ := ib h
    have hF := va_frees hD hS hA
    refine va_calli (va_runV (As := [.int p1]) (rest := []) ⟨hx, hb, hml, hown, hts⟩ (s_X1_isWritten hc) (cwV 1 hts (gV mw_24_13 mw_4_15 mw_4_16 mw_0_5 mw_48_0) rfl rfl rfl (by decide +kernel) ⟨(Nat.le_of_ble_eq_true rfl), (Nat.le_of_ble_eq_true rfl)⟩) (vV (ci := 1) (q0 := 37) hK hP hD hN rfl gA_37) rfl rfl hl.1 rfl (lv_room (Nat.le_of_ble_eq_true rfl)) dX10_alike_16 ⟨(Nat.le_of_ble_eq_true rfl), (Nat.le_of_ble_eq_true rfl)⟩) hS (fun q _ h => hF q h) hF (fun r4 u t H locs ht hvm hw hB _ _ hS => ?_)
    obtain rfl : r4 = q3.1 := hw
    replace hP : va_P (dC, dI) vwCl (wA a k q3.2) H := by rw [← ht]; exact hB.1
    replace hD := hD0 (q3.2)
    clear hB hF
    refine lv_if_eq (tgt := 30) hx hb dX10_alike_19 (by decide) (fun hc => ?_) (fun hc => ?_)
    · replace h := ip hc h
      refine lv_iconst (v := (-1)) hx hb dX10_alike_30 (by decide) ?_
      obtain rfl := Option.some.inj h
      exact W.iret hx hb hr (fun t ht hW => ⟨⟨_, (), rfl, rfl, ⟨by rw [ht]; exact hP, va_K.moved hW.alike hK, hD⟩⟩, hS.F ht⟩) hS.2.2 dX10_alike_31
    · replace h := iq hc h
      refine lv_aload_n hx hb dX10_alike_22 rfl (lv_at hl 0 rfl) ?_
      refine lv_iload_n hx hb dX10_alike_23 rfl (lv_at hl 3 rfl) ?_
      obtain ⟨q5, hc, h⟩ := ib h
      have hF := va_frees hD hS hA
      refine va_calli (va_runV (As := [.int p2]) (rest := []) ⟨hx, hb, hml, hown, hts⟩ (s_X10_isPlan hc) (cwV 1 hts (gV mw_23_15 mw_23_16 mw_23_17 mw_0_14 mw_52_29) rfl rfl rfl (by decide +kernel) ⟨(Nat.le_of_ble_eq_true rfl), (Nat.le_of_ble_eq_true rfl)⟩) (vV (ci := 10) (q0 := 0) hK hP hD hN rfl gA_0) rfl rfl hl.1 rfl (lv_room (Nat.le_of_ble_eq_true rfl)) dX10_alike_24 ⟨(Nat.le_of_ble_eq_true rfl), (Nat.le_of_ble_eq_true rfl)⟩) hS (fun q _ h => hF q h) hF (fun r6 u t H locs ht hvm hw hB _ _ hS => ?_)
      obtain rfl : r6 = q5.1 := hw
      replace hP : va_P (dC, dI) vwCl (wA a k q5.2) H := by rw [← ht]; exact hB.1
      replace hD := hD0 (q5.2)
      clear hB hF
      refine lv_if_ne (tgt := 32) hx hb dX10_alike_27 (by decide) (fun hc => ?_) (fun hc => ?_)
      · replace h := iq hc h
        refine lv_aload_n hx hb dX10_alike_32 rfl (lv_at hl 0 rfl) ?_
        refine va_get (D := (dC, dI)) (ci := 10) (C := RX10) (T := TX10) (N := 16) hx hb hts inlX10 hown hK hP 0 gA_0 rfl 15 (by decide) (hts (.fieldLink RX10 108 "ShapeReader" "trial" "LShapeReader$Reading;") mw_22_14) (fun _ h9 => h9) rfl dX10_alike_33 ?_
        refine lv_iload_n hx hb dX10_alike_36 rfl (lv_at hl 1 rfl) ?_
        refine lv_iload_n hx hb dX10_alike_37 rfl (lv_at hl 3 rfl) ?_
        refine lv_aload_n hx hb dX10_alike_38 rfl (lv_at hl 0 rfl) ?_
        refine va_get (D := (dC, dI)) (ci := 10) (C := RX10) (T := TX10) (N := 16) hx hb hts inlX10 hown hK hP 0 gA_0 rfl 10 (by decide) (hts (.fieldLink RX10 77 "ShapeReader" "scratch" "LShapeReader$Tree;") mw_21_27) (fun _ h9 => h9) rfl dX10_alike_39 ?_
        obtain ⟨q7, hc, h⟩ := ib h
        have hF := va_frees hD hS hA
        refine va_calli (va_runV (As := [.int p0, .int p2, .ref (a 62)]) (rest := []) ⟨hx, hb, hml, hown, hts⟩ (s_X4_run_92_62 hc) (cwV 3 hts (gV mw_25_15 mw_25_16 mw_25_17 mw_0_8 mw_49_0) rfl rfl rfl (by decide +kernel) ⟨(Nat.le_of_ble_eq_true rfl), (Nat.le_of_ble_eq_true rfl)⟩) (vV (ci := 4) (q0 := 92) hK hP hD hN rfl gA_92) rfl rfl hl.1 rfl (lv_room (Nat.le_of_ble_eq_true rfl)) dX10_alike_42 ⟨(Nat.le_of_ble_eq_true rfl), (Nat.le_of_ble_eq_true rfl)⟩) hS (fun q _ h => hF q h) hF (fun r8 u t H locs ht hvm hw hB _ _ hS => ?_)
        obtain rfl : r8 = q7.1 := hw
        replace hP : va_P (dC, dI) vwCl (wA a k q7.2) H := by rw [← ht]; exact hB.1
        replace hD := hD0 (q7.2)
        clear hB hF
        refine lv_istore (lv' := [(4, .int q7.1), (0, .ref (a 0)), (1, .int p0), (2, .int p1), (3, .int p2)]) hx hb dX10_alike_45 hl (by decide) rfl (fun ls hl => ?_)
        refine lv_iload hx hb dX10_alike_47 (lv_at hl 0 rfl) ?_
        refine lv_if_ge (tgt := 55) hx hb dX10_alike_49 (by decide) (fun hc => ?_) (fun hc => ?_)
        · replace h := ip hc h
          refine lv_aload_n hx hb dX10_alike_55 rfl (lv_at hl 1 rfl) ?_
          refine va_get (D := (dC, dI)) (ci := 10) (C := RX10) (T := TX10) (N := 16) hx hb hts inlX10 hown hK hP 0 gA_0 rfl 15 (by decide) (hts (.fieldLink RX10 108 "ShapeReader" "trial" "LShapeReader$Reading;") mw_22_14) (fun _ h9 => h9) rfl dX10_alike_56 ?_
          refine lv_iload_n hx hb dX10_alike_59 rfl (lv_at hl 3 rfl) ?_
          refine lv_iload_n hx hb dX10_alike_60 rfl (lv_at hl 4 rfl) ?_
          refine lv_aload_n hx hb dX10_alike_61 rfl (lv_at hl 1 rfl) ?_
          refine va_get (D := (dC, dI)) (ci := 10) (C := RX10) (T := TX10) (N := 16) hx hb hts inlX10 hown hK hP 0 gA_0 rfl 11 (by decide) (hts (.fieldLink RX10 80 "ShapeReader" "second" "LShapeReader$Tree;") mw_21_28) (fun _ h9 => h9) rfl dX10_alike_62 ?_
          obtain ⟨q9, hc, h⟩ := ib h
          have hF := va_frees hD hS hA
          refine va_calli (va_runV (As := [.int p1, .int p2, .ref (a 74)]) (rest := []) ⟨hx, hb, hml, hown, hts⟩ (s_X4_run_92_74 hc) (cwV 3 hts (gV mw_25_15 mw_25_16 mw_25_17 mw_0_8 mw_49_0) rfl rfl rfl (by decide +kernel) ⟨(Nat.le_of_ble_eq_true rfl), (Nat.le_of_ble_eq_true rfl)⟩) (vV (ci := 4) (q0 := 92) hK hP hD hN rfl gA_92) rfl rfl hl.1 rfl (lv_room (Nat.le_of_ble_eq_true rfl)) dX10_alike_65 ⟨(Nat.le_of_ble_eq_true rfl), (Nat.le_of_ble_eq_true rfl)⟩) hS (fun q _ h => hF q h) hF (fun r10 u t H locs ht hvm hw hB _ _ hS => ?_)
          obtain rfl : r10 = q9.1 := hw
          replace hP : va_P (dC, dI) vwCl (wA a k q9.2) H := by rw [← ht]; exact hB.1
          replace hD := hD0 (q9.2)
          clear hB hF
          refine lv_istore (lv' := [(5, .int q9.1), (4, .int q7.1), (0, .ref (a 0)), (1, .int p0), (2, .int p1), (3, .int p2)]) hx hb dX10_alike_68 hl (by decide) rfl (fun ls hl => ?_)
          refine lv_iload hx hb dX10_alike_70 (lv_at hl 0 rfl) ?_
          refine lv_if_ge (tgt := 78) hx hb dX10_alike_72 (by decide) (fun hc => ?_) (fun hc => ?_)
          · replace h := ip hc h
            refine lv_aload_n hx hb dX10_alike_78 rfl (lv_at hl 2 rfl) ?_
            refine va_get (D := (dC, dI)) (ci := 10) (C := RX10) (T := TX10) (N := 16) hx hb hts inlX10 hown hK hP 0 gA_0 rfl 10 (by decide) (hts (.fieldLink RX10 77 "ShapeReader" "scratch" "LShapeReader$Tree;") mw_21_27) (fun _ h9 => h9) rfl dX10_alike_79 ?_
            refine lv_aload_n hx hb dX10_alike_82 rfl (lv_at hl 2 rfl) ?_
            refine va_get (D := (dC, dI)) (ci := 10) (C := RX10) (T := TX10) (N := 16) hx hb hts inlX10 hown hK hP 0 gA_0 rfl 11 (by decide) (hts (.fieldLink RX10 80 "ShapeReader" "second" "LShapeReader$Tree;") mw_21_28) (fun _ h9 => h9) rfl dX10_alike_83 ?_
            obtain ⟨q11, hc, h⟩ := ib h
            have hF := va_frees hD hS hA
            refine va_calli (va_runV (As := [.ref (a 74)]) (rest := []) ⟨hx, hb, hml, hown, hts⟩ (s_X7_isLike_62_74 hc) (cwV 1 hts (gV mw_26_7 mw_26_8 mw_26_9 mw_0_11 mw_52_11) rfl rfl rfl (by decide +kernel) ⟨(Nat.le_of_ble_eq_true rfl), (Nat.le_of_ble_eq_true rfl)⟩) (vV (ci := 7) (q0 := 62) hK hP hD hN rfl gA_62) rfl rfl hl.1 rfl (lv_room (Nat.le_of_ble_eq_true rfl)) dX10_alike_86 ⟨(Nat.le_of_ble_eq_true rfl), (Nat.le_of_ble_eq_true rfl)⟩) hS (fun q _ h => hF q h) hF (fun r12 u t H locs ht hvm hw hB _ _ hS => ?_)
            obtain rfl : r12 = q11.1 := hw
            replace hP : va_P (dC, dI) vwCl (wA a k q11.2) H := by rw [← ht]; exact hB.1
            replace hD := hD0 (q11.2)
            clear hB hF
            refine lv_if_eq (tgt := 96) hx hb dX10_alike_89 (by decide) (fun hc => ?_) (fun hc => ?_)
            · replace h := ip hc h
              refine lv_iconst (v := 0) hx hb dX10_alike_96 (by decide) ?_
              obtain rfl := Option.some.inj h
              exact W.iret hx hb hr (fun t ht hW => ⟨⟨_, (), rfl, rfl, ⟨by rw [ht]; exact hP, va_K.moved hW.alike hK, hD⟩⟩, hS.F ht⟩) hS.2.2 dX10_alike_97
            · replace h := iq hc h
              refine lv_iconst (v := 1) hx hb dX10_alike_92 (by decide) ?_
              refine lv_goto (tgt := 97) hx hb dX10_alike_93 (by decide) ?_
              obtain rfl := Option.some.inj h
              exact W.iret hx hb hr (fun t ht hW => ⟨⟨_, (), rfl, rfl, ⟨by rw [ht]; exact hP, va_K.moved hW.alike hK, hD⟩⟩, hS.F ht⟩) hS.2.2 dX10_alike_97
          · replace h := iq hc h
            refine lv_iload hx hb dX10_alike_75 (lv_at hl 0 rfl) ?_
            obtain rfl := Option.some.inj h
            exact W.iret hx hb hr (fun t ht hW => ⟨⟨_, (), rfl, rfl, ⟨by rw [ht]; exact hP, va_K.moved hW.alike hK, hD⟩⟩, hS.F ht⟩) hS.2.2 dX10_alike_77
        · replace h := iq hc h
          refine lv_iload hx hb dX10_alike_52 (lv_at hl 0 rfl) ?_
          obtain rfl := Option.some.inj h
          exact W.iret hx hb hr (fun t ht hW => ⟨⟨_, (), rfl, rfl, ⟨by rw [ht]; exact hP, va_K.moved hW.alike hK, hD⟩⟩, hS.F ht⟩) hS.2.2 dX10_alike_54
      · replace h := ip hc h
        refine lv_iconst (v := (-1)) hx hb dX10_alike_30 (by decide) ?_
        obtain rfl := Option.some.inj h
        exact W.iret hx hb hr (fun t ht hW => ⟨⟨_, (), rfl, rfl, ⟨by rw [ht]; exact hP, va_K.moved hW.alike hK, hD⟩⟩, hS.F ht⟩) hS.2.2 dX10_alike_31

theorem s_X10_alike {l : Launch} {dC : Nat → ClassId} {dI : Nat → Nat → Nat} {a : Nat → Nat} {k : Nat → ClassId} {sz : Nat} {p0 : Int32} {p1 : Int32} {p2 : Int32} {σ : ST} {q : Int32 × ST} (h : f_X10_alike  p0 p1 p2 σ = some q) : Met l yX10_alike (.code yX10_alike cX10_alike 6 (some .int) :: pw) ({ frames := 326, cells := 0, slots := 0, locals := 9104 } : Room) (va_Pc [.ref (a 0), .int p0, .int p1, .int p2] (vPre dC dI (wA a k σ) (tA k) sz)) (qAi dC dI a k (va_A (wA a k σ) sz) q) 0 0 (va_A (wA a k σ) sz) := metA (fun A => qAi dC dI a k A q) (plainFor_of_name (by decide)) (Nat.le_of_ble_eq_true rfl) (fun _ _ _ _ _ _ _ _ hC => b_X10_alike_e hC h)
