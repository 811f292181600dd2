theorem dX4_run_0 : decode cX4_run 0 = .ok (.aload_n 0, 1) := by decide +kernel
theorem dX4_run_1 : decode cX4_run 1 = .ok (.getfield 41, 3) := by decide +kernel
theorem dX4_run_4 : decode cX4_run 4 = .ok (.iload_n 1, 1) := by decide +kernel
theorem dX4_run_5 : decode cX4_run 5 = .ok (.invokevirtual 53, 3) := by decide +kernel
theorem dX4_run_8 : decode cX4_run 8 = .ok (.istore 4, 2) := by decide +kernel
theorem dX4_run_10 : decode cX4_run 10 = .ok (.aload_n 0, 1) := by decide +kernel
theorem dX4_run_11 : decode cX4_run 11 = .ok (.aload_n 3, 1) := by decide +kernel
theorem dX4_run_12 : decode cX4_run 12 = .ok (.putfield 49, 3) := by decide +kernel
theorem dX4_run_15 : decode cX4_run 15 = .ok (.aload_n 0, 1) := by decide +kernel
theorem dX4_run_16 : decode cX4_run 16 = .ok (.getfield 49, 3) := by decide +kernel
theorem dX4_run_19 : decode cX4_run 19 = .ok (.invokevirtual 59, 3) := by decide +kernel
theorem dX4_run_22 : decode cX4_run 22 = .ok (.aload_n 0, 1) := by decide +kernel
theorem dX4_run_23 : decode cX4_run 23 = .ok (.iload_n 1, 1) := by decide +kernel
theorem dX4_run_24 : decode cX4_run 24 = .ok (.putfield 9, 3) := by decide +kernel
theorem dX4_run_27 : decode cX4_run 27 = .ok (.aload_n 0, 1) := by decide +kernel
theorem dX4_run_28 : decode cX4_run 28 = .ok (.iconst 0, 1) := by decide +kernel
theorem dX4_run_29 : decode cX4_run 29 = .ok (.putfield 15, 3) := by decide +kernel
theorem dX4_run_32 : decode cX4_run 32 = .ok (.aload_n 0, 1) := by decide +kernel
theorem dX4_run_33 : decode cX4_run 33 = .ok (.aload_n 0, 1) := by decide +kernel
theorem dX4_run_34 : decode cX4_run 34 = .ok (.getfield 41, 3) := by decide +kernel
theorem dX4_run_37 : decode cX4_run 37 = .ok (.iload_n 1, 1) := by decide +kernel
theorem dX4_run_38 : decode cX4_run 38 = .ok (.invokevirtual 64, 3) := by decide +kernel
theorem dX4_run_41 : decode cX4_run 41 = .ok (.putfield 18, 3) := by decide +kernel
theorem dX4_run_44 : decode cX4_run 44 = .ok (.aload_n 0, 1) := by decide +kernel
theorem dX4_run_45 : decode cX4_run 45 = .ok (.iconst 0, 1) := by decide +kernel
theorem dX4_run_46 : decode cX4_run 46 = .ok (.putfield 21, 3) := by decide +kernel
theorem dX4_run_49 : decode cX4_run 49 = .ok (.aload_n 0, 1) := by decide +kernel
theorem dX4_run_50 : decode cX4_run 50 = .ok (.iconst 0, 1) := by decide +kernel
theorem dX4_run_51 : decode cX4_run 51 = .ok (.putfield 31, 3) := by decide +kernel
theorem dX4_run_54 : decode cX4_run 54 = .ok (.aload_n 0, 1) := by decide +kernel
theorem dX4_run_55 : decode cX4_run 55 = .ok (.getfield 45, 3) := by decide +kernel
theorem dX4_run_58 : decode cX4_run 58 = .ok (.iload 4, 2) := by decide +kernel
theorem dX4_run_60 : decode cX4_run 60 = .ok (.iload_n 2, 1) := by decide +kernel
theorem dX4_run_61 : decode cX4_run 61 = .ok (.invokevirtual 67, 3) := by decide +kernel
theorem dX4_run_64 : decode cX4_run 64 = .ok (.aload_n 0, 1) := by decide +kernel
theorem dX4_run_65 : decode cX4_run 65 = .ok (.getfield 45, 3) := by decide +kernel
theorem dX4_run_68 : decode cX4_run 68 = .ok (.invokevirtual 73, 3) := by decide +kernel
theorem dX4_run_71 : decode cX4_run 71 = .ok (.ifCond .ne 6, 3) := by decide +kernel
theorem dX4_run_74 : decode cX4_run 74 = .ok (.bipush (-2), 2) := by decide +kernel
theorem dX4_run_76 : decode cX4_run 76 = .ok (.ireturn, 1) := by decide +kernel
theorem dX4_run_77 : decode cX4_run 77 = .ok (.aload_n 0, 1) := by decide +kernel
theorem dX4_run_78 : decode cX4_run 78 = .ok (.aload_n 0, 1) := by decide +kernel
theorem dX4_run_79 : decode cX4_run 79 = .ok (.getfield 37, 3) := by decide +kernel
theorem dX4_run_82 : decode cX4_run 82 = .ok (.iload 4, 2) := by decide +kernel
theorem dX4_run_84 : decode cX4_run 84 = .ok (.invokevirtual 77, 3) := by decide +kernel
theorem dX4_run_87 : decode cX4_run 87 = .ok (.aload_n 0, 1) := by decide +kernel
theorem dX4_run_88 : decode cX4_run 88 = .ok (.getfield 37, 3) := by decide +kernel
theorem dX4_run_91 : decode cX4_run 91 = .ok (.iload_n 2, 1) := by decide +kernel
theorem dX4_run_92 : decode cX4_run 92 = .ok (.invokevirtual 77, 3) := by decide +kernel
theorem dX4_run_95 : decode cX4_run 95 = .ok (.iconst (-1), 1) := by decide +kernel
theorem dX4_run_96 : decode cX4_run 96 = .ok (.iconst 0, 1) := by decide +kernel
theorem dX4_run_97 : decode cX4_run 97 = .ok (.iconst 0, 1) := by decide +kernel
theorem dX4_run_98 : decode cX4_run 98 = .ok (.invokevirtual 82, 3) := by decide +kernel
theorem dX4_run_101 : decode cX4_run 101 = .ok (.aload_n 0, 1) := by decide +kernel
theorem dX4_run_102 : decode cX4_run 102 = .ok (.getfield 21, 3) := by decide +kernel
theorem dX4_run_105 : decode cX4_run 105 = .ok (.ifCond .ne 24, 3) := by decide +kernel
theorem dX4_run_108 : decode cX4_run 108 = .ok (.aload_n 0, 1) := by decide +kernel
theorem dX4_run_109 : decode cX4_run 109 = .ok (.getfield 15, 3) := by decide +kernel
theorem dX4_run_112 : decode cX4_run 112 = .ok (.aload_n 0, 1) := by decide +kernel
theorem dX4_run_113 : decode cX4_run 113 = .ok (.getfield 18, 3) := by decide +kernel
theorem dX4_run_116 : decode cX4_run 116 = .ok (.if_icmp .ge 13, 3) := by decide +kernel
theorem dX4_run_119 : decode cX4_run 119 = .ok (.aload_n 0, 1) := by decide +kernel
theorem dX4_run_120 : decode cX4_run 120 = .ok (.bipush 14, 2) := by decide +kernel
theorem dX4_run_122 : decode cX4_run 122 = .ok (.aload_n 0, 1) := by decide +kernel
theorem dX4_run_123 : decode cX4_run 123 = .ok (.getfield 15, 3) := by decide +kernel
theorem dX4_run_126 : decode cX4_run 126 = .ok (.invokevirtual 86, 3) := by decide +kernel
theorem dX4_run_129 : decode cX4_run 129 = .ok (.aload_n 0, 1) := by decide +kernel
theorem dX4_run_130 : decode cX4_run 130 = .ok (.getfield 21, 3) := by decide +kernel
theorem dX4_run_133 : decode cX4_run 133 = .ok (.ifCond .eq 13, 3) := by decide +kernel
theorem dX4_run_136 : decode cX4_run 136 = .ok (.aload_n 0, 1) := by decide +kernel
theorem dX4_run_137 : decode cX4_run 137 = .ok (.getfield 49, 3) := by decide +kernel
theorem dX4_run_140 : decode cX4_run 140 = .ok (.invokevirtual 59, 3) := by decide +kernel
theorem dX4_run_143 : decode cX4_run 143 = .ok (.bipush (-3), 2) := by decide +kernel
theorem dX4_run_145 : decode cX4_run 145 = .ok (.ireturn, 1) := by decide +kernel
theorem dX4_run_146 : decode cX4_run 146 = .ok (.aload_n 0, 1) := by decide +kernel
theorem dX4_run_147 : decode cX4_run 147 = .ok (.getfield 49, 3) := by decide +kernel
theorem dX4_run_150 : decode cX4_run 150 = .ok (.invokevirtual 89, 3) := by decide +kernel
theorem dX4_run_153 : decode cX4_run 153 = .ok (.aload_n 0, 1) := by decide +kernel
theorem dX4_run_154 : decode cX4_run 154 = .ok (.getfield 49, 3) := by decide +kernel
theorem dX4_run_157 : decode cX4_run 157 = .ok (.getfield 92, 3) := by decide +kernel
theorem dX4_run_160 : decode cX4_run 160 = .ok (.ireturn, 1) := by decide +kernel
theorem dX7_firstOf_0 : decode cX7_firstOf 0 = .ok (.aload_n 0, 1) := by decide +kernel
theorem dX7_firstOf_1 : decode cX7_firstOf 1 = .ok (.iload_n 1, 1) := by decide +kernel
theorem dX7_firstOf_2 : decode cX7_firstOf 2 = .ok (.invokevirtual 54, 3) := by decide +kernel
theorem dX7_firstOf_5 : decode cX7_firstOf 5 = .ok (.ifCond .eq 12, 3) := by decide +kernel
theorem dX7_firstOf_8 : decode cX7_firstOf 8 = .ok (.aload_n 0, 1) := by decide +kernel
theorem dX7_firstOf_9 : decode cX7_firstOf 9 = .ok (.getfield 39, 3) := by decide +kernel
theorem dX7_firstOf_12 : decode cX7_firstOf 12 = .ok (.iload_n 1, 1) := by decide +kernel
theorem dX7_firstOf_13 : decode cX7_firstOf 13 = .ok (.iaload, 1) := by decide +kernel
theorem dX7_firstOf_14 : decode cX7_firstOf 14 = .ok (.goto 4, 3) := by decide +kernel
theorem dX7_firstOf_17 : decode cX7_firstOf 17 = .ok (.iconst (-1), 1) := by decide +kernel
theorem dX7_firstOf_18 : decode cX7_firstOf 18 = .ok (.ireturn, 1) := by decide +kernel
theorem dX7_nextOf_0 : decode cX7_nextOf 0 = .ok (.aload_n 0, 1) := by decide +kernel
theorem dX7_nextOf_1 : decode cX7_nextOf 1 = .ok (.iload_n 1, 1) := by decide +kernel
theorem dX7_nextOf_2 : decode cX7_nextOf 2 = .ok (.invokevirtual 54, 3) := by decide +kernel
theorem dX7_nextOf_5 : decode cX7_nextOf 5 = .ok (.ifCond .eq 12, 3) := by decide +kernel
theorem dX7_nextOf_8 : decode cX7_nextOf 8 = .ok (.aload_n 0, 1) := by decide +kernel
theorem dX7_nextOf_9 : decode cX7_nextOf 9 = .ok (.getfield 45, 3) := by decide +kernel
theorem dX7_nextOf_12 : decode cX7_nextOf 12 = .ok (.iload_n 1, 1) := by decide +kernel
theorem dX7_nextOf_13 : decode cX7_nextOf 13 = .ok (.iaload, 1) := by decide +kernel
theorem dX7_nextOf_14 : decode cX7_nextOf 14 = .ok (.goto 4, 3) := by decide +kernel
theorem dX7_nextOf_17 : decode cX7_nextOf 17 = .ok (.iconst (-1), 1) := by decide +kernel
theorem dX7_nextOf_18 : decode cX7_nextOf 18 = .ok (.ireturn, 1) := by decide +kernel
theorem dX7_parentOf_0 : decode cX7_parentOf 0 = .ok (.aload_n 0, 1) := by decide +kernel
theorem dX7_parentOf_1 : decode cX7_parentOf 1 = .ok (.iload_n 1, 1) := by decide +kernel
theorem dX7_parentOf_2 : decode cX7_parentOf 2 = .ok (.invokevirtual 54, 3) := by decide +kernel
theorem dX7_parentOf_5 : decode cX7_parentOf 5 = .ok (.ifCond .eq 12, 3) := by decide +kernel
theorem dX7_parentOf_8 : decode cX7_parentOf 8 = .ok (.aload_n 0, 1) := by decide +kernel
theorem dX7_parentOf_9 : decode cX7_parentOf 9 = .ok (.getfield 22, 3) := by decide +kernel
theorem dX7_parentOf_12 : decode cX7_parentOf 12 = .ok (.iload_n 1, 1) := by decide +kernel
theorem dX7_parentOf_13 : decode cX7_parentOf 13 = .ok (.iaload, 1) := by decide +kernel
theorem dX7_parentOf_14 : decode cX7_parentOf 14 = .ok (.goto 4, 3) := by decide +kernel
theorem dX7_parentOf_17 : decode cX7_parentOf 17 = .ok (.iconst (-1), 1) := by decide +kernel
theorem dX7_parentOf_18 : decode cX7_parentOf 18 = .ok (.ireturn, 1) := by decide +kernel
theorem dX7_putInOrder_0 : decode cX7_putInOrder 0 = .ok (.iconst 0, 1) := by decide +kernel
theorem dX7_putInOrder_1 : decode cX7_putInOrder 1 = .ok (.istore_n 1, 1) := by decide +kernel
theorem dX7_putInOrder_2 : decode cX7_putInOrder 2 = .ok (.iconst 0, 1) := by decide +kernel
theorem dX7_putInOrder_3 : decode cX7_putInOrder 3 = .ok (.istore_n 2, 1) := by decide +kernel
theorem dX7_putInOrder_4 : decode cX7_putInOrder 4 = .ok (.iload_n 2, 1) := by decide +kernel
theorem dX7_putInOrder_5 : decode cX7_putInOrder 5 = .ok (.aload_n 0, 1) := by decide +kernel
theorem dX7_putInOrder_6 : decode cX7_putInOrder 6 = .ok (.getfield 9, 3) := by decide +kernel
theorem dX7_putInOrder_9 : decode cX7_putInOrder 9 = .ok (.if_icmp .ge 37, 3) := by decide +kernel
theorem dX7_putInOrder_12 : decode cX7_putInOrder 12 = .ok (.aload_n 0, 1) := by decide +kernel
theorem dX7_putInOrder_13 : decode cX7_putInOrder 13 = .ok (.iload_n 1, 1) := by decide +kernel
theorem dX7_putInOrder_14 : decode cX7_putInOrder 14 = .ok (.invokevirtual 54, 3) := by decide +kernel
theorem dX7_putInOrder_17 : decode cX7_putInOrder 17 = .ok (.ifCond .eq 29, 3) := by decide +kernel
theorem dX7_putInOrder_20 : decode cX7_putInOrder 20 = .ok (.aload_n 0, 1) := by decide +kernel
theorem dX7_putInOrder_21 : decode cX7_putInOrder 21 = .ok (.getfield 48, 3) := by decide +kernel
theorem dX7_putInOrder_24 : decode cX7_putInOrder 24 = .ok (.iload_n 2, 1) := by decide +kernel
theorem dX7_putInOrder_25 : decode cX7_putInOrder 25 = .ok (.iload_n 1, 1) := by decide +kernel
theorem dX7_putInOrder_26 : decode cX7_putInOrder 26 = .ok (.iastore, 1) := by decide +kernel
theorem dX7_putInOrder_27 : decode cX7_putInOrder 27 = .ok (.aload_n 0, 1) := by decide +kernel
theorem dX7_putInOrder_28 : decode cX7_putInOrder 28 = .ok (.getfield 51, 3) := by decide +kernel
theorem dX7_putInOrder_31 : decode cX7_putInOrder 31 = .ok (.iload_n 1, 1) := by decide +kernel
theorem dX7_putInOrder_32 : decode cX7_putInOrder 32 = .ok (.iload_n 2, 1) := by decide +kernel
theorem dX7_putInOrder_33 : decode cX7_putInOrder 33 = .ok (.iastore, 1) := by decide +kernel
theorem dX7_putInOrder_34 : decode cX7_putInOrder 34 = .ok (.aload_n 0, 1) := by decide +kernel
theorem dX7_putInOrder_35 : decode cX7_putInOrder 35 = .ok (.iload_n 1, 1) := by decide +kernel
theorem dX7_putInOrder_36 : decode cX7_putInOrder 36 = .ok (.invokevirtual 62, 3) := by decide +kernel
theorem dX7_putInOrder_39 : decode cX7_putInOrder 39 = .ok (.istore_n 1, 1) := by decide +kernel
theorem dX7_putInOrder_40 : decode cX7_putInOrder 40 = .ok (.iinc 2 1, 3) := by decide +kernel
theorem dX7_putInOrder_43 : decode cX7_putInOrder 43 = .ok (.goto (-39), 3) := by decide +kernel
theorem dX7_putInOrder_46 : decode cX7_putInOrder 46 = .ok (.return_, 1) := by decide +kernel
theorem dX7_rowBehind_0 : decode cX7_rowBehind 0 = .ok (.aload_n 0, 1) := by decide +kernel
theorem dX7_rowBehind_1 : decode cX7_rowBehind 1 = .ok (.iload_n 1, 1) := by decide +kernel
theorem dX7_rowBehind_2 : decode cX7_rowBehind 2 = .ok (.invokevirtual 66, 3) := by decide +kernel
theorem dX7_rowBehind_5 : decode cX7_rowBehind 5 = .ok (.iconst (-1), 1) := by decide +kernel
theorem dX7_rowBehind_6 : decode cX7_rowBehind 6 = .ok (.if_icmp .eq 9, 3) := by decide +kernel
theorem dX7_rowBehind_9 : decode cX7_rowBehind 9 = .ok (.aload_n 0, 1) := by decide +kernel
theorem dX7_rowBehind_10 : decode cX7_rowBehind 10 = .ok (.iload_n 1, 1) := by decide +kernel
theorem dX7_rowBehind_11 : decode cX7_rowBehind 11 = .ok (.invokevirtual 66, 3) := by decide +kernel
theorem dX7_rowBehind_14 : decode cX7_rowBehind 14 = .ok (.ireturn, 1) := by decide +kernel
theorem dX7_rowBehind_15 : decode cX7_rowBehind 15 = .ok (.iload_n 1, 1) := by decide +kernel
theorem dX7_rowBehind_16 : decode cX7_rowBehind 16 = .ok (.istore_n 2, 1) := by decide +kernel
theorem dX7_rowBehind_17 : decode cX7_rowBehind 17 = .ok (.iconst 0, 1) := by decide +kernel
theorem dX7_rowBehind_18 : decode cX7_rowBehind 18 = .ok (.istore_n 3, 1) := by decide +kernel
theorem dX7_rowBehind_19 : decode cX7_rowBehind 19 = .ok (.iload_n 3, 1) := by decide +kernel
theorem dX7_rowBehind_20 : decode cX7_rowBehind 20 = .ok (.bipush 31, 2) := by decide +kernel
theorem dX7_rowBehind_22 : decode cX7_rowBehind 22 = .ok (.if_icmp .gt 29, 3) := by decide +kernel
theorem dX7_rowBehind_25 : decode cX7_rowBehind 25 = .ok (.iload_n 2, 1) := by decide +kernel
theorem dX7_rowBehind_26 : decode cX7_rowBehind 26 = .ok (.iconst (-1), 1) := by decide +kernel
theorem dX7_rowBehind_27 : decode cX7_rowBehind 27 = .ok (.if_icmp .eq 24, 3) := by decide +kernel
theorem dX7_rowBehind_30 : decode cX7_rowBehind 30 = .ok (.aload_n 0, 1) := by decide +kernel
theorem dX7_rowBehind_31 : decode cX7_rowBehind 31 = .ok (.iload_n 2, 1) := by decide +kernel
theorem dX7_rowBehind_32 : decode cX7_rowBehind 32 = .ok (.invokevirtual 69, 3) := by decide +kernel
theorem dX7_rowBehind_35 : decode cX7_rowBehind 35 = .ok (.iconst (-1), 1) := by decide +kernel
theorem dX7_rowBehind_36 : decode cX7_rowBehind 36 = .ok (.if_icmp .ne 15, 3) := by decide +kernel
theorem dX7_rowBehind_39 : decode cX7_rowBehind 39 = .ok (.aload_n 0, 1) := by decide +kernel
theorem dX7_rowBehind_40 : decode cX7_rowBehind 40 = .ok (.iload_n 2, 1) := by decide +kernel
theorem dX7_rowBehind_41 : decode cX7_rowBehind 41 = .ok (.invokevirtual 72, 3) := by decide +kernel
theorem dX7_rowBehind_44 : decode cX7_rowBehind 44 = .ok (.istore_n 2, 1) := by decide +kernel
theorem dX7_rowBehind_45 : decode cX7_rowBehind 45 = .ok (.iinc 3 1, 3) := by decide +kernel
theorem dX7_rowBehind_48 : decode cX7_rowBehind 48 = .ok (.goto (-29), 3) := by decide +kernel
theorem dX7_rowBehind_51 : decode cX7_rowBehind 51 = .ok (.aload_n 0, 1) := by decide +kernel
theorem dX7_rowBehind_52 : decode cX7_rowBehind 52 = .ok (.iload_n 2, 1) := by decide +kernel
theorem dX7_rowBehind_53 : decode cX7_rowBehind 53 = .ok (.invokevirtual 69, 3) := by decide +kernel
theorem dX7_rowBehind_56 : decode cX7_rowBehind 56 = .ok (.ireturn, 1) := by decide +kernel
def f_X7_clear (b : Nat) (σ : ST) : Option (ST) := some (stI σ b 1 0)

set_option maxRecDepth 100000 in
set_option maxHeartbeats 4000000 in
theorem b_X7_clear_e_50 {p : Program} {l : Launch} {e : Env} {s : State} {m : MethodId} {args : Array Value} {below : List Frame} {meth : Method} {c : Code} {dC : Nat → ClassId} {dI : Nat → Nat → Nat} {a : Nat → Nat} {k : Nat → ClassId} {A : Nat → Prop} {q : ST} (hC : CxA p s m args meth c dC dI k A cX7_clear RX7 none 1)    {σ : ST} (h : f_X7_clear 50  σ = some q) : GoA p l e ({ frames := 0, cells := 0, slots := 0, locals := 0 } : Room) s m args below meth c (MQ below (qAv dC dI a k A q) args s 0 0 A) dC dI a k A 1 0 σ (lv_args 0 [.ref (a 50)]) [] := by
  have hC0 := hC
  obtain ⟨hx, hb, hr, hml, hown, hts, hlocks, hA, hN, hK⟩ := hC0
  intro H locs ls hP hD hS hl
  have hD0 : ∀ σ1 : ST, va_D A (wA a k σ1) := fun σ1 => wA_D hD
  replace hl : lv_has ls 1 [(0, .ref (a 50))] := hl
  unfold f_X7_clear at h
  refine lv_aload_n hx hb dX7_clear_0 rfl (lv_at hl 0 rfl) ?_
  refine lv_iconst (v := 0) hx hb dX7_clear_1 (by decide) ?_
  refine va_put (D := (dC, dI)) (ci := 7) (ty := .int) (C := RX7) (T := TX7) (N := 13) hx hb hts inlX7 tyX7 tyX7_ok nmX7 hown hK hP hD hS 50 gA_50 rfl 1 (by decide) (hts (.fieldLink RX7 9 "ShapeReader$Tree" "size" "I") mw_18_1) (fun _ h9 => h9) rfl (by decide +kernel) rfl rfl (Nat.le_of_ble_eq_true rfl) dX7_clear_2 (fun H locs hP hD hS => ?_)
  replace hP := uA_50_1 hP
  replace hD := hD0 ((stI σ 50 1 0))
  obtain rfl := Option.some.inj h
  exact W.vret hx hb hr (fun t ht hW => ⟨⟨(), rfl, trivial, ⟨by rw [ht]; exact hP, va_K.moved hW.alike hK, hD⟩⟩, hS.F ht⟩) hS.2.2 dX7_clear_5

theorem s_X7_clear_50 {l : Launch} {dC : Nat → ClassId} {dI : Nat → Nat → Nat} {a : Nat → Nat} {k : Nat → ClassId} {sz : Nat}  {σ : ST} {q : ST} (h : f_X7_clear 50  σ = some q) : Met l yX7_clear (.code yX7_clear cX7_clear 1 none :: pw) ({ frames := 0, cells := 0, slots := 0, locals := 0 } : Room) (va_Pc [.ref (a 50)] (vPre dC dI (wA a k σ) (tA k) sz)) (qAv dC dI a k (va_A (wA a k σ) sz) q) 0 0 (va_A (wA a k σ) sz) := metA (fun A => qAv dC dI a k A q) (plainFor_of_name (by decide)) (Nat.le_of_ble_eq_true rfl) (fun _ _ _ _ _ _ _ _ hC => b_X7_clear_e_50 hC h)

set_option maxRecDepth 100000 in
set_option maxHeartbeats 4000000 in
theorem b_X7_clear_e_62 {p : Program} {l : Launch} {e : Env} {s : State} {m : MethodId} {args : Array Value} {below : List Frame} {meth : Method} {c : Code} {dC : Nat → ClassId} {dI : Nat → Nat → Nat} {a : Nat → Nat} {k : Nat → ClassId} {A : Nat → Prop} {q : ST} (hC : CxA p s m args meth c dC dI k A cX7_clear RX7 none 1)    {σ : ST} (h : f_X7_clear 62  σ = some q) : GoA p l e ({ frames := 0, cells := 0, slots := 0, locals := 0 } : Room) s m args below meth c (MQ below (qAv dC dI a k A q) args s 0 0 A) dC dI a k A 1 0 σ (lv_args 0 [.ref (a 62)]) [] := by
  have hC0 := hC
  obtain ⟨hx, hb, hr, hml, hown, hts, hlocks, hA, hN, hK⟩ := hC0
  intro H locs ls hP hD hS hl
  have hD0 : ∀ σ1 : ST, va_D A (wA a k σ1) := fun σ1 => wA_D hD
  replace hl : lv_has ls 1 [(0, .ref (a 62))] := hl
  unfold f_X7_clear at h
  refine lv_aload_n hx hb dX7_clear_0 rfl (lv_at hl 0 rfl) ?_
  refine lv_iconst (v := 0) hx hb dX7_clear_1 (by decide) ?_
  refine va_put (D := (dC, dI)) (ci := 7) (ty := .int) (C := RX7) (T := TX7) (N := 13) hx hb hts inlX7 tyX7 tyX7_ok nmX7 hown hK hP hD hS 62 gA_62 rfl 1 (by decide) (hts (.fieldLink RX7 9 "ShapeReader$Tree" "size" "I") mw_18_1) (fun _ h9 => h9) rfl (by decide +kernel) rfl rfl (Nat.le_of_ble_eq_true rfl) dX7_clear_2 (fun H locs hP hD hS => ?_)
  replace hP := uA_62_1 hP
  replace hD := hD0 ((stI σ 62 1 0))
  obtain rfl := Option.some.inj h
  exact W.vret hx hb hr (fun t ht hW => ⟨⟨(), rfl, trivial, ⟨by rw [ht]; exact hP, va_K.moved hW.alike hK, hD⟩⟩, hS.F ht⟩) hS.2.2 dX7_clear_5

theorem s_X7_clear_62 {l : Launch} {dC : Nat → ClassId} {dI : Nat → Nat → Nat} {a : Nat → Nat} {k : Nat → ClassId} {sz : Nat}  {σ : ST} {q : ST} (h : f_X7_clear 62  σ = some q) : Met l yX7_clear (.code yX7_clear cX7_clear 1 none :: pw) ({ frames := 0, cells := 0, slots := 0, locals := 0 } : Room) (va_Pc [.ref (a 62)] (vPre dC dI (wA a k σ) (tA k) sz)) (qAv dC dI a k (va_A (wA a k σ) sz) q) 0 0 (va_A (wA a k σ) sz) := metA (fun A => qAv dC dI a k A q) (plainFor_of_name (by decide)) (Nat.le_of_ble_eq_true rfl) (fun _ _ _ _ _ _ _ _ hC => b_X7_clear_e_62 hC h)

set_option maxRecDepth 100000 in
set_option maxHeartbeats 4000000 in
theorem b_X7_clear_e_74 {p : Program} {l : Launch} {e : Env} {s : State} {m : MethodId} {args : Array Value} {below : List Frame} {meth : Method} {c : Code} {dC : Nat → ClassId} {dI : Nat → Nat → Nat} {a : Nat → Nat} {k : Nat → ClassId} {A : Nat → Prop} {q : ST} (hC : CxA p s m args meth c dC dI k A cX7_clear RX7 none 1)    {σ : ST} (h : f_X7_clear 74  σ = some q) : GoA p l e ({ frames := 0, cells := 0, slots := 0, locals := 0 } : Room) s m args below meth c (MQ below (qAv dC dI a k A q) args s 0 0 A) dC dI a k A 1 0 σ (lv_args 0 [.ref (a 74)]) [] := by
  have hC0 := hC
  obtain ⟨hx, hb, hr, hml, hown, hts, hlocks, hA, hN, hK⟩ := hC0
  intro H locs ls hP hD hS hl
  have hD0 : ∀ σ1 : ST, va_D A (wA a k σ1) := fun σ1 => wA_D hD
  replace hl : lv_has ls 1 [(0, .ref (a 74))] := hl
  unfold f_X7_clear at h
  refine lv_aload_n hx hb dX7_clear_0 rfl (lv_at hl 0 rfl) ?_
  refine lv_iconst (v := 0) hx hb dX7_clear_1 (by decide) ?_
  refine va_put (D := (dC, dI)) (ci := 7) (ty := .int) (C := RX7) (T := TX7) (N := 13) hx hb hts inlX7 tyX7 tyX7_ok nmX7 hown hK hP hD hS 74 gA_74 rfl 1 (by decide) (hts (.fieldLink RX7 9 "ShapeReader$Tree" "size" "I") mw_18_1) (fun _ h9 => h9) rfl (by decide +kernel) rfl rfl (Nat.le_of_ble_eq_true rfl) dX7_clear_2 (fun H locs hP hD hS => ?_)
  replace hP := uA_74_1 hP
  replace hD := hD0 ((stI σ 74 1 0))
  obtain rfl := Option.some.inj h
  exact W.vret hx hb hr (fun t ht hW => ⟨⟨(), rfl, trivial, ⟨by rw [ht]; exact hP, va_K.moved hW.alike hK, hD⟩⟩, hS.F ht⟩) hS.2.2 dX7_clear_5

theorem s_X7_clear_74 {l : Launch} {dC : Nat → ClassId} {dI : Nat → Nat → Nat} {a : Nat → Nat} {k : Nat → ClassId} {sz : Nat}  {σ : ST} {q : ST} (h : f_X7_clear 74  σ = some q) : Met l yX7_clear (.code yX7_clear cX7_clear 1 none :: pw) ({ frames := 0, cells := 0, slots := 0, locals := 0 } : Room) (va_Pc [.ref (a 74)] (vPre dC dI (wA a k σ) (tA k) sz)) (qAv dC dI a k (va_A (wA a k σ) sz) q) 0 0 (va_A (wA a k σ) sz) := metA (fun A => qAv dC dI a k A q) (plainFor_of_name (by decide)) (Nat.le_of_ble_eq_true rfl) (fun _ _ _ _ _ _ _ _ hC => b_X7_clear_e_74 hC h)

def f_X7_firstOf (b : Nat) (p0 : Int32) (σ : ST) : Option (Int32 × ST) := (f_X7_isRow b p0 σ).bind fun q1 => if q1.1 = 0 then (some ((-1), q1.2)) else (if 0 ≤ p0.toInt ∧ p0.toInt < (ln7 b : Nat) then (some ((q1.2.1 (b + 7) p0.toNatClampNeg), q1.2)) else none)

set_option maxRecDepth 100000 in
set_option maxHeartbeats 4000000 in
theorem b_X7_firstOf_e_50 {p : Program} {l : Launch} {e : Env} {s : State} {m : MethodId} {args : Array Value} {below : List Frame} {meth : Method} {c : Code} {dC : Nat → ClassId} {dI : Nat → Nat → Nat} {a : Nat → Nat} {k : Nat → ClassId} {A : Nat → Prop} {q : Int32 × ST} (hC : CxA p s m args meth c dC dI k A cX7_firstOf RX7 (some .int) 2)   {p0 : Int32} {σ : ST} (h : f_X7_firstOf 50 p0 σ = some q) : GoA p l e ({ frames := 1, cells := 0, slots := 0, locals := 21 } : Room) s m args below meth c (MQ below (qAi dC dI a k A q) args s 0 0 A) dC dI a k A 2 0 σ (lv_args 0 [.ref (a 50), .int p0]) [] := by
  have hC0 := hC
  obtain ⟨hx, hb, hr, hml, hown, hts, hlocks, hA, hN, hK⟩ := hC0
  intro H locs ls hP hD hS hl
  have hD0 : ∀ σ1 : ST, va_D A (wA a k σ1) := fun σ1 => wA_D hD
  replace hl : lv_has ls 2 [(0, .ref (a 50)), (1, .int p0)] := hl
  unfold f_X7_firstOf at h
  refine lv_aload_n hx hb dX7_firstOf_0 rfl (lv_at hl 0 rfl) ?_
  refine lv_iload_n hx hb dX7_firstOf_1 rfl (lv_at hl 1 rfl) ?_
  obtain ⟨q1, hc, h⟩ := ib h
  have hF := va_frees hD hS hA
  refine va_calli (va_runV (As := [.int p0]) (rest := []) ⟨hx, hb, hml, hown, hts⟩ (s_X7_isRow_50 hc) (cwV 1 hts (gV mw_18_14 mw_18_15 mw_18_16 mw_0_11 mw_51_24) rfl rfl rfl (by decide +kernel) ⟨(Nat.le_of_ble_eq_true rfl), (Nat.le_of_ble_eq_true rfl)⟩) (vV (ci := 7) (q0 := 50) hK hP hD hN rfl gA_50) rfl rfl hl.1 rfl (lv_room (Nat.le_of_ble_eq_true rfl)) dX7_firstOf_2 ⟨(Nat.le_of_ble_eq_true rfl), (Nat.le_of_ble_eq_true rfl)⟩) hS (fun q _ h => hF q h) hF (fun r2 u t H locs ht hvm hw hB _ _ hS => ?_)
  obtain rfl : r2 = q1.1 := hw
  replace hP : va_P (dC, dI) vwCl (wA a k q1.2) H := by rw [← ht]; exact hB.1
  replace hD := hD0 (q1.2)
  clear hB hF
  refine lv_if_eq (tgt := 17) hx hb dX7_firstOf_5 (by decide) (fun hc => ?_) (fun hc => ?_)
  · replace h := ip hc h
    refine lv_iconst (v := (-1)) hx hb dX7_firstOf_17 (by decide) ?_
    obtain rfl := Option.some.inj h
    exact W.iret hx hb hr (fun t ht hW => ⟨⟨_, (), rfl, rfl, ⟨by rw [ht]; exact hP, va_K.moved hW.alike hK, hD⟩⟩, hS.F ht⟩) hS.2.2 dX7_firstOf_18
  · replace h := iq hc h
    refine lv_aload_n hx hb dX7_firstOf_8 rfl (lv_at hl 0 rfl) ?_
    refine va_get (D := (dC, dI)) (ci := 7) (C := RX7) (T := TX7) (N := 13) hx hb hts inlX7 hown hK hP 50 gA_50 rfl 8 (by decide) (hts (.fieldLink RX7 39 "ShapeReader$Tree" "firsts" "[I") mw_18_9) (fun _ h9 => h9) rfl dX7_firstOf_9 ?_
    refine lv_iload_n hx hb dX7_firstOf_12 rfl (lv_at hl 1 rfl) ?_
    obtain ⟨hg3, h⟩ := ig h
    refine va_iald hx hb hK hP 57 48 gA_57 yA_57 (vp_in_iff.mpr hg3) dX7_firstOf_13 ?_
    refine lv_goto (tgt := 18) hx hb dX7_firstOf_14 (by decide) ?_
    obtain rfl := Option.some.inj h
    exact W.iret hx hb hr (fun t ht hW => ⟨⟨_, (), rfl, rfl, ⟨by rw [ht]; exact hP, va_K.moved hW.alike hK, hD⟩⟩, hS.F ht⟩) hS.2.2 dX7_firstOf_18

theorem s_X7_firstOf_50 {l : Launch} {dC : Nat → ClassId} {dI : Nat → Nat → Nat} {a : Nat → Nat} {k : Nat → ClassId} {sz : Nat} {p0 : Int32} {σ : ST} {q : Int32 × ST} (h : f_X7_firstOf 50 p0 σ = some q) : Met l yX7_firstOf (.code yX7_firstOf cX7_firstOf 2 (some .int) :: pw) ({ frames := 1, cells := 0, slots := 0, locals := 21 } : Room) (va_Pc [.ref (a 50), .int p0] (vPre dC dI (wA a k σ) (tA k) sz)) (qAi dC dI a k (va_A (wA a k σ) sz) q) 0 0 (va_A (wA a k σ) sz) := metA (fun A => qAi dC dI a k A q) (plainFor_of_name (by decide)) (Nat.le_of_ble_eq_true rfl) (fun _ _ _ _ _ _ _ _ hC => b_X7_firstOf_e_50 hC h)

set_option maxRecDepth 100000 in
set_option maxHeartbeats 4000000 in
theorem b_X7_firstOf_e_62 {p : Program} {l : Launch} {e : Env} {s : State} {m : MethodId} {args : Array Value} {below : List Frame} {meth : Method} {c : Code} {dC : Nat → ClassId} {dI : Nat → Nat → Nat} {a : Nat → Nat} {k : Nat → ClassId} {A : Nat → Prop} {q : Int32 × ST} (hC : CxA p s m args meth c dC dI k A cX7_firstOf RX7 (some .int) 2)   {p0 : Int32} {σ : ST} (h : f_X7_firstOf 62 p0 σ = some q) : GoA p l e ({ frames := 1, cells := 0, slots := 0, locals := 21 } : Room) s m args below meth c (MQ below (qAi dC dI a k A q) args s 0 0 A) dC dI a k A 2 0 σ (lv_args 0 [.ref (a 62), .int p0]) [] := by
  have hC0 := hC
  obtain ⟨hx, hb, hr, hml, hown, hts, hlocks, hA, hN, hK⟩ := hC0
  intro H locs ls hP hD hS hl
  have hD0 : ∀ σ1 : ST, va_D A (wA a k σ1) := fun σ1 => wA_D hD
  replace hl : lv_has ls 2 [(0, .ref (a 62)), (1, .int p0)] := hl
  unfold f_X7_firstOf at h
  refine lv_aload_n hx hb dX7_firstOf_0 rfl (lv_at hl 0 rfl) ?_
  refine lv_iload_n hx hb dX7_firstOf_1 rfl (lv_at hl 1 rfl) ?_
  obtain ⟨q1, hc, h⟩ := ib h
  have hF := va_frees hD hS hA
  refine va_calli (va_runV (As := [.int p0]) (rest := []) ⟨hx, hb, hml, hown, hts⟩ (s_X7_isRow_62 hc) (cwV 1 hts (gV mw_18_14 mw_18_15 mw_18_16 mw_0_11 mw_51_24) rfl rfl rfl (by decide +kernel) ⟨(Nat.le_of_ble_eq_true rfl), (Nat.le_of_ble_eq_true rfl)⟩) (vV (ci := 7) (q0 := 62) hK hP hD hN rfl gA_62) rfl rfl hl.1 rfl (lv_room (Nat.le_of_ble_eq_true rfl)) dX7_firstOf_2 ⟨(Nat.le_of_ble_eq_true rfl), (Nat.le_of_ble_eq_true rfl)⟩) hS (fun q _ h => hF q h) hF (fun r2 u t H locs ht hvm hw hB _ _ hS => ?_)
  obtain rfl : r2 = q1.1 := hw
  replace hP : va_P (dC, dI) vwCl (wA a k q1.2) H := by rw [← ht]; exact hB.1
  replace hD := hD0 (q1.2)
  clear hB hF
  refine lv_if_eq (tgt := 17) hx hb dX7_firstOf_5 (by decide) (fun hc => ?_) (fun hc => ?_)
  · replace h := ip hc h
    refine lv_iconst (v := (-1)) hx hb dX7_firstOf_17 (by decide) ?_
    obtain rfl := Option.some.inj h
    exact W.iret hx hb hr (fun t ht hW => ⟨⟨_, (), rfl, rfl, ⟨by rw [ht]; exact hP, va_K.moved hW.alike hK, hD⟩⟩, hS.F ht⟩) hS.2.2 dX7_firstOf_18
  · replace h := iq hc h
    refine lv_aload_n hx hb dX7_firstOf_8 rfl (lv_at hl 0 rfl) ?_
    refine va_get (D := (dC, dI)) (ci := 7) (C := RX7) (T := TX7) (N := 13) hx hb hts inlX7 hown hK hP 62 gA_62 rfl 8 (by decide) (hts (.fieldLink RX7 39 "ShapeReader$Tree" "firsts" "[I") mw_18_9) (fun _ h9 => h9) rfl dX7_firstOf_9 ?_
    refine lv_iload_n hx hb dX7_firstOf_12 rfl (lv_at hl 1 rfl) ?_
    obtain ⟨hg3, h⟩ := ig h
    refine va_iald hx hb hK hP 69 59 gA_69 yA_69 (vp_in_iff.mpr hg3) dX7_firstOf_13 ?_
    refine lv_goto (tgt := 18) hx hb dX7_firstOf_14 (by decide) ?_
    obtain rfl := Option.some.inj h
    exact W.iret hx hb hr (fun t ht hW => ⟨⟨_, (), rfl, rfl, ⟨by rw [ht]; exact hP, va_K.moved hW.alike hK, hD⟩⟩, hS.F ht⟩) hS.2.2 dX7_firstOf_18

theorem s_X7_firstOf_62 {l : Launch} {dC : Nat → ClassId} {dI : Nat → Nat → Nat} {a : Nat → Nat} {k : Nat → ClassId} {sz : Nat} {p0 : Int32} {σ : ST} {q : Int32 × ST} (h : f_X7_firstOf 62 p0 σ = some q) : Met l yX7_firstOf (.code yX7_firstOf cX7_firstOf 2 (some .int) :: pw) ({ frames := 1, cells := 0, slots := 0, locals := 21 } : Room) (va_Pc [.ref (a 62), .int p0] (vPre dC dI (wA a k σ) (tA k) sz)) (qAi dC dI a k (va_A (wA a k σ) sz) q) 0 0 (va_A (wA a k σ) sz) := metA (fun A => qAi dC dI a k A q) (plainFor_of_name (by decide)) (Nat.le_of_ble_eq_true rfl) (fun _ _ _ _ _ _ _ _ hC => b_X7_firstOf_e_62 hC h)

set_option maxRecDepth 100000 in
set_option maxHeartbeats 4000000 in
theorem b_X7_firstOf_e_74 {p : Program} {l : Launch} {e : Env} {s : State} {m : MethodId} {args : Array Value} {below : List Frame} {meth : Method} {c : Code} {dC : Nat → ClassId} {dI : Nat → Nat → Nat} {a : Nat → Nat} {k : Nat → ClassId} {A : Nat → Prop} {q : Int32 × ST} (hC : CxA p s m args meth c dC dI k A cX7_firstOf RX7 (some .int) 2)   {p0 : Int32} {σ : ST} (h : f_X7_firstOf 74 p0 σ = some q) : GoA p l e ({ frames := 1, cells := 0, slots := 0, locals := 21 } : Room) s m args below meth c (MQ below (qAi dC dI a k A q) args s 0 0 A) dC dI a k A 2 0 σ (lv_args 0 [.ref (a 74), .int p0]) [] := by
  have hC0 := hC
  obtain ⟨hx, hb, hr, hml, hown, hts, hlocks, hA, hN, hK⟩ := hC0
  intro H locs ls hP hD hS hl
  have hD0 : ∀ σ1 : ST, va_D A (wA a k σ1) := fun σ1 => wA_D hD
  replace hl : lv_has ls 2 [(0, .ref (a 74)), (1, .int p0)] := hl
  unfold f_X7_firstOf at h
  refine lv_aload_n hx hb dX7_firstOf_0 rfl (lv_at hl 0 rfl) ?_
  refine lv_iload_n hx hb dX7_firstOf_1 rfl (lv_at hl 1 rfl) ?_
  obtain ⟨q1, hc, h⟩ := ib h
  have hF := va_frees hD hS hA
  refine va_calli (va_runV (As := [.int p0]) (rest := []) ⟨hx, hb, hml, hown, hts⟩ (s_X7_isRow_74 hc) (cwV 1 hts (gV mw_18_14 mw_18_15 mw_18_16 mw_0_11 mw_51_24) rfl rfl rfl (by decide +kernel) ⟨(Nat.le_of_ble_eq_true rfl), (Nat.le_of_ble_eq_true rfl)⟩) (vV (ci := 7) (q0 := 74) hK hP hD hN rfl gA_74) rfl rfl hl.1 rfl (lv_room (Nat.le_of_ble_eq_true rfl)) dX7_firstOf_2 ⟨(Nat.le_of_ble_eq_true rfl), (Nat.le_of_ble_eq_true rfl)⟩) hS (fun q _ h => hF q h) hF (fun r2 u t H locs ht hvm hw hB _ _ hS => ?_)
  obtain rfl : r2 = q1.1 := hw
  replace hP : va_P (dC, dI) vwCl (wA a k q1.2) H := by rw [← ht]; exact hB.1
  replace hD := hD0 (q1.2)
  clear hB hF
  refine lv_if_eq (tgt := 17) hx hb dX7_firstOf_5 (by decide) (fun hc => ?_) (fun hc => ?_)
  · replace h := ip hc h
    refine lv_iconst (v := (-1)) hx hb dX7_firstOf_17 (by decide) ?_
    obtain rfl := Option.some.inj h
    exact W.iret hx hb hr (fun t ht hW => ⟨⟨_, (), rfl, rfl, ⟨by rw [ht]; exact hP, va_K.moved hW.alike hK, hD⟩⟩, hS.F ht⟩) hS.2.2 dX7_firstOf_18
  · replace h := iq hc h
    refine lv_aload_n hx hb dX7_firstOf_8 rfl (lv_at hl 0 rfl) ?_
    refine va_get (D := (dC, dI)) (ci := 7) (C := RX7) (T := TX7) (N := 13) hx hb hts inlX7 hown hK hP 74 gA_74 rfl 8 (by decide) (hts (.fieldLink RX7 39 "ShapeReader$Tree" "firsts" "[I") mw_18_9) (fun _ h9 => h9) rfl dX7_firstOf_9 ?_
    refine lv_iload_n hx hb dX7_firstOf_12 rfl (lv_at hl 1 rfl) ?_
    obtain ⟨hg3, h⟩ := ig h
    refine va_iald hx hb hK hP 81 70 gA_81 yA_81 (vp_in_iff.mpr hg3) dX7_firstOf_13 ?_
    refine lv_goto (tgt := 18) hx hb dX7_firstOf_14 (by decide) ?_
    obtain rfl := Option.some.inj h
    exact W.iret hx hb hr (fun t ht hW => ⟨⟨_, (), rfl, rfl, ⟨by rw [ht]; exact hP, va_K.moved hW.alike hK, hD⟩⟩, hS.F ht⟩) hS.2.2 dX7_firstOf_18

theorem s_X7_firstOf_74 {l : Launch} {dC : Nat → ClassId} {dI : Nat → Nat → Nat} {a : Nat → Nat} {k : Nat → ClassId} {sz : Nat} {p0 : Int32} {σ : ST} {q : Int32 × ST} (h : f_X7_firstOf 74 p0 σ = some q) : Met l yX7_firstOf (.code yX7_firstOf cX7_firstOf 2 (some .int) :: pw) ({ frames := 1, cells := 0, slots := 0, locals := 21 } : Room) (va_Pc [.ref (a 74), .int p0] (vPre dC dI (wA a k σ) (tA k) sz)) (qAi dC dI a k (va_A (wA a k σ) sz) q) 0 0 (va_A (wA a k σ) sz) := metA (fun A => qAi dC dI a k A q) (plainFor_of_name (by decide)) (Nat.le_of_ble_eq_true rfl) (fun _ _ _ _ _ _ _ _ hC => b_X7_firstOf_e_74 hC h)

def f_X7_nextOf (b : Nat) (p0 : Int32) (σ : ST) : Option (Int32 × ST) := (f_X7_isRow b p0 σ).bind fun q1 => if q1.1 = 0 then (some ((-1), q1.2)) else (if 0 ≤ p0.toInt ∧ p0.toInt < (ln7 b : Nat) then (some ((q1.2.1 (b + 9) p0.toNatClampNeg), q1.2)) else none)

set_option maxRecDepth 100000 in
set_option maxHeartbeats 4000000 in
theorem b_X7_nextOf_e_50 {p : Program} {l : Launch} {e : Env} {s : State} {m : MethodId} {args : Array Value} {below : List Frame} {meth : Method} {c : Code} {dC : Nat → ClassId} {dI : Nat → Nat → Nat} {a : Nat → Nat} {k : Nat → ClassId} {A : Nat → Prop} {q : Int32 × ST} (hC : CxA p s m args meth c dC dI k A cX7_nextOf RX7 (some .int) 2)   {p0 : Int32} {σ : ST} (h : f_X7_nextOf 50 p0 σ = some q) : GoA p l e ({ frames := 1, cells := 0, slots := 0, locals := 21 } : Room) s m args below meth c (MQ below (qAi dC dI a k A q) args s 0 0 A) dC dI a k A 2 0 σ (lv_args 0 [.ref (a 50), .int p0]) [] := by
  have hC0 := hC
  obtain ⟨hx, hb, hr, hml, hown, hts, hlocks, hA, hN, hK⟩ := hC0
  intro H locs ls hP hD hS hl
  have hD0 : ∀ σ1 : ST, va_D A (wA a k σ1) := fun σ1 => wA_D hD
  replace hl : lv_has ls 2 [(0, .ref (a 50)), (1, .int p0)] := hl
  unfold f_X7_nextOf at h
  refine lv_aload_n hx hb dX7_nextOf_0 rfl (lv_at hl 0 rfl) ?_
  refine lv_iload_n hx hb dX7_nextOf_1 rfl (lv_at hl 1 rfl) ?_
  obtain ⟨q1, hc, h⟩ := ib h
  have hF := va_frees hD hS hA
  refine va_calli (va_runV (As := [.int p0]) (rest := []) ⟨hx, hb, hml, hown, hts⟩ (s_X7_isRow_50 hc) (cwV 1 hts (gV mw_18_14 mw_18_15 mw_18_16 mw_0_11 mw_51_24) rfl rfl rfl (by decide +kernel) ⟨(Nat.le_of_ble_eq_true rfl), (Nat.le_of_ble_eq_true rfl)⟩) (vV (ci := 7) (q0 := 50) hK hP hD hN rfl gA_50) rfl rfl hl.1 rfl (lv_room (Nat.le_of_ble_eq_true rfl)) dX7_nextOf_2 ⟨(Nat.le_of_ble_eq_true rfl), (Nat.le_of_ble_eq_true rfl)⟩) hS (fun q _ h => hF q h) hF (fun r2 u t H locs ht hvm hw hB _ _ hS => ?_)
  obtain rfl : r2 = q1.1 := hw
  replace hP : va_P (dC, dI) vwCl (wA a k q1.2) H := by rw [← ht]; exact hB.1
  replace hD := hD0 (q1.2)
  clear hB hF
  refine lv_if_eq (tgt := 17) hx hb dX7_nextOf_5 (by decide) (fun hc => ?_) (fun hc => ?_)
  · replace h := ip hc h
    refine lv_iconst (v := (-1)) hx hb dX7_nextOf_17 (by decide) ?_
    obtain rfl := Option.some.inj h
    exact W.iret hx hb hr (fun t ht hW => ⟨⟨_, (), rfl, rfl, ⟨by rw [ht]; exact hP, va_K.moved hW.alike hK, hD⟩⟩, hS.F ht⟩) hS.2.2 dX7_nextOf_18
  · replace h := iq hc h
    refine lv_aload_n hx hb dX7_nextOf_8 rfl (lv_at hl 0 rfl) ?_
    refine va_get (D := (dC, dI)) (ci := 7) (C := RX7) (T := TX7) (N := 13) hx hb hts inlX7 hown hK hP 50 gA_50 rfl 10 (by decide) (hts (.fieldLink RX7 45 "ShapeReader$Tree" "nexts" "[I") mw_18_11) (fun _ h9 => h9) rfl dX7_nextOf_9 ?_
    refine lv_iload_n hx hb dX7_nextOf_12 rfl (lv_at hl 1 rfl) ?_
    obtain ⟨hg3, h⟩ := ig h
    refine va_iald hx hb hK hP 59 50 gA_59 yA_59 (vp_in_iff.mpr hg3) dX7_nextOf_13 ?_
    refine lv_goto (tgt := 18) hx hb dX7_nextOf_14 (by decide) ?_
    obtain rfl := Option.some.inj h
    exact W.iret hx hb hr (fun t ht hW => ⟨⟨_, (), rfl, rfl, ⟨by rw [ht]; exact hP, va_K.moved hW.alike hK, hD⟩⟩, hS.F ht⟩) hS.2.2 dX7_nextOf_18

theorem s_X7_nextOf_50 {l : Launch} {dC : Nat → ClassId} {dI : Nat → Nat → Nat} {a : Nat → Nat} {k : Nat → ClassId} {sz : Nat} {p0 : Int32} {σ : ST} {q : Int32 × ST} (h : f_X7_nextOf 50 p0 σ = some q) : Met l yX7_nextOf (.code yX7_nextOf cX7_nextOf 2 (some .int) :: pw) ({ frames := 1, cells := 0, slots := 0, locals := 21 } : Room) (va_Pc [.ref (a 50), .int p0] (vPre dC dI (wA a k σ) (tA k) sz)) (qAi dC dI a k (va_A (wA a k σ) sz) q) 0 0 (va_A (wA a k σ) sz) := metA (fun A => qAi dC dI a k A q) (plainFor_of_name (by decide)) (Nat.le_of_ble_eq_true rfl) (fun _ _ _ _ _ _ _ _ hC => b_X7_nextOf_e_50 hC h)

set_option maxRecDepth 100000 in
set_option maxHeartbeats 4000000 in
theorem b_X7_nextOf_e_62 {p : Program} {l : Launch} {e : Env} {s : State} {m : MethodId} {args : Array Value} {below : List Frame} {meth : Method} {c : Code} {dC : Nat → ClassId} {dI : Nat → Nat → Nat} {a : Nat → Nat} {k : Nat → ClassId} {A : Nat → Prop} {q : Int32 × ST} (hC : CxA p s m args meth c dC dI k A cX7_nextOf RX7 (some .int) 2)   {p0 : Int32} {σ : ST} (h : f_X7_nextOf 62 p0 σ = some q) : GoA p l e ({ frames := 1, cells := 0, slots := 0, locals := 21 } : Room) s m args below meth c (MQ below (qAi dC dI a k A q) args s 0 0 A) dC dI a k A 2 0 σ (lv_args 0 [.ref (a 62), .int p0]) [] := by
  have hC0 := hC
  obtain ⟨hx, hb, hr, hml, hown, hts, hlocks, hA, hN, hK⟩ := hC0
  intro H locs ls hP hD hS hl
  have hD0 : ∀ σ1 : ST, va_D A (wA a k σ1) := fun σ1 => wA_D hD
  replace hl : lv_has ls 2 [(0, .ref (a 62)), (1, .int p0)] := hl
  unfold f_X7_nextOf at h
  refine lv_aload_n hx hb dX7_nextOf_0 rfl (lv_at hl 0 rfl) ?_
  refine lv_iload_n hx hb dX7_nextOf_1 rfl (lv_at hl 1 rfl) ?_
  obtain ⟨q1, hc, h⟩ := ib h
  have hF := va_frees hD hS hA
  refine va_calli (va_runV (As := [.int p0]) (rest := []) ⟨hx, hb, hml, hown, hts⟩ (s_X7_isRow_62 hc) (cwV 1 hts (gV mw_18_14 mw_18_15 mw_18_16 mw_0_11 mw_51_24) rfl rfl rfl (by decide +kernel) ⟨(Nat.le_of_ble_eq_true rfl), (Nat.le_of_ble_eq_true rfl)⟩) (vV (ci := 7) (q0 := 62) hK hP hD hN rfl gA_62) rfl rfl hl.1 rfl (lv_room (Nat.le_of_ble_eq_true rfl)) dX7_nextOf_2 ⟨(Nat.le_of_ble_eq_true rfl), (Nat.le_of_ble_eq_true rfl)⟩) hS (fun q _ h => hF q h) hF (fun r2 u t H locs ht hvm hw hB _ _ hS => ?_)
  obtain rfl : r2 = q1.1 := hw
  replace hP : va_P (dC, dI) vwCl (wA a k q1.2) H := by rw [← ht]; exact hB.1
  replace hD := hD0 (q1.2)
  clear hB hF
  refine lv_if_eq (tgt := 17) hx hb dX7_nextOf_5 (by decide) (fun hc => ?_) (fun hc => ?_)
  · replace h := ip hc h
    refine lv_iconst (v := (-1)) hx hb dX7_nextOf_17 (by decide) ?_
    obtain rfl := Option.some.inj h
    exact W.iret hx hb hr (fun t ht hW => ⟨⟨_, (), rfl, rfl, ⟨by rw [ht]; exact hP, va_K.moved hW.alike hK, hD⟩⟩, hS.F ht⟩) hS.2.2 dX7_nextOf_18
  · replace h := iq hc h
    refine lv_aload_n hx hb dX7_nextOf_8 rfl (lv_at hl 0 rfl) ?_
    refine va_get (D := (dC, dI)) (ci := 7) (C := RX7) (T := TX7) (N := 13) hx hb hts inlX7 hown hK hP 62 gA_62 rfl 10 (by decide) (hts (.fieldLink RX7 45 "ShapeReader$Tree" "nexts" "[I") mw_18_11) (fun _ h9 => h9) rfl dX7_nextOf_9 ?_
    refine lv_iload_n hx hb dX7_nextOf_12 rfl (lv_at hl 1 rfl) ?_
    obtain ⟨hg3, h⟩ := ig h
    refine va_iald hx hb hK hP 71 61 gA_71 yA_71 (vp_in_iff.mpr hg3) dX7_nextOf_13 ?_
    refine lv_goto (tgt := 18) hx hb dX7_nextOf_14 (by decide) ?_
    obtain rfl := Option.some.inj h
    exact W.iret hx hb hr (fun t ht hW => ⟨⟨_, (), rfl, rfl, ⟨by rw [ht]; exact hP, va_K.moved hW.alike hK, hD⟩⟩, hS.F ht⟩) hS.2.2 dX7_nextOf_18

theorem s_X7_nextOf_62 {l : Launch} {dC : Nat → ClassId} {dI : Nat → Nat → Nat} {a : Nat → Nat} {k : Nat → ClassId} {sz : Nat} {p0 : Int32} {σ : ST} {q : Int32 × ST} (h : f_X7_nextOf 62 p0 σ = some q) : Met l yX7_nextOf (.code yX7_nextOf cX7_nextOf 2 (some .int) :: pw) ({ frames := 1, cells := 0, slots := 0, locals := 21 } : Room) (va_Pc [.ref (a 62), .int p0] (vPre dC dI (wA a k σ) (tA k) sz)) (qAi dC dI a k (va_A (wA a k σ) sz) q) 0 0 (va_A (wA a k σ) sz) := metA (fun A => qAi dC dI a k A q) (plainFor_of_name (by decide)) (Nat.le_of_ble_eq_true rfl) (fun _ _ _ _ _ _ _ _ hC => b_X7_nextOf_e_62 hC h)

set_option maxRecDepth 100000 in
set_option maxHeartbeats 4000000 in
theorem b_X7_nextOf_e_74 {p : Program} {l : Launch} {e : Env} {s : State} {m : MethodId} {args : Array Value} {below : List Frame} {meth : Method} {c : Code} {dC : Nat → ClassId} {dI : Nat → Nat → Nat} {a : Nat → Nat} {k : Nat → ClassId} {A : Nat → Prop} {q : Int32 × ST} (hC : CxA p s m args meth c dC dI k A cX7_nextOf RX7 (some .int) 2)   {p0 : Int32} {σ : ST} (h : f_X7_nextOf 74 p0 σ = some q) : GoA p l e ({ frames := 1, cells := 0, slots := 0, locals := 21 } : Room) s m args below meth c (MQ below (qAi dC dI a k A q) args s 0 0 A) dC dI a k A 2 0 σ (lv_args 0 [.ref (a 74), .int p0]) [] := by
  have hC0 := hC
  obtain ⟨hx, hb, hr, hml, hown, hts, hlocks, hA, hN, hK⟩ := hC0
  intro H locs ls hP hD hS hl
  have hD0 : ∀ σ1 : ST, va_D A (wA a k σ1) := fun σ1 => wA_D hD
  replace hl : lv_has ls 2 [(0, .ref (a 74)), (1, .int p0)] := hl
  unfold f_X7_nextOf at h
  refine lv_aload_n hx hb dX7_nextOf_0 rfl (lv_at hl 0 rfl) ?_
  refine lv_iload_n hx hb dX7_nextOf_1 rfl (lv_at hl 1 rfl) ?_
  obtain ⟨q1, hc, h⟩ := ib h
  have hF := va_frees hD hS hA
  refine va_calli (va_runV (As := [.int p0]) (rest := []) ⟨hx, hb, hml, hown, hts⟩ (s_X7_isRow_74 hc) (cwV 1 hts (gV mw_18_14 mw_18_15 mw_18_16 mw_0_11 mw_51_24) rfl rfl rfl (by decide +kernel) ⟨(Nat.le_of_ble_eq_true rfl), (Nat.le_of_ble_eq_true rfl)⟩) (vV (ci := 7) (q0 := 74) hK hP hD hN rfl gA_74) rfl rfl hl.1 rfl (lv_room (Nat.le_of_ble_eq_true rfl)) dX7_nextOf_2 ⟨(Nat.le_of_ble_eq_true rfl), (Nat.le_of_ble_eq_true rfl)⟩) hS (fun q _ h => hF q h) hF (fun r2 u t H locs ht hvm hw hB _ _ hS => ?_)
  obtain rfl : r2 = q1.1 := hw
  replace hP : va_P (dC, dI) vwCl (wA a k q1.2) H := by rw [← ht]; exact hB.1
  replace hD := hD0 (q1.2)
  clear hB hF
  refine lv_if_eq (tgt := 17) hx hb dX7_nextOf_5 (by decide) (fun hc => ?_) (fun hc => ?_)
  · replace h := ip hc h
    refine lv_iconst (v := (-1)) hx hb dX7_nextOf_17 (by decide) ?_
    obtain rfl := Option.some.inj h
    exact W.iret hx hb hr (fun t ht hW => ⟨⟨_, (), rfl, rfl, ⟨by rw [ht]; exact hP, va_K.moved hW.alike hK, hD⟩⟩, hS.F ht⟩) hS.2.2 dX7_nextOf_18
  · replace h := iq hc h
    refine lv_aload_n hx hb dX7_nextOf_8 rfl (lv_at hl 0 rfl) ?_
    refine va_get (D := (dC, dI)) (ci := 7) (C := RX7) (T := TX7) (N := 13) hx hb hts inlX7 hown hK hP 74 gA_74 rfl 10 (by decide) (hts (.fieldLink RX7 45 "ShapeReader$Tree" "nexts" "[I") mw_18_11) (fun _ h9 => h9) rfl dX7_nextOf_9 ?_
    refine lv_iload_n hx hb dX7_nextOf_12 rfl (lv_at hl 1 rfl) ?_
    obtain ⟨hg3, h⟩ := ig h
    refine va_iald hx hb hK hP 83 72 gA_83 yA_83 (vp_in_iff.mpr hg3) dX7_nextOf_13 ?_
    refine lv_goto (tgt := 18) hx hb dX7_nextOf_14 (by decide) ?_
    obtain rfl := Option.some.inj h
    exact W.iret hx hb hr (fun t ht hW => ⟨⟨_, (), rfl, rfl, ⟨by rw [ht]; exact hP, va_K.moved hW.alike hK, hD⟩⟩, hS.F ht⟩) hS.2.2 dX7_nextOf_18

theorem s_X7_nextOf_74 {l : Launch} {dC : Nat → ClassId} {dI : Nat → Nat → Nat} {a : Nat → Nat} {k : Nat → ClassId} {sz : Nat} {p0 : Int32} {σ : ST} {q : Int32 × ST} (h : f_X7_nextOf 74 p0 σ = some q) : Met l yX7_nextOf (.code yX7_nextOf cX7_nextOf 2 (some .int) :: pw) ({ frames := 1, cells := 0, slots := 0, locals := 21 } : Room) (va_Pc [.ref (a 74), .int p0] (vPre dC dI (wA a k σ) (tA k) sz)) (qAi dC dI a k (va_A (wA a k σ) sz) q) 0 0 (va_A (wA a k σ) sz) := metA (fun A => qAi dC dI a k A q) (plainFor_of_name (by decide)) (Nat.le_of_ble_eq_true rfl) (fun _ _ _ _ _ _ _ _ hC => b_X7_nextOf_e_74 hC h)

def f_X7_parentOf (b : Nat) (p0 : Int32) (σ : ST) : Option (Int32 × ST) := (f_X7_isRow b p0 σ).bind fun q1 => if q1.1 = 0 then (some ((-1), q1.2)) else (if 0 ≤ p0.toInt ∧ p0.toInt < (ln7 b : Nat) then (some ((q1.2.1 (b + 2) p0.toNatClampNeg), q1.2)) else none)

set_option maxRecDepth 100000 in
set_option maxHeartbeats 4000000 in
theorem b_X7_parentOf_e_50 {p : Program} {l : Launch} {e : Env} {s : State} {m : MethodId} {args : Array Value} {below : List Frame} {meth : Method} {c : Code} {dC : Nat → ClassId} {dI : Nat → Nat → Nat} {a : Nat → Nat} {k : Nat → ClassId} {A : Nat → Prop} {q : Int32 × ST} (hC : CxA p s m args meth c dC dI k A cX7_parentOf RX7 (some .int) 2)   {p0 : Int32} {σ : ST} (h : f_X7_parentOf 50 p0 σ = some q) : GoA p l e ({ frames := 1, cells := 0, slots := 0, locals := 21 } : Room) s m args below meth c (MQ below (qAi dC dI a k A q) args s 0 0 A) dC dI a k A 2 0 σ (lv_args 0 [.ref (a 50), .int p0]) [] := by
  have hC0 := hC
  obtain ⟨hx, hb, hr, hml, hown, hts, hlocks, hA, hN, hK⟩ := hC0
  intro H locs ls hP hD hS hl
  have hD0 : ∀ σ1 : ST, va_D A (wA a k σ1) := fun σ1 => wA_D hD
  replace hl : lv_has ls 2 [(0, .ref (a 50)), (1, .int p0)] := hl
  unfold f_X7_parentOf at h
  refine lv_aload_n hx hb dX7_parentOf_0 rfl (lv_at hl 0 rfl) ?_
  refine lv_iload_n hx hb dX7_parentOf_1 rfl (lv_at hl 1 rfl) ?_
  obtain ⟨q1, hc, h⟩ := ib h
  have hF := va_frees hD hS hA
  refine va_calli (va_runV (As := [.int p0]) (rest := []) ⟨hx, hb, hml, hown, hts⟩ (s_X7_isRow_50 hc) (cwV 1 hts (gV mw_18_14 mw_18_15 mw_18_16 mw_0_11 mw_51_24) rfl rfl rfl (by decide +kernel) ⟨(Nat.le_of_ble_eq_true rfl), (Nat.le_of_ble_eq_true rfl)⟩) (vV (ci := 7) (q0 := 50) hK hP hD hN rfl gA_50) rfl rfl hl.1 rfl (lv_room (Nat.le_of_ble_eq_true rfl)) dX7_parentOf_2 ⟨(Nat.le_of_ble_eq_true rfl), (Nat.le_of_ble_eq_true rfl)⟩) hS (fun q _ h => hF q h) hF (fun r2 u t H locs ht hvm hw hB _ _ hS => ?_)
  obtain rfl : r2 = q1.1 := hw
  replace hP : va_P (dC, dI) vwCl (wA a k q1.2) H := by rw [← ht]; exact hB.1
  replace hD := hD0 (q1.2)
  clear hB hF
  refine lv_if_eq (tgt := 17) hx hb dX7_parentOf_5 (by decide) (fun hc => ?_) (fun hc => ?_)
  · replace h := ip hc h
    refine lv_iconst (v := (-1)) hx hb dX7_parentOf_17 (by decide) ?_
    obtain rfl := Option.some.inj h
    exact W.iret hx hb hr (fun t ht hW => ⟨⟨_, (), rfl, rfl, ⟨by rw [ht]; exact hP, va_K.moved hW.alike hK, hD⟩⟩, hS.F ht⟩) hS.2.2 dX7_parentOf_18
  · replace h := iq hc h
    refine lv_aload_n hx hb dX7_parentOf_8 rfl (lv_at hl 0 rfl) ?_
    refine va_get (D := (dC, dI)) (ci := 7) (C := RX7) (T := TX7) (N := 13) hx hb hts inlX7 hown hK hP 50 gA_50 rfl 3 (by decide) (hts (.fieldLink RX7 22 "ShapeReader$Tree" "parents" "[I") mw_18_4) (fun _ h9 => h9) rfl dX7_parentOf_9 ?_
    refine lv_iload_n hx hb dX7_parentOf_12 rfl (lv_at hl 1 rfl) ?_
    obtain ⟨hg3, h⟩ := ig h
    refine va_iald hx hb hK hP 52 43 gA_52 yA_52 (vp_in_iff.mpr hg3) dX7_parentOf_13 ?_
    refine lv_goto (tgt := 18) hx hb dX7_parentOf_14 (by decide) ?_
    obtain rfl := Option.some.inj h
    exact W.iret hx hb hr (fun t ht hW => ⟨⟨_, (), rfl, rfl, ⟨by rw [ht]; exact hP, va_K.moved hW.alike hK, hD⟩⟩, hS.F ht⟩) hS.2.2 dX7_parentOf_18

theorem s_X7_parentOf_50 {l : Launch} {dC : Nat → ClassId} {dI : Nat → Nat → Nat} {a : Nat → Nat} {k : Nat → ClassId} {sz : Nat} {p0 : Int32} {σ : ST} {q : Int32 × ST} (h : f_X7_parentOf 50 p0 σ = some q) : Met l yX7_parentOf (.code yX7_parentOf cX7_parentOf 2 (some .int) :: pw) ({ frames := 1, cells := 0, slots := 0, locals := 21 } : Room) (va_Pc [.ref (a 50), .int p0] (vPre dC dI (wA a k σ) (tA k) sz)) (qAi dC dI a k (va_A (wA a k σ) sz) q) 0 0 (va_A (wA a k σ) sz) := metA (fun A => qAi dC dI a k A q) (plainFor_of_name (by decide)) (Nat.le_of_ble_eq_true rfl) (fun _ _ _ _ _ _ _ _ hC => b_X7_parentOf_e_50 hC h)

set_option maxRecDepth 100000 in
set_option maxHeartbeats 4000000 in
theorem b_X7_parentOf_e_62 {p : Program} {l : Launch} {e : Env} {s : State} {m : MethodId} {args : Array Value} {below : List Frame} {meth : Method} {c : Code} {dC : Nat → ClassId} {dI : Nat → Nat → Nat} {a : Nat → Nat} {k : Nat → ClassId} {A : Nat → Prop} {q : Int32 × ST} (hC : CxA p s m args meth c dC dI k A cX7_parentOf RX7 (some .int) 2)   {p0 : Int32} {σ : ST} (h : f_X7_parentOf 62 p0 σ = some q) : GoA p l e ({ frames := 1, cells := 0, slots := 0, locals := 21 } : Room) s m args below meth c (MQ below (qAi dC dI a k A q) args s 0 0 A) dC dI a k A 2 0 σ (lv_args 0 [.ref (a 62), .int p0]) [] := by
  have hC0 := hC
  obtain ⟨hx, hb, hr, hml, hown, hts, hlocks, hA, hN, hK⟩ := hC0
  intro H locs ls hP hD hS hl
  have hD0 : ∀ σ1 : ST, va_D A (wA a k σ1) := fun σ1 => wA_D hD
  replace hl : lv_has ls 2 [(0, .ref (a 62)), (1, .int p0)] := hl
  unfold f_X7_parentOf at h
  refine lv_aload_n hx hb dX7_parentOf_0 rfl (lv_at hl 0 rfl) ?_
  refine lv_iload_n hx hb dX7_parentOf_1 rfl (lv_at hl 1 rfl) ?_
  obtain ⟨q1, hc, h⟩ := ib h
  have hF := va_frees hD hS hA
  refine va_calli (va_runV (As := [.int p0]) (rest := []) ⟨hx, hb, hml, hown, hts⟩ (s_X7_isRow_62 hc) (cwV 1 hts (gV mw_18_14 mw_18_15 mw_18_16 mw_0_11 mw_51_24) rfl rfl rfl (by decide +kernel) ⟨(Nat.le_of_ble_eq_true rfl), (Nat.le_of_ble_eq_true rfl)⟩) (vV (ci := 7) (q0 := 62) hK hP hD hN rfl gA_62) rfl rfl hl.1 rfl (lv_room (Nat.le_of_ble_eq_true rfl)) dX7_parentOf_2 ⟨(Nat.le_of_ble_eq_true rfl), (Nat.le_of_ble_eq_true rfl)⟩) hS (fun q _ h => hF q h) hF (fun r2 u t H locs ht hvm hw hB _ _ hS => ?_)
  obtain rfl : r2 = q1.1 := hw
  replace hP : va_P (dC, dI) vwCl (wA a k q1.2) H := by rw [← ht]; exact hB.1
  replace hD := hD0 (q1.2)
  clear hB hF
  refine lv_if_eq (tgt := 17) hx hb dX7_parentOf_5 (by decide) (fun hc => ?_) (fun hc => ?_)
  · replace h := ip hc h
    refine lv_iconst (v := (-1)) hx hb dX7_parentOf_17 (by decide) ?_
    obtain rfl := Option.some.inj h
    exact W.iret hx hb hr (fun t ht hW => ⟨⟨_, (), rfl, rfl, ⟨by rw [ht]; exact hP, va_K.moved hW.alike hK, hD⟩⟩, hS.F ht⟩) hS.2.2 dX7_parentOf_18
  · replace h := iq hc h
    refine lv_aload_n hx hb dX7_parentOf_8 rfl (lv_at hl 0 rfl) ?_
    refine va_get (D := (dC, dI)) (ci := 7) (C := RX7) (T := TX7) (N := 13) hx hb hts inlX7 hown hK hP 62 gA_62 rfl 3 (by decide) (hts (.fieldLink RX7 22 "ShapeReader$Tree" "parents" "[I") mw_18_4) (fun _ h9 => h9) rfl dX7_parentOf_9 ?_
    refine lv_iload_n hx hb dX7_parentOf_12 rfl (lv_at hl 1 rfl) ?_
    obtain ⟨hg3, h⟩ := ig h
    refine va_iald hx hb hK hP 64 54 gA_64 yA_64 (vp_in_iff.mpr hg3) dX7_parentOf_13 ?_
    refine lv_goto (tgt := 18) hx hb dX7_parentOf_14 (by decide) ?_
    obtain rfl := Option.some.inj h
    exact W.iret hx hb hr (fun t ht hW => ⟨⟨_, (), rfl, rfl, ⟨by rw [ht]; exact hP, va_K.moved hW.alike hK, hD⟩⟩, hS.F ht⟩) hS.2.2 dX7_parentOf_18

theorem s_X7_parentOf_62 {l : Launch} {dC : Nat → ClassId} {dI : Nat → Nat → Nat} {a : Nat → Nat} {k : Nat → ClassId} {sz : Nat} {p0 : Int32} {σ : ST} {q : Int32 × ST} (h : f_X7_parentOf 62 p0 σ = some q) : Met l yX7_parentOf (.code yX7_parentOf cX7_parentOf 2 (some .int) :: pw) ({ frames := 1, cells := 0, slots := 0, locals := 21 } : Room) (va_Pc [.ref (a 62), .int p0] (vPre dC dI (wA a k σ) (tA k) sz)) (qAi dC dI a k (va_A (wA a k σ) sz) q) 0 0 (va_A (wA a k σ) sz) := metA (fun A => qAi dC dI a k A q) (plainFor_of_name (by decide)) (Nat.le_of_ble_eq_true rfl) (fun _ _ _ _ _ _ _ _ hC => b_X7_parentOf_e_62 hC h)

set_option maxRecDepth 100000 in
set_option maxHeartbeats 4000000 in
theorem b_X7_parentOf_e_74 {p : Program} {l : Launch} {e : Env} {s : State} {m : MethodId} {args : Array Value} {below : List Frame} {meth : Method} {c : Code} {dC : Nat → ClassId} {dI : Nat → Nat → Nat} {a : Nat → Nat} {k : Nat → ClassId} {A : Nat → Prop} {q : Int32 × ST} (hC : CxA p s m args meth c dC dI k A cX7_parentOf RX7 (some .int) 2)   {p0 : Int32} {σ : ST} (h : f_X7_parentOf 74 p0 σ = some q) : GoA p l e ({ frames := 1, cells := 0, slots := 0, locals := 21 } : Room) s m args below meth c (MQ below (qAi dC dI a k A q) args s 0 0 A) dC dI a k A 2 0 σ (lv_args 0 [.ref (a 74), .int p0]) [] := by
  have hC0 := hC
  obtain ⟨hx, hb, hr, hml, hown, hts, hlocks, hA, hN, hK⟩ := hC0
  intro H locs ls hP hD hS hl
  have hD0 : ∀ σ1 : ST, va_D A (wA a k σ1) := fun σ1 => wA_D hD
  replace hl : lv_has ls 2 [(0, .ref (a 74)), (1, .int p0)] := hl
  unfold f_X7_parentOf at h
  refine lv_aload_n hx hb dX7_parentOf_0 rfl (lv_at hl 0 rfl) ?_
  refine lv_iload_n hx hb dX7_parentOf_1 rfl (lv_at hl 1 rfl) ?_
  obtain ⟨q1, hc, h⟩ := ib h
  have hF := va_frees hD hS hA
  refine va_calli (va_runV (As := [.int p0]) (rest := []) ⟨hx, hb, hml, hown, hts⟩ (s_X7_isRow_74 hc) (cwV 1 hts (gV mw_18_14 mw_18_15 mw_18_16 mw_0_11 mw_51_24) rfl rfl rfl (by decide +kernel) ⟨(Nat.le_of_ble_eq_true rfl), (Nat.le_of_ble_eq_true rfl)⟩) (vV (ci := 7) (q0 := 74) hK hP hD hN rfl gA_74) rfl rfl hl.1 rfl (lv_room (Nat.le_of_ble_eq_true rfl)) dX7_parentOf_2 ⟨(Nat.le_of_ble_eq_true rfl), (Nat.le_of_ble_eq_true rfl)⟩) hS (fun q _ h => hF q h) hF (fun r2 u t H locs ht hvm hw hB _ _ hS => ?_)
  obtain rfl : r2 = q1.1 := hw
  replace hP : va_P (dC, dI) vwCl (wA a k q1.2) H := by rw [← ht]; exact hB.1
  replace hD := hD0 (q1.2)
  clear hB hF
  refine lv_if_eq (tgt := 17) hx hb dX7_parentOf_5 (by decide) (fun hc => ?_) (fun hc => ?_)
  · replace h := ip hc h
    refine lv_iconst (v := (-1)) hx hb dX7_parentOf_17 (by decide) ?_
    obtain rfl := Option.some.inj h
    exact W.iret hx hb hr (fun t ht hW => ⟨⟨_, (), rfl, rfl, ⟨by rw [ht]; exact hP, va_K.moved hW.alike hK, hD⟩⟩, hS.F ht⟩) hS.2.2 dX7_parentOf_18
  · replace h := iq hc h
    refine lv_aload_n hx hb dX7_parentOf_8 rfl (lv_at hl 0 rfl) ?_
    refine va_get (D := (dC, dI)) (ci := 7) (C := RX7) (T := TX7) (N := 13) hx hb hts inlX7 hown hK hP 74 gA_74 rfl 3 (by decide) (hts (.fieldLink RX7 22 "ShapeReader$Tree" "parents" "[I") mw_18_4) (fun _ h9 => h9) rfl dX7_parentOf_9 ?_
    refine lv_iload_n hx hb dX7_parentOf_12 rfl (lv_at hl 1 rfl) ?_
    obtain ⟨hg3, h⟩ := ig h
    refine va_iald hx hb hK hP 76 65 gA_76 yA_76 (vp_in_iff.mpr hg3) dX7_parentOf_13 ?_
    refine lv_goto (tgt := 18) hx hb dX7_parentOf_14 (by decide) ?_
    obtain rfl := Option.some.inj h
    exact W.iret hx hb hr (fun t ht hW => ⟨⟨_, (), rfl, rfl, ⟨by rw [ht]; exact hP, va_K.moved hW.alike hK, hD⟩⟩, hS.F ht⟩) hS.2.2 dX7_parentOf_18

theorem s_X7_parentOf_74 {l : Launch} {dC : Nat → ClassId} {dI : Nat → Nat → Nat} {a : Nat → Nat} {k : Nat → ClassId} {sz : Nat} {p0 : Int32} {σ : ST} {q : Int32 × ST} (h : f_X7_parentOf 74 p0 σ = some q) : Met l yX7_parentOf (.code yX7_parentOf cX7_parentOf 2 (some .int) :: pw) ({ frames := 1, cells := 0, slots := 0, locals := 21 } : Room) (va_Pc [.ref (a 74), .int p0] (vPre dC dI (wA a k σ) (tA k) sz)) (qAi dC dI a k (va_A (wA a k σ) sz) q) 0 0 (va_A (wA a k σ) sz) := metA (fun A => qAi dC dI a k A q) (plainFor_of_name (by decide)) (Nat.le_of_ble_eq_true rfl) (fun _ _ _ _ _ _ _ _ hC => b_X7_parentOf_e_74 hC h)

def f_X7_rowBehind_51 (b : Nat) (x2 : Int32) (σ : ST) : Option (Int32 × ST) := (f_X7_nextOf b x2 σ).bind fun q1 => some (q1.1, q1.2)
def f_X7_rowBehind_19 (b : Nat) : Nat → Int32 → Int32 → ST → Option (Int32 × ST)
  | 0, _, _, _ => none
  | n + 1, x2, x3, σ => if 31 < x3 then (f_X7_rowBehind_51 b x2 σ) else (if x2 = (-1) then (f_X7_rowBehind_51 b x2 σ) else ((f_X7_nextOf b x2 σ).bind fun q1 => if q1.1 = (-1) then ((f_X7_parentOf b x2 q1.2).bind fun q3 => f_X7_rowBehind_19 b n q3.1 (x3 + 1) q3.2) else (f_X7_rowBehind_51 b x2 q1.2)))
def f_X7_rowBehind (b : Nat) (p0 : Int32) (σ : ST) : Option (Int32 × ST) := (f_X7_firstOf b p0 σ).bind fun q1 => if q1.1 = (-1) then (f_X7_rowBehind_19 b FU p0 0 q1.2) else ((f_X7_firstOf b p0 q1.2).bind fun q3 => some (q3.1, q3.2))

set_option maxRecDepth 100000 in
set_option maxHeartbeats 4000000 in
theorem b_X7_rowBehind_51_50 {p : Program} {l : Launch} {e : Env} {s : State} {m : MethodId} {args : Array Value} {below : List Frame} {meth : Method} {c : Code} {dC : Nat → ClassId} {dI : Nat → Nat → Nat} {a : Nat → Nat} {k : Nat → ClassId} {A : Nat → Prop} {q : Int32 × ST} (hC : CxA p s m args meth c dC dI k A cX7_rowBehind RX7 (some .int) 4)   {x2 : Int32} {σ : ST} (h : f_X7_rowBehind_51 50 x2 σ = some q) : GoA p l e ({ frames := 2, cells := 0, slots := 0, locals := 42 } : Room) s m args below meth c (MQ below (qAi dC dI a k A q) args s 0 0 A) dC dI a k A 4 51 σ [(0, .ref (a 50)), (2, .int x2)] [] := by
  have hC0 := hC
  obtain ⟨hx, hb, hr, hml, hown, hts, hlocks, hA, hN, hK⟩ := hC0
  intro H locs ls hP hD hS hl
  have hD0 : ∀ σ1 : ST, va_D A (wA a k σ1) := fun σ1 => wA_D hD
  unfold f_X7_rowBehind_51 at h
  refine lv_aload_n hx hb dX7_rowBehind_51 rfl (lv_at hl 0 rfl) ?_
  refine lv_iload_n hx hb dX7_rowBehind_52 rfl (lv_at hl 1 rfl) ?_
  obtain ⟨q1, hc, h⟩ := ib h
  have hF := va_frees hD hS hA
  refine va_calli (va_runV (As := [.int x2]) (rest := []) ⟨hx, hb, hml, hown, hts⟩ (s_X7_nextOf_50 hc) (cwV 1 hts (gV mw_18_24 mw_5_27 mw_5_28 mw_0_11 mw_52_6) rfl rfl rfl (by decide +kernel) ⟨(Nat.le_of_ble_eq_true rfl), (Nat.le_of_ble_eq_true rfl)⟩) (vV (ci := 7) (q0 := 50) hK hP hD hN rfl gA_50) rfl rfl hl.1 rfl (lv_room (Nat.le_of_ble_eq_true rfl)) dX7_rowBehind_53 ⟨(Nat.le_of_ble_eq_true rfl), (Nat.le_of_ble_eq_true rfl)⟩) hS (fun q _ h => hF q h) hF (fun r2 u t H locs ht hvm hw hB _ _ hS => ?_)
  obtain rfl : r2 = q1.1 := hw
  replace hP : va_P (dC, dI) vwCl (wA a k q1.2) H := by rw [← ht]; exact hB.1
  replace hD := hD0 (q1.2)
  clear hB hF
  obtain rfl := Option.some.inj h
  exact W.iret hx hb hr (fun t ht hW => ⟨⟨_, (), rfl, rfl, ⟨by rw [ht]; exact hP, va_K.moved hW.alike hK, hD⟩⟩, hS.F ht⟩) hS.2.2 dX7_rowBehind_56

set_option maxRecDepth 100000 in
set_option maxHeartbeats 4000000 in
theorem b_X7_rowBehind_19_50 {p : Program} {l : Launch} {e : Env} {s : State} {m : MethodId} {args : Array Value} {below : List Frame} {meth : Method} {c : Code} {dC : Nat → ClassId} {dI : Nat → Nat → Nat} {a : Nat → Nat} {k : Nat → ClassId} {A : Nat → Prop} {q : Int32 × ST} (hC : CxA p s m args meth c dC dI k A cX7_rowBehind RX7 (some .int) 4)   : ∀ (n : Nat) (x2 : Int32) (x3 : Int32) (σ : ST), f_X7_rowBehind_19 50 n x2 x3 σ = some q → GoA p l e ({ frames := 2, cells := 0, slots := 0, locals := 42 } : Room) s m args below meth c (MQ below (qAi dC dI a k A q) args s 0 0 A) dC dI a k A 4 19 σ [(0, .ref (a 50)), (2, .int x2), (3, .int x3)] [] := by
  intro n
  induction n with
  | zero =>
    intro x2 x3 σ h
    rw [f_X7_rowBehind_19] at h
    cases h
  | succ n ih =>
    intro x2 x3 σ h
    have hC0 := hC
    obtain ⟨hx, hb, hr, hml, hown, hts, hlocks, hA, hN, hK⟩ := hC0
    intro H locs ls hP hD hS hl
    have hD0 : ∀ σ1 : ST, va_D A (wA a k σ1) := fun σ1 => wA_D hD
    rw [f_X7_rowBehind_19] at h
    refine lv_iload_n hx hb dX7_rowBehind_19 rfl (lv_at hl 2 rfl) ?_
    refine lv_bipush (v := 31) hx hb dX7_rowBehind_20 (by decide) ?_
    refine lv_icmp_gt (tgt := 51) hx hb dX7_rowBehind_22 (by decide) (fun hc => ?_) (fun hc => ?_)
    · replace h := ip hc h
      exact b_X7_rowBehind_51_50 hC h _ _ _ hP hD hS (lv_sub hl [0, 1] rfl)
    · replace h := iq hc h
      refine lv_iload_n hx hb dX7_rowBehind_25 rfl (lv_at hl 1 rfl) ?_
      refine lv_iconst (v := (-1)) hx hb dX7_rowBehind_26 (by decide) ?_
      refine lv_icmp_eq (tgt := 51) hx hb dX7_rowBehind_27 (by decide) (fun hc => ?_) (fun hc => ?_)
      · replace h := ip hc h
        exact b_X7_rowBehind_51_50 hC h _ _ _ hP hD hS (lv_sub hl [0, 1] rfl)
      · replace h := iq hc h
        refine lv_aload_n hx hb dX7_rowBehind_30 rfl (lv_at hl 0 rfl) ?_
        refine lv_iload_n hx hb dX7_rowBehind_31 rfl (lv_at hl 1 rfl) ?_
        obtain ⟨q1, hc, h⟩ := ib h
        have hF := va_frees hD hS hA
        refine va_calli (va_runV (As := [.int x2]) (rest := []) ⟨hx, hb, hml, hown, hts⟩ (s_X7_nextOf_50 hc) (cwV 1 hts (gV mw_18_24 mw_5_27 mw_5_28 mw_0_11 mw_52_6) rfl rfl rfl (by decide +kernel) ⟨(Nat.le_of_ble_eq_true rfl), (Nat.le_of_ble_eq_true rfl)⟩) (vV (ci := 7) (q0 := 50) hK hP hD hN rfl gA_50) rfl rfl hl.1 rfl (lv_room (Nat.le_of_ble_eq_true rfl)) dX7_rowBehind_32 ⟨(Nat.le_of_ble_eq_true rfl), (Nat.le_of_ble_eq_true rfl)⟩) hS (fun q _ h => hF q h) hF (fun r2 u t H locs ht hvm hw hB _ _ hS => ?_)
        obtain rfl : r2 = q1.1 := hw
        replace hP : va_P (dC, dI) vwCl (wA a k q1.2) H := by rw [← ht]; exact hB.1
        replace hD := hD0 (q1.2)
        clear hB hF
        refine lv_iconst (v := (-1)) hx hb dX7_rowBehind_35 (by decide) ?_
        refine lv_icmp_ne (tgt := 51) hx hb dX7_rowBehind_36 (by decide) (fun hc => ?_) (fun hc => ?_)
        · replace h := iq hc h
          exact b_X7_rowBehind_51_50 hC h _ _ _ hP hD hS (lv_sub hl [0, 1] rfl)
        · replace h := ip hc h
          refine lv_aload_n hx hb dX7_rowBehind_39 rfl (lv_at hl 0 rfl) ?_
          refine lv_iload_n hx hb dX7_rowBehind_40 rfl (lv_at hl 1 rfl) ?_
          obtain ⟨q3, hc, h⟩ := ib h
          have hF := va_frees hD hS hA
          refine va_calli (va_runV (As := [.int x2]) (rest := []) ⟨hx, hb, hml, hown, hts⟩ (s_X7_parentOf_50 hc) (cwV 1 hts (gV mw_18_25 mw_18_26 mw_18_27 mw_0_11 mw_52_0) rfl rfl rfl (by decide +kernel) ⟨(Nat.le_of_ble_eq_true rfl), (Nat.le_of_ble_eq_true rfl)⟩) (vV (ci := 7) (q0 := 50) hK hP hD hN rfl gA_50) rfl rfl hl.1 rfl (lv_room (Nat.le_of_ble_eq_true rfl)) dX7_rowBehind_41 ⟨(Nat.le_of_ble_eq_true rfl), (Nat.le_of_ble_eq_true rfl)⟩) hS (fun q _ h => hF q h) hF (fun r4 u t H locs ht hvm hw hB _ _ hS => ?_)
          obtain rfl : r4 = q3.1 := hw
          replace hP : va_P (dC, dI) vwCl (wA a k q3.2) H := by rw [← ht]; exact hB.1
          replace hD := hD0 (q3.2)
          clear hB hF
          refine lv_istore_n (lv' := [(2, .int q3.1), (0, .ref (a 50)), (3, .int x3)]) hx hb dX7_rowBehind_44 rfl hl (by decide) rfl (fun ls hl => ?_)
          refine lv_iinc (v := (x3 + 1)) (lv' := [(3, .int (x3 + 1)), (2, .int q3.1), (0, .ref (a 50))]) hx hb dX7_rowBehind_45 hl (k := 2) rfl rfl (by decide) rfl (fun ls hl => ?_)
          refine lv_goto (tgt := 19) hx hb dX7_rowBehind_48 (by decide) ?_
          exact ih _ _ _ h _ _ _ hP hD hS (lv_sub hl [2, 1, 0] rfl)

set_option maxRecDepth 100000 in
set_option maxHeartbeats 4000000 in
theorem b_X7_rowBehind_e_50 {p : Program} {l : Launch} {e : Env} {s : State} {m : MethodId} {args : Array Value} {below : List Frame} {meth : Method} {c : Code} {dC : Nat → ClassId} {dI : Nat → Nat → Nat} {a : Nat → Nat} {k : Nat → ClassId} {A : Nat → Prop} {q : Int32 × ST} (hC : CxA p s m args meth c dC dI k A cX7_rowBehind RX7 (some .int) 4)   {p0 : Int32} {σ : ST} (h : f_X7_rowBehind 50 p0 σ = some q) : GoA p l e ({ frames := 2, cells := 0, slots := 0, locals := 42 } : Room) s m args below meth c (MQ below (qAi dC dI a k A q) args s 0 0 A) dC dI a k A 4 0 σ (lv_args 0 [.ref (a 50), .int p0]) [] := by
  have hC0 := hC
  obtain ⟨hx, hb, hr, hml, hown, hts, hlocks, hA, hN, hK⟩ := hC0
  intro H locs ls hP hD hS hl
  have hD0 : ∀ σ1 : ST, va_D A (wA a k σ1) := fun σ1 => wA_D hD
  replace hl : lv_has ls 4 [(0, .ref (a 50)), (1, .int p0)] := hl
  unfold f_X7_rowBehind at h
  refine lv_aload_n hx hb dX7_rowBehind_0 rfl (lv_at hl 0 rfl) ?_
  refine lv_iload_n hx hb dX7_rowBehind_1 rfl (lv_at hl 1 rfl) ?_
  obtain ⟨q1, hc, h⟩ := ib h
  have hF := va_frees hD hS hA
  refine va_calli (va_runV (As := [.int p0]) (rest := []) ⟨hx, hb, hml, hown, hts⟩ (s_X7_firstOf_50 hc) (cwV 1 hts (gV mw_18_23 mw_5_24 mw_5_25 mw_0_11 mw_52_5) rfl rfl rfl (by decide +kernel) ⟨(Nat.le_of_ble_eq_true rfl), (Nat.le_of_ble_eq_true rfl)⟩) (vV (ci := 7) (q0 := 50) hK hP hD hN rfl gA_50) rfl rfl hl.1 rfl (lv_room (Nat.le_of_ble_eq_true rfl)) dX7_rowBehind_2 ⟨(Nat.le_of_ble_eq_true rfl), (Nat.le_of_ble_eq_true rfl)⟩) hS (fun q _ h => hF q h) hF (fun r2 u t H locs ht hvm hw hB _ _ hS => ?_)
  obtain rfl : r2 = q1.1 := hw
  replace hP : va_P (dC, dI) vwCl (wA a k q1.2) H := by rw [← ht]; exact hB.1
  replace hD := hD0 (q1.2)
  clear hB hF
  refine lv_iconst (v := (-1)) hx hb dX7_rowBehind_5 (by decide) ?_
  refine lv_icmp_eq (tgt := 15) hx hb dX7_rowBehind_6 (by decide) (fun hc => ?_) (fun hc => ?_)
  · replace h := ip hc h
    refine lv_iload_n hx hb dX7_rowBehind_15 rfl (lv_at hl 1 rfl) ?_
    refine lv_istore_n (lv' := [(2, .int p0), (0, .ref (a 50)), (1, .int p0)]) hx hb dX7_rowBehind_16 rfl hl (by decide) rfl (fun ls hl => ?_)
    refine lv_iconst (v := 0) hx hb dX7_rowBehind_17 (by decide) ?_
    refine lv_istore_n (lv' := [(3, .int 0), (2, .int p0), (0, .ref (a 50)), (1, .int p0)]) hx hb dX7_rowBehind_18 rfl hl (by decide) rfl (fun ls hl => ?_)
    exact b_X7_rowBehind_19_50 hC FU _ _ _ h _ _ _ hP hD hS (lv_sub hl [2, 1, 0] rfl)
  · replace h := iq hc h
    refine lv_aload_n hx hb dX7_rowBehind_9 rfl (lv_at hl 0 rfl) ?_
    refine lv_iload_n hx hb dX7_rowBehind_10 rfl (lv_at hl 1 rfl) ?_
    obtain ⟨q3, hc, h⟩ := ib h
    have hF := va_frees hD hS hA
    refine va_calli (va_runV (As := [.int p0]) (rest := []) ⟨hx, hb, hml, hown, hts⟩ (s_X7_firstOf_50 hc) (cwV 1 hts (gV mw_18_23 mw_5_24 mw_5_25 mw_0_11 mw_52_5) rfl rfl rfl (by decide +kernel) ⟨(Nat.le_of_ble_eq_true rfl), (Nat.le_of_ble_eq_true rfl)⟩) (vV (ci := 7) (q0 := 50) hK hP hD hN rfl gA_50) rfl rfl hl.1 rfl (lv_room (Nat.le_of_ble_eq_true rfl)) dX7_rowBehind_11 ⟨(Nat.le_of_ble_eq_true rfl), (Nat.le_of_ble_eq_true rfl)⟩) hS (fun q _ h => hF q h) hF (fun r4 u t H locs ht hvm hw hB _ _ hS => ?_)
    obtain rfl : r4 = q3.1 := hw
    replace hP : va_P (dC, dI) vwCl (wA a k q3.2) H := by rw [← ht]; exact hB.1
    replace hD := hD0 (q3.2)
    clear hB hF
    obtain rfl := Option.some.inj h
    exact W.iret hx hb hr (fun t ht hW => ⟨⟨_, (), rfl, rfl, ⟨by rw [ht]; exact hP, va_K.moved hW.alike hK, hD⟩⟩, hS.F ht⟩) hS.2.2 dX7_rowBehind_14

theorem s_X7_rowBehind_50 {l : Launch} {dC : Nat → ClassId} {dI : Nat → Nat → Nat} {a : Nat → Nat} {k : Nat → ClassId} {sz : Nat} {p0 : Int32} {σ : ST} {q : Int32 × ST} (h : f_X7_rowBehind 50 p0 σ = some q) : Met l yX7_rowBehind (.code yX7_rowBehind cX7_rowBehind 4 (some .int) :: pw) ({ frames := 2, cells := 0, slots := 0, locals := 42 } : Room) (va_Pc [.ref (a 50), .int p0] (vPre dC dI (wA a k σ) (tA k) sz)) (qAi dC dI a k (va_A (wA a k σ) sz) q) 0 0 (va_A (wA a k σ) sz) := metA (fun A => qAi dC dI a k A q) (plainFor_of_name (by decide)) (Nat.le_of_ble_eq_true rfl) (fun _ _ _ _ _ _ _ _ hC => b_X7_rowBehind_e_50 hC h)

set_option maxRecDepth 100000 in
set_option maxHeartbeats 4000000 in
theorem b_X7_rowBehind_51_62 {p : Program} {l : Launch} {e : Env} {s : State} {m : MethodId} {args : Array Value} {below : List Frame} {meth : Method} {c : Code} {dC : Nat → ClassId} {dI : Nat → Nat → Nat} {a : Nat → Nat} {k : Nat → ClassId} {A : Nat → Prop} {q : Int32 × ST} (hC : CxA p s m args meth c dC dI k A cX7_rowBehind RX7 (some .int) 4)   {x2 : Int32} {σ : ST} (h : f_X7_rowBehind_51 62 x2 σ = some q) : GoA p l e ({ frames := 2, cells := 0, slots := 0, locals := 42 } : Room) s m args below meth c (MQ below (qAi dC dI a k A q) args s 0 0 A) dC dI a k A 4 51 σ [(0, .ref (a 62)), (2, .int x2)] [] := by
  have hC0 := hC
  obtain ⟨hx, hb, hr, hml, hown, hts, hlocks, hA, hN, hK⟩ := hC0
  intro H locs ls hP hD hS hl
  have hD0 : ∀ σ1 : ST, va_D A (wA a k σ1) := fun σ1 => wA_D hD
  unfold f_X7_rowBehind_51 at h
  refine lv_aload_n hx hb dX7_rowBehind_51 rfl (lv_at hl 0 rfl) ?_
  refine lv_iload_n hx hb dX7_rowBehind_52 rfl (lv_at hl 1 rfl) ?_
  obtain ⟨q1, hc, h⟩ := ib h
  have hF := va_frees hD hS hA
  refine va_calli (va_runV (As := [.int x2]) (rest := []) ⟨hx, hb, hml, hown, hts⟩ (s_X7_nextOf_62 hc) (cwV 1 hts (gV mw_18_24 mw_5_27 mw_5_28 mw_0_11 mw_52_6) rfl rfl rfl (by decide +kernel) ⟨(Nat.le_of_ble_eq_true rfl), (Nat.le_of_ble_eq_true rfl)⟩) (vV (ci := 7) (q0 := 62) hK hP hD hN rfl gA_62) rfl rfl hl.1 rfl (lv_room (Nat.le_of_ble_eq_true rfl)) dX7_rowBehind_53 ⟨(Nat.le_of_ble_eq_true rfl), (Nat.le_of_ble_eq_true rfl)⟩) hS (fun q _ h => hF q h) hF (fun r2 u t H locs ht hvm hw hB _ _ hS => ?_)
  obtain rfl : r2 = q1.1 := hw
  replace hP : va_P (dC, dI) vwCl (wA a k q1.2) H := by rw [← ht]; exact hB.1
  replace hD := hD0 (q1.2)
  clear hB hF
  obtain rfl := Option.some.inj h
  exact W.iret hx hb hr (fun t ht hW => ⟨⟨_, (), rfl, rfl, ⟨by rw [ht]; exact hP, va_K.moved hW.alike hK, hD⟩⟩, hS.F ht⟩) hS.2.2 dX7_rowBehind_56

set_option maxRecDepth 100000 in
set_option maxHeartbeats 4000000 in
theorem b_X7_rowBehind_19_62 {p : Program} {l : Launch} {e : Env} {s : State} {m : MethodId} {args : Array Value} {below : List Frame} {meth : Method} {c : Code} {dC : Nat → ClassId} {dI : Nat → Nat → Nat} {a : Nat → Nat} {k : Nat → ClassId} {A : Nat → Prop} {q : Int32 × ST} (hC : CxA p s m args meth c dC dI k A cX7_rowBehind RX7 (some .int) 4)   : ∀ (n : Nat) (x2 : Int32) (x3 : Int32) (σ : ST), f_X7_rowBehind_19 62 n x2 x3 σ = some q → GoA p l e ({ frames := 2, cells := 0, slots := 0, locals := 42 } : Room) s m args below meth c (MQ below (qAi dC dI a k A q) args s 0 0 A) dC dI a k A 4 19 σ [(0, .ref (a 62)), (2, .int x2), (3, .int x3)] [] := by
  intro n
  induction n with
  | zero =>
    intro x2 x3 σ h
    rw [f_X7_rowBehind_19] at h
    cases h
  | succ n ih =>
    intro x2 x3 σ h
    have hC0 := hC
    obtain ⟨hx, hb, hr, hml, hown, hts, hlocks, hA, hN, hK⟩ := hC0
    intro H locs ls hP hD hS hl
    have hD0 : ∀ σ1 : ST, va_D A (wA a k σ1) := fun σ1 => wA_D hD
    rw [f_X7_rowBehind_19] at h
    refine lv_iload_n hx hb dX7_rowBehind_19 rfl (lv_at hl 2 rfl) ?_
    refine lv_bipush (v := 31) hx hb dX7_rowBehind_20 (by decide) ?_
    refine lv_icmp_gt (tgt := 51) hx hb dX7_rowBehind_22 (by decide) (fun hc => ?_) (fun hc => ?_)
    · replace h := ip hc h
      exact b_X7_rowBehind_51_62 hC h _ _ _ hP hD hS (lv_sub hl [0, 1] rfl)
    · replace h := iq hc h
      refine lv_iload_n hx hb dX7_rowBehind_25 rfl (lv_at hl 1 rfl) ?_
      refine lv_iconst (v := (-1)) hx hb dX7_rowBehind_26 (by decide) ?_
      refine lv_icmp_eq (tgt := 51) hx hb dX7_rowBehind_27 (by decide) (fun hc => ?_) (fun hc => ?_)
      · replace h := ip hc h
        exact b_X7_rowBehind_51_62 hC h _ _ _ hP hD hS (lv_sub hl [0, 1] rfl)
      · replace h := iq hc h
        refine lv_aload_n hx hb dX7_rowBehind_30 rfl (lv_at hl 0 rfl) ?_
        refine lv_iload_n hx hb dX7_rowBehind_31 rfl (lv_at hl 1 rfl) ?_
        obtain ⟨q1, hc, h⟩ := ib h
        have hF := va_frees hD hS hA
        refine va_calli (va_runV (As := [.int x2]) (rest := []) ⟨hx, hb, hml, hown, hts⟩ (s_X7_nextOf_62 hc) (cwV 1 hts (gV mw_18_24 mw_5_27 mw_5_28 mw_0_11 mw_52_6) rfl rfl rfl (by decide +kernel) ⟨(Nat.le_of_ble_eq_true rfl), (Nat.le_of_ble_eq_true rfl)⟩) (vV (ci := 7) (q0 := 62) hK hP hD hN rfl gA_62) rfl rfl hl.1 rfl (lv_room (Nat.le_of_ble_eq_true rfl)) dX7_rowBehind_32 ⟨(Nat.le_of_ble_eq_true rfl), (Nat.le_of_ble_eq_true rfl)⟩) hS (fun q _ h => hF q h) hF (fun r2 u t H locs ht hvm hw hB _ _ hS => ?_)
        obtain rfl : r2 = q1.1 := hw
        replace hP : va_P (dC, dI) vwCl (wA a k q1.2) H := by rw [← ht]; exact hB.1
        replace hD := hD0 (q1.2)
        clear hB hF
        refine lv_iconst (v := (-1)) hx hb dX7_rowBehind_35 (by decide) ?_
        refine lv_icmp_ne (tgt := 51) hx hb dX7_rowBehind_36 (by decide) (fun hc => ?_) (fun hc => ?_)
        · replace h := iq hc h
          exact b_X7_rowBehind_51_62 hC h _ _ _ hP hD hS (lv_sub hl [0, 1] rfl)
        · replace h := ip hc h
          refine lv_aload_n hx hb dX7_rowBehind_39 rfl (lv_at hl 0 rfl) ?_
          refine lv_iload_n hx hb dX7_rowBehind_40 rfl (lv_at hl 1 rfl) ?_
          obtain ⟨q3, hc, h⟩ := ib h
          have hF := va_frees hD hS hA
          refine va_calli (va_runV (As := [.int x2]) (rest := []) ⟨hx, hb, hml, hown, hts⟩ (s_X7_parentOf_62 hc) (cwV 1 hts (gV mw_18_25 mw_18_26 mw_18_27 mw_0_11 mw_52_0) rfl rfl rfl (by decide +kernel) ⟨(Nat.le_of_ble_eq_true rfl), (Nat.le_of_ble_eq_true rfl)⟩) (vV (ci := 7) (q0 := 62) hK hP hD hN rfl gA_62) rfl rfl hl.1 rfl (lv_room (Nat.le_of_ble_eq_true rfl)) dX7_rowBehind_41 ⟨(Nat.le_of_ble_eq_true rfl), (Nat.le_of_ble_eq_true rfl)⟩) hS (fun q _ h => hF q h) hF (fun r4 u t H locs ht hvm hw hB _ _ hS => ?_)
          obtain rfl : r4 = q3.1 := hw
          replace hP : va_P (dC, dI) vwCl (wA a k q3.2) H := by rw [← ht]; exact hB.1
          replace hD := hD0 (q3.2)
          clear hB hF
          refine lv_istore_n (lv' := [(2, .int q3.1), (0, .ref (a 62)), (3, .int x3)]) hx hb dX7_rowBehind_44 rfl hl (by decide) rfl (fun ls hl => ?_)
          refine lv_iinc (v := (x3 + 1)) (lv' := [(3, .int (x3 + 1)), (2, .int q3.1), (0, .ref (a 62))]) hx hb dX7_rowBehind_45 hl (k := 2) rfl rfl (by decide) rfl (fun ls hl => ?_)
          refine lv_goto (tgt := 19) hx hb dX7_rowBehind_48 (by decide) ?_
          exact ih _ _ _ h _ _ _ hP hD hS (lv_sub hl [2, 1, 0] rfl)

set_option maxRecDepth 100000 in
set_option maxHeartbeats 4000000 in
theorem b_X7_rowBehind_e_62 {p : Program} {l : Launch} {e : Env} {s : State} {m : MethodId} {args : Array Value} {below : List Frame} {meth : Method} {c : Code} {dC : Nat → ClassId} {dI : Nat → Nat → Nat} {a : Nat → Nat} {k : Nat → ClassId} {A : Nat → Prop} {q : Int32 × ST} (hC : CxA p s m args meth c dC dI k A cX7_rowBehind RX7 (some .int) 4)   {p0 : Int32} {σ : ST} (h : f_X7_rowBehind 62 p0 σ = some q) : GoA p l e ({ frames := 2, cells := 0, slots := 0, locals := 42 } : Room) s m args below meth c (MQ below (qAi dC dI a k A q) args s 0 0 A) dC dI a k A 4 0 σ (lv_args 0 [.ref (a 62), .int p0]) [] := by
  have hC0 := hC
  obtain ⟨hx, hb, hr, hml, hown, hts, hlocks, hA, hN, hK⟩ := hC0
  intro H locs ls hP hD hS hl
  have hD0 : ∀ σ1 : ST, va_D A (wA a k σ1) := fun σ1 => wA_D hD
  replace hl : lv_has ls 4 [(0, .ref (a 62)), (1, .int p0)] := hl
  unfold f_X7_rowBehind at h
  refine lv_aload_n hx hb dX7_rowBehind_0 rfl (lv_at hl 0 rfl) ?_
  refine lv_iload_n hx hb dX7_rowBehind_1 rfl (lv_at hl 1 rfl) ?_
  obtain ⟨q1, hc, h⟩ := ib h
  have hF := va_frees hD hS hA
  refine va_calli (va_runV (As := [.int p0]) (rest := []) ⟨hx, hb, hml, hown, hts⟩ (s_X7_firstOf_62 hc) (cwV 1 hts (gV mw_18_23 mw_5_24 mw_5_25 mw_0_11 mw_52_5) rfl rfl rfl (by decide +kernel) ⟨(Nat.le_of_ble_eq_true rfl), (Nat.le_of_ble_eq_true rfl)⟩) (vV (ci := 7) (q0 := 62) hK hP hD hN rfl gA_62) rfl rfl hl.1 rfl (lv_room (Nat.le_of_ble_eq_true rfl)) dX7_rowBehind_2 ⟨(Nat.le_of_ble_eq_true rfl), (Nat.le_of_ble_eq_true rfl)⟩) hS (fun q _ h => hF q h) hF (fun r2 u t H locs ht hvm hw hB _ _ hS => ?_)
  obtain rfl : r2 = q1.1 := hw
  replace hP : va_P (dC, dI) vwCl (wA a k q1.2) H := by rw [← ht]; exact hB.1
  replace hD := hD0 (q1.2)
  clear hB hF
  refine lv_iconst (v := (-1)) hx hb dX7_rowBehind_5 (by decide) ?_
  refine lv_icmp_eq (tgt := 15) hx hb dX7_rowBehind_6 (by decide) (fun hc => ?_) (fun hc => ?_)
  · replace h := ip hc h
    refine lv_iload_n hx hb dX7_rowBehind_15 rfl (lv_at hl 1 rfl) ?_
    refine lv_istore_n (lv' := [(2, .int p0), (0, .ref (a 62)), (1, .int p0)]) hx hb dX7_rowBehind_16 rfl hl (by decide) rfl (fun ls hl => ?_)
    refine lv_iconst (v := 0) hx hb dX7_rowBehind_17 (by decide) ?_
    refine lv_istore_n (lv' := [(3, .int 0), (2, .int p0), (0, .ref (a 62)), (1, .int p0)]) hx hb dX7_rowBehind_18 rfl hl (by decide) rfl (fun ls hl => ?_)
    exact b_X7_rowBehind_19_62 hC FU _ _ _ h _ _ _ hP hD hS (lv_sub hl [2, 1, 0] rfl)
  · replace h := iq hc h
    refine lv_aload_n hx hb dX7_rowBehind_9 rfl (lv_at hl 0 rfl) ?_
    refine lv_iload_n hx hb dX7_rowBehind_10 rfl (lv_at hl 1 rfl) ?_
    obtain ⟨q3, hc, h⟩ := ib h
    have hF := va_frees hD hS hA
    refine va_calli (va_runV (As := [.int p0]) (rest := []) ⟨hx, hb, hml, hown, hts⟩ (s_X7_firstOf_62 hc) (cwV 1 hts (gV mw_18_23 mw_5_24 mw_5_25 mw_0_11 mw_52_5) rfl rfl rfl (by decide +kernel) ⟨(Nat.le_of_ble_eq_true rfl), (Nat.le_of_ble_eq_true rfl)⟩) (vV (ci := 7) (q0 := 62) hK hP hD hN rfl gA_62) rfl rfl hl.1 rfl (lv_room (Nat.le_of_ble_eq_true rfl)) dX7_rowBehind_11 ⟨(Nat.le_of_ble_eq_true rfl), (Nat.le_of_ble_eq_true rfl)⟩) hS (fun q _ h => hF q h) hF (fun r4 u t H locs ht hvm hw hB _ _ hS => ?_)
    obtain rfl : r4 = q3.1 := hw
    replace hP : va_P (dC, dI) vwCl (wA a k q3.2) H := by rw [← ht]; exact hB.1
    replace hD := hD0 (q3.2)
    clear hB hF
    obtain rfl := Option.some.inj h
    exact W.iret hx hb hr (fun t ht hW => ⟨⟨_, (), rfl, rfl, ⟨by rw [ht]; exact hP, va_K.moved hW.alike hK, hD⟩⟩, hS.F ht⟩) hS.2.2 dX7_rowBehind_14

theorem s_X7_rowBehind_62 {l : Launch} {dC : Nat → ClassId} {dI : Nat → Nat → Nat} {a : Nat → Nat} {k : Nat → ClassId} {sz : Nat} {p0 : Int32} {σ : ST} {q : Int32 × ST} (h : f_X7_rowBehind 62 p0 σ = some q) : Met l yX7_rowBehind (.code yX7_rowBehind cX7_rowBehind 4 (some .int) :: pw) ({ frames := 2, cells := 0, slots := 0, locals := 42 } : Room) (va_Pc [.ref (a 62), .int p0] (vPre dC dI (wA a k σ) (tA k) sz)) (qAi dC dI a k (va_A (wA a k σ) sz) q) 0 0 (va_A (wA a k σ) sz) := metA (fun A => qAi dC dI a k A q) (plainFor_of_name (by decide)) (Nat.le_of_ble_eq_true rfl) (fun _ _ _ _ _ _ _ _ hC => b_X7_rowBehind_e_62 hC h)

set_option maxRecDepth 100000 in
set_option maxHeartbeats 4000000 in
theorem b_X7_rowBehind_51_74 {p : Program} {l : Launch} {e : Env} {s : State} {m : MethodId} {args : Array Value} {below : List Frame} {meth : Method} {c : Code} {dC : Nat → ClassId} {dI : Nat → Nat → Nat} {a : Nat → Nat} {k : Nat → ClassId} {A : Nat → Prop} {q : Int32 × ST} (hC : CxA p s m args meth c dC dI k A cX7_rowBehind RX7 (some .int) 4)   {x2 : Int32} {σ : ST} (h : f_X7_rowBehind_51 74 x2 σ = some q) : GoA p l e ({ frames := 2, cells := 0, slots := 0, locals := 42 } : Room) s m args below meth c (MQ below (qAi dC dI a k A q) args s 0 0 A) dC dI a k A 4 51 σ [(0, .ref (a 74)), (2, .int x2)] [] := by
  have hC0 := hC
  obtain ⟨hx, hb, hr, hml, hown, hts, hlocks, hA, hN, hK⟩ := hC0
  intro H locs ls hP hD hS hl
  have hD0 : ∀ σ1 : ST, va_D A (wA a k σ1) := fun σ1 => wA_D hD
  unfold f_X7_rowBehind_51 at h
  refine lv_aload_n hx hb dX7_rowBehind_51 rfl (lv_at hl 0 rfl) ?_
  refine lv_iload_n hx hb dX7_rowBehind_52 rfl (lv_at hl 1 rfl) ?_
  obtain ⟨q1, hc, h⟩ := ib h
  have hF := va_frees hD hS hA
  refine va_calli (va_runV (As := [.int x2]) (rest := []) ⟨hx, hb, hml, hown, hts⟩ (s_X7_nextOf_74 hc) (cwV 1 hts (gV mw_18_24 mw_5_27 mw_5_28 mw_0_11 mw_52_6) rfl rfl rfl (by decide +kernel) ⟨(Nat.le_of_ble_eq_true rfl), (Nat.le_of_ble_eq_true rfl)⟩) (vV (ci := 7) (q0 := 74) hK hP hD hN rfl gA_74) rfl rfl hl.1 rfl (lv_room (Nat.le_of_ble_eq_true rfl)) dX7_rowBehind_53 ⟨(Nat.le_of_ble_eq_true rfl), (Nat.le_of_ble_eq_true rfl)⟩) hS (fun q _ h => hF q h) hF (fun r2 u t H locs ht hvm hw hB _ _ hS => ?_)
  obtain rfl : r2 = q1.1 := hw
  replace hP : va_P (dC, dI) vwCl (wA a k q1.2) H := by rw [← ht]; exact hB.1
  replace hD := hD0 (q1.2)
  clear hB hF
  obtain rfl := Option.some.inj h
  exact W.iret hx hb hr (fun t ht hW => ⟨⟨_, (), rfl, rfl, ⟨by rw [ht]; exact hP, va_K.moved hW.alike hK, hD⟩⟩, hS.F ht⟩) hS.2.2 dX7_rowBehind_56

set_option maxRecDepth 100000 in
set_option maxHeartbeats 4000000 in
theorem b_X7_rowBehind_19_74 {p : Program} {l : Launch} {e : Env} {s : State} {m : MethodId} {args : Array Value} {below : List Frame} {meth : Method} {c : Code} {dC : Nat → ClassId} {dI : Nat → Nat → Nat} {a : Nat → Nat} {k : Nat → ClassId} {A : Nat → Prop} {q : Int32 × ST} (hC : CxA p s m args meth c dC dI k A cX7_rowBehind RX7 (some .int) 4)   : ∀ (n : Nat) (x2 : Int32) (x3 : Int32) (σ : ST), f_X7_rowBehind_19 74 n x2 x3 σ = some q → GoA p l e ({ frames := 2, cells := 0, slots := 0, locals := 42 } : Room) s m args below meth c (MQ below (qAi dC dI a k A q) args s 0 0 A) dC dI a k A 4 19 σ [(0, .ref (a 74)), (2, .int x2), (3, .int x3)] [] := by
  intro n
  induction n with
  | zero =>
    intro x2 x3 σ h
    rw [f_X7_rowBehind_19] at h
    cases h
  | succ n ih =>
    intro x2 x3 σ h
    have hC0 := hC
    obtain ⟨hx, hb, hr, hml, hown, hts, hlocks, hA, hN, hK⟩ := hC0
    intro H locs ls hP hD hS hl
    have hD0 : ∀ σ1 : ST, va_D A (wA a k σ1) := fun σ1 => wA_D hD
    rw [f_X7_rowBehind_19] at h
    refine lv_iload_n hx hb dX7_rowBehind_19 rfl (lv_at hl 2 rfl) ?_
    refine lv_bipush (v := 31) hx hb dX7_rowBehind_20 (by decide) ?_
    refine lv_icmp_gt (tgt := 51) hx hb dX7_rowBehind_22 (by decide) (fun hc => ?_) (fun hc => ?_)
    · replace h := ip hc h
      exact b_X7_rowBehind_51_74 hC h _ _ _ hP hD hS (lv_sub hl [0, 1] rfl)
    · replace h := iq hc h
      refine lv_iload_n hx hb dX7_rowBehind_25 rfl (lv_at hl 1 rfl) ?_
      refine lv_iconst (v := (-1)) hx hb dX7_rowBehind_26 (by decide) ?_
      refine lv_icmp_eq (tgt := 51) hx hb dX7_rowBehind_27 (by decide) (fun hc => ?_) (fun hc => ?_)
      · replace h := ip hc h
        exact b_X7_rowBehind_51_74 hC h _ _ _ hP hD hS (lv_sub hl [0, 1] rfl)
      · replace h := iq hc h
        refine lv_aload_n hx hb dX7_rowBehind_30 rfl (lv_at hl 0 rfl) ?_
        refine lv_iload_n hx hb dX7_rowBehind_31 rfl (lv_at hl 1 rfl) ?_
        obtain ⟨q1, hc, h⟩ := ib h
        have hF := va_frees hD hS hA
        refine va_calli (va_runV (As := [.int x2]) (rest := []) ⟨hx, hb, hml, hown, hts⟩ (s_X7_nextOf_74 hc) (cwV 1 hts (gV mw_18_24 mw_5_27 mw_5_28 mw_0_11 mw_52_6) rfl rfl rfl (by decide +kernel) ⟨(Nat.le_of_ble_eq_true rfl), (Nat.le_of_ble_eq_true rfl)⟩) (vV (ci := 7) (q0 := 74) hK hP hD hN rfl gA_74) rfl rfl hl.1 rfl (lv_room (Nat.le_of_ble_eq_true rfl)) dX7_rowBehind_32 ⟨(Nat.le_of_ble_eq_true rfl), (Nat.le_of_ble_eq_true rfl)⟩) hS (fun q _ h => hF q h) hF (fun r2 u t H locs ht hvm hw hB _ _ hS => ?_)
        obtain rfl : r2 = q1.1 := hw
        replace hP : va_P (dC, dI) vwCl (wA a k q1.2) H := by rw [← ht]; exact hB.1
        replace hD := hD0 (q1.2)
        clear hB hF
        refine lv_iconst (v := (-1)) hx hb dX7_rowBehind_35 (by decide) ?_
        refine lv_icmp_ne (tgt := 51) hx hb dX7_rowBehind_36 (by decide) (fun hc => ?_) (fun hc => ?_)
        · replace h := iq hc h
          exact b_X7_rowBehind_51_74 hC h _ _ _ hP hD hS (lv_sub hl [0, 1] rfl)
        · replace h := ip hc h
          refine lv_aload_n hx hb dX7_rowBehind_39 rfl (lv_at hl 0 rfl) ?_
          refine lv_iload_n hx hb dX7_rowBehind_40 rfl (lv_at hl 1 rfl) ?_
          obtain ⟨q3, hc, h⟩ := ib h
          have hF := va_frees hD hS hA
          refine va_calli (va_runV (As := [.int x2]) (rest := []) ⟨hx, hb, hml, hown, hts⟩ (s_X7_parentOf_74 hc) (cwV 1 hts (gV mw_18_25 mw_18_26 mw_18_27 mw_0_11 mw_52_0) rfl rfl rfl (by decide +kernel) ⟨(Nat.le_of_ble_eq_true rfl), (Nat.le_of_ble_eq_true rfl)⟩) (vV (ci := 7) (q0 := 74) hK hP hD hN rfl gA_74) rfl rfl hl.1 rfl (lv_room (Nat.le_of_ble_eq_true rfl)) dX7_rowBehind_41 ⟨(Nat.le_of_ble_eq_true rfl), (Nat.le_of_ble_eq_true rfl)⟩) hS (fun q _ h => hF q h) hF (fun r4 u t H locs ht hvm hw hB _ _ hS => ?_)
          obtain rfl : r4 = q3.1 := hw
          replace hP : va_P (dC, dI) vwCl (wA a k q3.2) H := by rw [← ht]; exact hB.1
          replace hD := hD0 (q3.2)
          clear hB hF
          refine lv_istore_n (lv' := [(2, .int q3.1), (0, .ref (a 74)), (3, .int x3)]) hx hb dX7_rowBehind_44 rfl hl (by decide) rfl (fun ls hl => ?_)
          refine lv_iinc (v := (x3 + 1)) (lv' := [(3, .int (x3 + 1)), (2, .int q3.1), (0, .ref (a 74))]) hx hb dX7_rowBehind_45 hl (k := 2) rfl rfl (by decide) rfl (fun ls hl => ?_)
          refine lv_goto (tgt := 19) hx hb dX7_rowBehind_48 (by decide) ?_
          exact ih _ _ _ h _ _ _ hP hD hS (lv_sub hl [2, 1, 0] rfl)

set_option maxRecDepth 100000 in
set_option maxHeartbeats 4000000 in
theorem b_X7_rowBehind_e_74 {p : Program} {l : Launch} {e : Env} {s : State} {m : MethodId} {args : Array Value} {below : List Frame} {meth : Method} {c : Code} {dC : Nat → ClassId} {dI : Nat → Nat → Nat} {a : Nat → Nat} {k : Nat → ClassId} {A : Nat → Prop} {q : Int32 × ST} (hC : CxA p s m args meth c dC dI k A cX7_rowBehind RX7 (some .int) 4)   {p0 : Int32} {σ : ST} (h : f_X7_rowBehind 74 p0 σ = some q) : GoA p l e ({ frames := 2, cells := 0, slots := 0, locals := 42 } : Room) s m args below meth c (MQ below (qAi dC dI a k A q) args s 0 0 A) dC dI a k A 4 0 σ (lv_args 0 [.ref (a 74), .int p0]) [] := by
  have hC0 := hC
  obtain ⟨hx, hb, hr, hml, hown, hts, hlocks, hA, hN, hK⟩ := hC0
  intro H locs ls hP hD hS hl
  have hD0 : ∀ σ1 : ST, va_D A (wA a k σ1) := fun σ1 => wA_D hD
  replace hl : lv_has ls 4 [(0, .ref (a 74)), (1, .int p0)] := hl
  unfold f_X7_rowBehind at h
  refine lv_aload_n hx hb dX7_rowBehind_0 rfl (lv_at hl 0 rfl) ?_
  refine lv_iload_n hx hb dX7_rowBehind_1 rfl (lv_at hl 1 rfl) ?_
  obtain ⟨q1, hc, h⟩ := ib h
  have hF := va_frees hD hS hA
  refine va_calli (va_runV (As := [.int p0]) (rest := []) ⟨hx, hb, hml, hown, hts⟩ (s_X7_firstOf_74 hc) (cwV 1 hts (gV mw_18_23 mw_5_24 mw_5_25 mw_0_11 mw_52_5) rfl rfl rfl (by decide +kernel) ⟨(Nat.le_of_ble_eq_true rfl), (Nat.le_of_ble_eq_true rfl)⟩) (vV (ci := 7) (q0 := 74) hK hP hD hN rfl gA_74) rfl rfl hl.1 rfl (lv_room (Nat.le_of_ble_eq_true rfl)) dX7_rowBehind_2 ⟨(Nat.le_of_ble_eq_true rfl), (Nat.le_of_ble_eq_true rfl)⟩) hS (fun q _ h => hF q h) hF (fun r2 u t H locs ht hvm hw hB _ _ hS => ?_)
  obtain rfl : r2 = q1.1 := hw
  replace hP : va_P (dC, dI) vwCl (wA a k q1.2) H := by rw [← ht]; exact hB.1
  replace hD := hD0 (q1.2)
  clear hB hF
  refine lv_iconst (v := (-1)) hx hb dX7_rowBehind_5 (by decide) ?_
  refine lv_icmp_eq (tgt := 15) hx hb dX7_rowBehind_6 (by decide) (fun hc => ?_) (fun hc => ?_)
  · replace h := ip hc h
    refine lv_iload_n hx hb dX7_rowBehind_15 rfl (lv_at hl 1 rfl) ?_
    refine lv_istore_n (lv' := [(2, .int p0), (0, .ref (a 74)), (1, .int p0)]) hx hb dX7_rowBehind_16 rfl hl (by decide) rfl (fun ls hl => ?_)
    refine lv_iconst (v := 0) hx hb dX7_rowBehind_17 (by decide) ?_
    refine lv_istore_n (lv' := [(3, .int 0), (2, .int p0), (0, .ref (a 74)), (1, .int p0)]) hx hb dX7_rowBehind_18 rfl hl (by decide) rfl (fun ls hl => ?_)
    exact b_X7_rowBehind_19_74 hC FU _ _ _ h _ _ _ hP hD hS (lv_sub hl [2, 1, 0] rfl)
  · replace h := iq hc h
    refine lv_aload_n hx hb dX7_rowBehind_9 rfl (lv_at hl 0 rfl) ?_
    refine lv_iload_n hx hb dX7_rowBehind_10 rfl (lv_at hl 1 rfl) ?_
    obtain ⟨q3, hc, h⟩ := ib h
    have hF := va_frees hD hS hA
    refine va_calli (va_runV (As := [.int p0]) (rest := []) ⟨hx, hb, hml, hown, hts⟩ (s_X7_firstOf_74 hc) (cwV 1 hts (gV mw_18_23 mw_5_24 mw_5_25 mw_0_11 mw_52_5) rfl rfl rfl (by decide +kernel) ⟨(Nat.le_of_ble_eq_true rfl), (Nat.le_of_ble_eq_true rfl)⟩) (vV (ci := 7) (q0 := 74) hK hP hD hN rfl gA_74) rfl rfl hl.1 rfl (lv_room (Nat.le_of_ble_eq_true rfl)) dX7_rowBehind_11 ⟨(Nat.le_of_ble_eq_true rfl), (Nat.le_of_ble_eq_true rfl)⟩) hS (fun q _ h => hF q h) hF (fun r4 u t H locs ht hvm hw hB _ _ hS => ?_)
    obtain rfl : r4 = q3.1 := hw
    replace hP : va_P (dC, dI) vwCl (wA a k q3.2) H := by rw [← ht]; exact hB.1
    replace hD := hD0 (q3.2)
    clear hB hF
    obtain rfl := Option.some.inj h
    exact W.iret hx hb hr (fun t ht hW => ⟨⟨_, (), rfl, rfl, ⟨by rw [ht]; exact hP, va_K.moved hW.alike hK, hD⟩⟩, hS.F ht⟩) hS.2.2 dX7_rowBehind_14

theorem s_X7_rowBehind_74 {l : Launch} {dC : Nat → ClassId} {dI : Nat → Nat → Nat} {a : Nat → Nat} {k : Nat → ClassId} {sz : Nat} {p0 : Int32} {σ : ST} {q : Int32 × ST} (h : f_X7_rowBehind 74 p0 σ = some q) : Met l yX7_rowBehind (.code yX7_rowBehind cX7_rowBehind 4 (some .int) :: pw) ({ frames := 2, cells := 0, slots := 0, locals := 42 } : Room) (va_Pc [.ref (a 74), .int p0] (vPre dC dI (wA a k σ) (tA k) sz)) (qAi dC dI a k (va_A (wA a k σ) sz) q) 0 0 (va_A (wA a k σ) sz) := metA (fun A => qAi dC dI a k A q) (plainFor_of_name (by decide)) (Nat.le_of_ble_eq_true rfl) (fun _ _ _ _ _ _ _ _ hC => b_X7_rowBehind_e_74 hC h)

def f_X7_putInOrder_4 (b : Nat) : Nat → Int32 → Int32 → ST → Option (ST)
  | 0, _, _, _ => none
  | n + 1, x1, x2, σ => if (σ.1 b 1) ≤ x2 then (some σ) else ((f_X7_isRow b x1 σ).bind fun q1 => if q1.1 = 0 then (some q1.2) else (if 0 ≤ x2.toInt ∧ x2.toInt < (ln7 b : Nat) then (if 0 ≤ x1.toInt ∧ x1.toInt < (ln7 b : Nat) then ((f_X7_rowBehind b x1 (stI (stI q1.2 (b + 10) x2.toNatClampNeg x1) (b + 11) x1.toNatClampNeg x2)).bind fun q5 => f_X7_putInOrder_4 b n q5.1 (x2 + 1) q5.2) else none) else none))
def f_X7_putInOrder (b : Nat) (σ : ST) : Option (ST) := f_X7_putInOrder_4 b FU 0 0 σ

set_option maxRecDepth 100000 in
set_option maxHeartbeats 4000000 in
theorem b_X7_putInOrder_4_50 {p : Program} {l : Launch} {e : Env} {s : State} {m : MethodId} {args : Array Value} {below : List Frame} {meth : Method} {c : Code} {dC : Nat → ClassId} {dI : Nat → Nat → Nat} {a : Nat → Nat} {k : Nat → ClassId} {A : Nat → Prop} {q : ST} (hC : CxA p s m args meth c dC dI k A cX7_putInOrder RX7 none 3)   : ∀ (n : Nat) (x1 : Int32) (x2 : Int32) (σ : ST), f_X7_putInOrder_4 50 n x1 x2 σ = some q → GoA p l e ({ frames := 3, cells := 0, slots := 0, locals := 65 } : Room) s m args below meth c (MQ below (qAv dC dI a k A q) args s 0 0 A) dC dI a k A 3 4 σ [(0, .ref (a 50)), (1, .int x1), (2, .int x2)] [] := by
  intro n
  induction n with
  | zero =>
    intro x1 x2 σ h
    rw [f_X7_putInOrder_4] at h
    cases h
  | succ n ih =>
    intro x1 x2 σ h
    have hC0 := hC
    obtain ⟨hx, hb, hr, hml, hown, hts, hlocks, hA, hN, hK⟩ := hC0
    intro H locs ls hP hD hS hl
    have hD0 : ∀ σ1 : ST, va_D A (wA a k σ1) := fun σ1 => wA_D hD
    rw [f_X7_putInOrder_4] at h
    refine lv_iload_n hx hb dX7_putInOrder_4 rfl (lv_at hl 2 rfl) ?_
    refine lv_aload_n hx hb dX7_putInOrder_5 rfl (lv_at hl 0 rfl) ?_
    refine va_get (D := (dC, dI)) (ci := 7) (C := RX7) (T := TX7) (N := 13) hx hb hts inlX7 hown hK hP 50 gA_50 rfl 1 (by decide) (hts (.fieldLink RX7 9 "ShapeReader$Tree" "size" "I") mw_18_1) (fun _ h9 => h9) rfl dX7_putInOrder_6 ?_
    refine lv_icmp_ge (tgt := 46) hx hb dX7_putInOrder_9 (by decide) (fun hc => ?_) (fun hc => ?_)
    · replace h := ip hc h
      obtain rfl := Option.some.inj h
      exact W.vret hx hb hr (fun t ht hW => ⟨⟨(), rfl, trivial, ⟨by rw [ht]; exact hP, va_K.moved hW.alike hK, hD⟩⟩, hS.F ht⟩) hS.2.2 dX7_putInOrder_46
    · replace h := iq hc h
      refine lv_aload_n hx hb dX7_putInOrder_12 rfl (lv_at hl 0 rfl) ?_
      refine lv_iload_n hx hb dX7_putInOrder_13 rfl (lv_at hl 1 rfl) ?_
      obtain ⟨q1, hc, h⟩ := ib h
      have hF := va_frees hD hS hA
      refine va_calli (va_runV (As := [.int x1]) (rest := []) ⟨hx, hb, hml, hown, hts⟩ (s_X7_isRow_50 hc) (cwV 1 hts (gV mw_18_14 mw_18_15 mw_18_16 mw_0_11 mw_51_24) rfl rfl rfl (by decide +kernel) ⟨(Nat.le_of_ble_eq_true rfl), (Nat.le_of_ble_eq_true rfl)⟩) (vV (ci := 7) (q0 := 50) hK hP hD hN rfl gA_50) rfl rfl hl.1 rfl (lv_room (Nat.le_of_ble_eq_true rfl)) dX7_putInOrder_14 ⟨(Nat.le_of_ble_eq_true rfl), (Nat.le_of_ble_eq_true rfl)⟩) hS (fun q _ h => hF q h) hF (fun r2 u t H locs ht hvm hw hB _ _ hS => ?_)
      obtain rfl : r2 = q1.1 := hw
      replace hP : va_P (dC, dI) vwCl (wA a k q1.2) H := by rw [← ht]; exact hB.1
      replace hD := hD0 (q1.2)
      clear hB hF
      refine lv_if_eq (tgt := 46) hx hb dX7_putInOrder_17 (by decide) (fun hc => ?_) (fun hc => ?_)
      · replace h := ip hc h
        obtain rfl := Option.some.inj h
        exact W.vret hx hb hr (fun t ht hW => ⟨⟨(), rfl, trivial, ⟨by rw [ht]; exact hP, va_K.moved hW.alike hK, hD⟩⟩, hS.F ht⟩) hS.2.2 dX7_putInOrder_46
      · replace h := iq hc h
        refine lv_aload_n hx hb dX7_putInOrder_20 rfl (lv_at hl 0 rfl) ?_
        refine va_get (D := (dC, dI)) (ci := 7) (C := RX7) (T := TX7) (N := 13) hx hb hts inlX7 hown hK hP 50 gA_50 rfl 11 (by decide) (hts (.fieldLink RX7 48 "ShapeReader$Tree" "order" "[I") mw_18_12) (fun _ h9 => h9) rfl dX7_putInOrder_21 ?_
        refine lv_iload_n hx hb dX7_putInOrder_24 rfl (lv_at hl 2 rfl) ?_
        refine lv_iload_n hx hb dX7_putInOrder_25 rfl (lv_at hl 1 rfl) ?_
        obtain ⟨hg3, h⟩ := ig h
        refine va_iast hx hb hK hP hD hS 60 51 gA_60 yA_60 (vp_in_iff.mpr hg3) dX7_putInOrder_26 (fun H locs hP hD hS => ?_)
        replace hP := uA_60 hP
        replace hD := hD0 ((stI q1.2 60 x2.toNatClampNeg x1))
        refine lv_aload_n hx hb dX7_putInOrder_27 rfl (lv_at hl 0 rfl) ?_
        refine va_get (D := (dC, dI)) (ci := 7) (C := RX7) (T := TX7) (N := 13) hx hb hts inlX7 hown hK hP 50 gA_50 rfl 12 (by decide) (hts (.fieldLink RX7 51 "ShapeReader$Tree" "numbers" "[I") mw_18_13) (fun _ h9 => h9) rfl dX7_putInOrder_28 ?_
        refine lv_iload_n hx hb dX7_putInOrder_31 rfl (lv_at hl 1 rfl) ?_
        refine lv_iload_n hx hb dX7_putInOrder_32 rfl (lv_at hl 2 rfl) ?_
        obtain ⟨hg4, h⟩ := ig h
        refine va_iast hx hb hK hP hD hS 61 52 gA_61 yA_61 (vp_in_iff.mpr hg4) dX7_putInOrder_33 (fun H locs hP hD hS => ?_)
        replace hP := uA_61 hP
        replace hD := hD0 ((stI (stI q1.2 60 x2.toNatClampNeg x1) 61 x1.toNatClampNeg x2))
        refine lv_aload_n hx hb dX7_putInOrder_34 rfl (lv_at hl 0 rfl) ?_
        refine lv_iload_n hx hb dX7_putInOrder_35 rfl (lv_at hl 1 rfl) ?_
        obtain ⟨q5, hc, h⟩ := ib h
        have hF := va_frees hD hS hA
        refine va_calli (va_runV (As := [.int x1]) (rest := []) ⟨hx, hb, hml, hown, hts⟩ (s_X7_rowBehind_50 hc) (cwV 1 hts (gV mw_18_20 mw_18_21 mw_18_22 mw_0_11 mw_52_10) rfl rfl rfl (by decide +kernel) ⟨(Nat.le_of_ble_eq_true rfl), (Nat.le_of_ble_eq_true rfl)⟩) (vV (ci := 7) (q0 := 50) hK hP hD hN rfl gA_50) rfl rfl hl.1 rfl (lv_room (Nat.le_of_ble_eq_true rfl)) dX7_putInOrder_36 ⟨(Nat.le_of_ble_eq_true rfl), (Nat.le_of_ble_eq_true rfl)⟩) hS (fun q _ h => hF q h) hF (fun r6 u t H locs ht hvm hw hB _ _ hS => ?_)
        obtain rfl : r6 = q5.1 := hw
        replace hP : va_P (dC, dI) vwCl (wA a k q5.2) H := by rw [← ht]; exact hB.1
        replace hD := hD0 (q5.2)
        clear hB hF
        refine lv_istore_n (lv' := [(1, .int q5.1), (0, .ref (a 50)), (2, .int x2)]) hx hb dX7_putInOrder_39 rfl hl (by decide) rfl (fun ls hl => ?_)
        refine lv_iinc (v := (x2 + 1)) (lv' := [(2, .int (x2 + 1)), (1, .int q5.1), (0, .ref (a 50))]) hx hb dX7_putInOrder_40 hl (k := 2) rfl rfl (by decide) rfl (fun ls hl => ?_)
        refine lv_goto (tgt := 4) hx hb dX7_putInOrder_43 (by decide) ?_
        exact ih _ _ _ h _ _ _ hP hD hS (lv_sub hl [2, 1, 0] rfl)

set_option maxRecDepth 100000 in
set_option maxHeartbeats 4000000 in
theorem b_X7_putInOrder_e_50 {p : Program} {l : Launch} {e : Env} {s : State} {m : MethodId} {args : Array Value} {below : List Frame} {meth : Method} {c : Code} {dC : Nat → ClassId} {dI : Nat → Nat → Nat} {a : Nat → Nat} {k : Nat → ClassId} {A : Nat → Prop} {q : ST} (hC : CxA p s m args meth c dC dI k A cX7_putInOrder RX7 none 3)    {σ : ST} (h : f_X7_putInOrder 50  σ = some q) : GoA p l e ({ frames := 3, cells := 0, slots := 0, locals := 65 } : Room) s m args below meth c (MQ below (qAv dC dI a k A q) args s 0 0 A) dC dI a k A 3 0 σ (lv_args 0 [.ref (a 50)]) [] := by
  have hC0 := hC
  obtain ⟨hx, hb, hr, hml, hown, hts, hlocks, hA, hN, hK⟩ := hC0
  intro H locs ls hP hD hS hl
  have hD0 : ∀ σ1 : ST, va_D A (wA a k σ1) := fun σ1 => wA_D hD
  replace hl : lv_has ls 3 [(0, .ref (a 50))] := hl
  unfold f_X7_putInOrder at h
  refine lv_iconst (v := 0) hx hb dX7_putInOrder_0 (by decide) ?_
  refine lv_istore_n (lv' := [(1, .int 0), (0, .ref (a 50))]) hx hb dX7_putInOrder_1 rfl hl (by decide) rfl (fun ls hl => ?_)
  refine lv_iconst (v := 0) hx hb dX7_putInOrder_2 (by decide) ?_
  refine lv_istore_n (lv' := [(2, .int 0), (1, .int 0), (0, .ref (a 50))]) hx hb dX7_putInOrder_3 rfl hl (by decide) rfl (fun ls hl => ?_)
  exact b_X7_putInOrder_4_50 hC FU _ _ _ h _ _ _ hP hD hS (lv_sub hl [2, 1, 0] rfl)

theorem s_X7_putInOrder_50 {l : Launch} {dC : Nat → ClassId} {dI : Nat → Nat → Nat} {a : Nat → Nat} {k : Nat → ClassId} {sz : Nat}  {σ : ST} {q : ST} (h : f_X7_putInOrder 50  σ = some q) : Met l yX7_putInOrder (.code yX7_putInOrder cX7_putInOrder 3 none :: pw) ({ frames := 3, cells := 0, slots := 0, locals := 65 } : Room) (va_Pc [.ref (a 50)] (vPre dC dI (wA a k σ) (tA k) sz)) (qAv dC dI a k (va_A (wA a k σ) sz) q) 0 0 (va_A (wA a k σ) sz) := metA (fun A => qAv dC dI a k A q) (plainFor_of_name (by decide)) (Nat.le_of_ble_eq_true rfl) (fun _ _ _ _ _ _ _ _ hC => b_X7_putInOrder_e_50 hC h)

set_option maxRecDepth 100000 in
set_option maxHeartbeats 4000000 in
theorem b_X7_putInOrder_4_62 {p : Program} {l : Launch} {e : Env} {s : State} {m : MethodId} {args : Array Value} {below : List Frame} {meth : Method} {c : Code} {dC : Nat → ClassId} {dI : Nat → Nat → Nat} {a : Nat → Nat} {k : Nat → ClassId} {A : Nat → Prop} {q : ST} (hC : CxA p s m args meth c dC dI k A cX7_putInOrder RX7 none 3)   : ∀ (n : Nat) (x1 : Int32) (x2 : Int32) (σ : ST), f_X7_putInOrder_4 62 n x1 x2 σ = some q → GoA p l e ({ frames := 3, cells := 0, slots := 0, locals := 65 } : Room) s m args below meth c (MQ below (qAv dC dI a k A q) args s 0 0 A) dC dI a k A 3 4 σ [(0, .ref (a 62)), (1, .int x1), (2, .int x2)] [] := by
  intro n
  induction n with
  | zero =>
    intro x1 x2 σ h
    rw [f_X7_putInOrder_4] at h
    cases h
  | succ n ih =>
    intro x1 x2 σ h
    have hC0 := hC
    obtain ⟨hx, hb, hr, hml, hown, hts, hlocks, hA, hN, hK⟩ := hC0
    intro H locs ls hP hD hS hl
    have hD0 : ∀ σ1 : ST, va_D A (wA a k σ1) := fun σ1 => wA_D hD
    rw [f_X7_putInOrder_4] at h
    refine lv_iload_n hx hb dX7_putInOrder_4 rfl (lv_at hl 2 rfl) ?_
    refine lv_aload_n hx hb dX7_putInOrder_5 rfl (lv_at hl 0 rfl) ?_
    refine va_get (D := (dC, dI)) (ci := 7) (C := RX7) (T := TX7) (N := 13) hx hb hts inlX7 hown hK hP 62 gA_62 rfl 1 (by decide) (hts (.fieldLink RX7 9 "ShapeReader$Tree" "size" "I") mw_18_1) (fun _ h9 => h9) rfl dX7_putInOrder_6 ?_
    refine lv_icmp_ge (tgt := 46) hx hb dX7_putInOrder_9 (by decide) (fun hc => ?_) (fun hc => ?_)
    · replace h := ip hc h
      obtain rfl := Option.some.inj h
      exact W.vret hx hb hr (fun t ht hW => ⟨⟨(), rfl, trivial, ⟨by rw [ht]; exact hP, va_K.moved hW.alike hK, hD⟩⟩, hS.F ht⟩) hS.2.2 dX7_putInOrder_46
    · replace h := iq hc h
      refine lv_aload_n hx hb dX7_putInOrder_12 rfl (lv_at hl 0 rfl) ?_
      refine lv_iload_n hx hb dX7_putInOrder_13 rfl (lv_at hl 1 rfl) ?_
      obtain ⟨q1, hc, h⟩ := ib h
      have hF := va_frees hD hS hA
      refine va_calli (va_runV (As := [.int x1]) (rest := []) ⟨hx, hb, hml, hown, hts⟩ (s_X7_isRow_62 hc) (cwV 1 hts (gV mw_18_14 mw_18_15 mw_18_16 mw_0_11 mw_51_24) rfl rfl rfl (by decide +kernel) ⟨(Nat.le_of_ble_eq_true rfl), (Nat.le_of_ble_eq_true rfl)⟩) (vV (ci := 7) (q0 := 62) hK hP hD hN rfl gA_62) rfl rfl hl.1 rfl (lv_room (Nat.le_of_ble_eq_true rfl)) dX7_putInOrder_14 ⟨(Nat.le_of_ble_eq_true rfl), (Nat.le_of_ble_eq_true rfl)⟩) hS (fun q _ h => hF q h) hF (fun r2 u t H locs ht hvm hw hB _ _ hS => ?_)
      obtain rfl : r2 = q1.1 := hw
      replace hP : va_P (dC, dI) vwCl (wA a k q1.2) H := by rw [← ht]; exact hB.1
      replace hD := hD0 (q1.2)
      clear hB hF
      refine lv_if_eq (tgt := 46) hx hb dX7_putInOrder_17 (by decide) (fun hc => ?_) (fun hc => ?_)
      · replace h := ip hc h
        obtain rfl := Option.some.inj h
        exact W.vret hx hb hr (fun t ht hW => ⟨⟨(), rfl, trivial, ⟨by rw [ht]; exact hP, va_K.moved hW.alike hK, hD⟩⟩, hS.F ht⟩) hS.2.2 dX7_putInOrder_46
      · replace h := iq hc h
        refine lv_aload_n hx hb dX7_putInOrder_20 rfl (lv_at hl 0 rfl) ?_
        refine va_get (D := (dC, dI)) (ci := 7) (C := RX7) (T := TX7) (N := 13) hx hb hts inlX7 hown hK hP 62 gA_62 rfl 11 (by decide) (hts (.fieldLink RX7 48 "ShapeReader$Tree" "order" "[I") mw_18_12) (fun _ h9 => h9) rfl dX7_putInOrder_21 ?_
        refine lv_iload_n hx hb dX7_putInOrder_24 rfl (lv_at hl 2 rfl) ?_
        refine lv_iload_n hx hb dX7_putInOrder_25 rfl (lv_at hl 1 rfl) ?_
        obtain ⟨hg3, h⟩ := ig h
        refine va_iast hx hb hK hP hD hS 72 62 gA_72 yA_72 (vp_in_iff.mpr hg3) dX7_putInOrder_26 (fun H locs hP hD hS => ?_)
        replace hP := uA_72 hP
        replace hD := hD0 ((stI q1.2 72 x2.toNatClampNeg x1))
        refine lv_aload_n hx hb dX7_putInOrder_27 rfl (lv_at hl 0 rfl) ?_
        refine va_get (D := (dC, dI)) (ci := 7) (C := RX7) (T := TX7) (N := 13) hx hb hts inlX7 hown hK hP 62 gA_62 rfl 12 (by decide) (hts (.fieldLink RX7 51 "ShapeReader$Tree" "numbers" "[I") mw_18_13) (fun _ h9 => h9) rfl dX7_putInOrder_28 ?_
        refine lv_iload_n hx hb dX7_putInOrder_31 rfl (lv_at hl 1 rfl) ?_
        refine lv_iload_n hx hb dX7_putInOrder_32 rfl (lv_at hl 2 rfl) ?_
        obtain ⟨hg4, h⟩ := ig h
        refine va_iast hx hb hK hP hD hS 73 63 gA_73 yA_73 (vp_in_iff.mpr hg4) dX7_putInOrder_33 (fun H locs hP hD hS => ?_)
        replace hP := uA_73 hP
        replace hD := hD0 ((stI (stI q1.2 72 x2.toNatClampNeg x1) 73 x1.toNatClampNeg x2))
        refine lv_aload_n hx hb dX7_putInOrder_34 rfl (lv_at hl 0 rfl) ?_
        refine lv_iload_n hx hb dX7_putInOrder_35 rfl (lv_at hl 1 rfl) ?_
        obtain ⟨q5, hc, h⟩ := ib h
        have hF := va_frees hD hS hA
        refine va_calli (va_runV (As := [.int x1]) (rest := []) ⟨hx, hb, hml, hown, hts⟩ (s_X7_rowBehind_62 hc) (cwV 1 hts (gV mw_18_20 mw_18_21 mw_18_22 mw_0_11 mw_52_10) rfl rfl rfl (by decide +kernel) ⟨(Nat.le_of_ble_eq_true rfl), (Nat.le_of_ble_eq_true rfl)⟩) (vV (ci := 7) (q0 := 62) hK hP hD hN rfl gA_62) rfl rfl hl.1 rfl (lv_room (Nat.le_of_ble_eq_true rfl)) dX7_putInOrder_36 ⟨(Nat.le_of_ble_eq_true rfl), (Nat.le_of_ble_eq_true rfl)⟩) hS (fun q _ h => hF q h) hF (fun r6 u t H locs ht hvm hw hB _ _ hS => ?_)
        obtain rfl : r6 = q5.1 := hw
        replace hP : va_P (dC, dI) vwCl (wA a k q5.2) H := by rw [← ht]; exact hB.1
        replace hD := hD0 (q5.2)
        clear hB hF
        refine lv_istore_n (lv' := [(1, .int q5.1), (0, .ref (a 62)), (2, .int x2)]) hx hb dX7_putInOrder_39 rfl hl (by decide) rfl (fun ls hl => ?_)
        refine lv_iinc (v := (x2 + 1)) (lv' := [(2, .int (x2 + 1)), (1, .int q5.1), (0, .ref (a 62))]) hx hb dX7_putInOrder_40 hl (k := 2) rfl rfl (by decide) rfl (fun ls hl => ?_)
        refine lv_goto (tgt := 4) hx hb dX7_putInOrder_43 (by decide) ?_
        exact ih _ _ _ h _ _ _ hP hD hS (lv_sub hl [2, 1, 0] rfl)

set_option maxRecDepth 100000 in
set_option maxHeartbeats 4000000 in
theorem b_X7_putInOrder_e_62 {p : Program} {l : Launch} {e : Env} {s : State} {m : MethodId} {args : Array Value} {below : List Frame} {meth : Method} {c : Code} {dC : Nat → ClassId} {dI : Nat → Nat → Nat} {a : Nat → Nat} {k : Nat → ClassId} {A : Nat → Prop} {q : ST} (hC : CxA p s m args meth c dC dI k A cX7_putInOrder RX7 none 3)    {σ : ST} (h : f_X7_putInOrder 62  σ = some q) : GoA p l e ({ frames := 3, cells := 0, slots := 0, locals := 65 } : Room) s m args below meth c (MQ below (qAv dC dI a k A q) args s 0 0 A) dC dI a k A 3 0 σ (lv_args 0 [.ref (a 62)]) [] := by
  have hC0 := hC
  obtain ⟨hx, hb, hr, hml, hown, hts, hlocks, hA, hN, hK⟩ := hC0
  intro H locs ls hP hD hS hl
  have hD0 : ∀ σ1 : ST, va_D A (wA a k σ1) := fun σ1 => wA_D hD
  replace hl : lv_has ls 3 [(0, .ref (a 62))] := hl
  unfold f_X7_putInOrder at h
  refine lv_iconst (v := 0) hx hb dX7_putInOrder_0 (by decide) ?_
  refine lv_istore_n (lv' := [(1, .int 0), (0, .ref (a 62))]) hx hb dX7_putInOrder_1 rfl hl (by decide) rfl (fun ls hl => ?_)
  refine lv_iconst (v := 0) hx hb dX7_putInOrder_2 (by decide) ?_
  refine lv_istore_n (lv' := [(2, .int 0), (1, .int 0), (0, .ref (a 62))]) hx hb dX7_putInOrder_3 rfl hl (by decide) rfl (fun ls hl => ?_)
  exact b_X7_putInOrder_4_62 hC FU _ _ _ h _ _ _ hP hD hS (lv_sub hl [2, 1, 0] rfl)

theorem s_X7_putInOrder_62 {l : Launch} {dC : Nat → ClassId} {dI : Nat → Nat → Nat} {a : Nat → Nat} {k : Nat → ClassId} {sz : Nat}  {σ : ST} {q : ST} (h : f_X7_putInOrder 62  σ = some q) : Met l yX7_putInOrder (.code yX7_putInOrder cX7_putInOrder 3 none :: pw) ({ frames := 3, cells := 0, slots := 0, locals := 65 } : Room) (va_Pc [.ref (a 62)] (vPre dC dI (wA a k σ) (tA k) sz)) (qAv dC dI a k (va_A (wA a k σ) sz) q) 0 0 (va_A (wA a k σ) sz) := metA (fun A => qAv dC dI a k A q) (plainFor_of_name (by decide)) (Nat.le_of_ble_eq_true rfl) (fun _ _ _ _ _ _ _ _ hC => b_X7_putInOrder_e_62 hC h)

set_option maxRecDepth 100000 in
set_option maxHeartbeats 4000000 in
theorem b_X7_putInOrder_4_74 {p : Program} {l : Launch} {e : Env} {s : State} {m : MethodId} {args : Array Value} {below : List Frame} {meth : Method} {c : Code} {dC : Nat → ClassId} {dI : Nat → Nat → Nat} {a : Nat → Nat} {k : Nat → ClassId} {A : Nat → Prop} {q : ST} (hC : CxA p s m args meth c dC dI k A cX7_putInOrder RX7 none 3)   : ∀ (n : Nat) (x1 : Int32) (x2 : Int32) (σ : ST), f_X7_putInOrder_4 74 n x1 x2 σ = some q → GoA p l e ({ frames := 3, cells := 0, slots := 0, locals := 65 } : Room) s m args below meth c (MQ below (qAv dC dI a k A q) args s 0 0 A) dC dI a k A 3 4 σ [(0, .ref (a 74)), (1, .int x1), (2, .int x2)] [] := by
  intro n
  induction n with
  | zero =>
    intro x1 x2 σ h
    rw [f_X7_putInOrder_4] at h
    cases h
  | succ n ih =>
    intro x1 x2 σ h
    have hC0 := hC
    obtain ⟨hx, hb, hr, hml, hown, hts, hlocks, hA, hN, hK⟩ := hC0
    intro H locs ls hP hD hS hl
    have hD0 : ∀ σ1 : ST, va_D A (wA a k σ1) := fun σ1 => wA_D hD
    rw [f_X7_putInOrder_4] at h
    refine lv_iload_n hx hb dX7_putInOrder_4 rfl (lv_at hl 2 rfl) ?_
    refine lv_aload_n hx hb dX7_putInOrder_5 rfl (lv_at hl 0 rfl) ?_
    refine va_get (D := (dC, dI)) (ci := 7) (C := RX7) (T := TX7) (N := 13) hx hb hts inlX7 hown hK hP 74 gA_74 rfl 1 (by decide) (hts (.fieldLink RX7 9 "ShapeReader$Tree" "size" "I") mw_18_1) (fun _ h9 => h9) rfl dX7_putInOrder_6 ?_
    refine lv_icmp_ge (tgt := 46) hx hb dX7_putInOrder_9 (by decide) (fun hc => ?_) (fun hc => ?_)
    · replace h := ip hc h
      obtain rfl := Option.some.inj h
      exact W.vret hx hb hr (fun t ht hW => ⟨⟨(), rfl, trivial, ⟨by rw [ht]; exact hP, va_K.moved hW.alike hK, hD⟩⟩, hS.F ht⟩) hS.2.2 dX7_putInOrder_46
    · replace h := iq hc h
      refine lv_aload_n hx hb dX7_putInOrder_12 rfl (lv_at hl 0 rfl) ?_
      refine lv_iload_n hx hb dX7_putInOrder_13 rfl (lv_at hl 1 rfl) ?_
      obtain ⟨q1, hc, h⟩ := ib h
      have hF := va_frees hD hS hA
      refine va_calli (va_runV (As := [.int x1]) (rest := []) ⟨hx, hb, hml, hown, hts⟩ (s_X7_isRow_74 hc) (cwV 1 hts (gV mw_18_14 mw_18_15 mw_18_16 mw_0_11 mw_51_24) rfl rfl rfl (by decide +kernel) ⟨(Nat.le_of_ble_eq_true rfl), (Nat.le_of_ble_eq_true rfl)⟩) (vV (ci := 7) (q0 := 74) hK hP hD hN rfl gA_74) rfl rfl hl.1 rfl (lv_room (Nat.le_of_ble_eq_true rfl)) dX7_putInOrder_14 ⟨(Nat.le_of_ble_eq_true rfl), (Nat.le_of_ble_eq_true rfl)⟩) hS (fun q _ h => hF q h) hF (fun r2 u t H locs ht hvm hw hB _ _ hS => ?_)
      obtain rfl : r2 = q1.1 := hw
      replace hP : va_P (dC, dI) vwCl (wA a k q1.2) H := by rw [← ht]; exact hB.1
      replace hD := hD0 (q1.2)
      clear hB hF
      refine lv_if_eq (tgt := 46) hx hb dX7_putInOrder_17 (by decide) (fun hc => ?_) (fun hc => ?_)
      · replace h := ip hc h
        obtain rfl := Option.some.inj h
        exact W.vret hx hb hr (fun t ht hW => ⟨⟨(), rfl, trivial, ⟨by rw [ht]; exact hP, va_K.moved hW.alike hK, hD⟩⟩, hS.F ht⟩) hS.2.2 dX7_putInOrder_46
      · replace h := iq hc h
        refine lv_aload_n hx hb dX7_putInOrder_20 rfl (lv_at hl 0 rfl) ?_
        refine va_get (D := (dC, dI)) (ci := 7) (C := RX7) (T := TX7) (N := 13) hx hb hts inlX7 hown hK hP 74 gA_74 rfl 11 (by decide) (hts (.fieldLink RX7 48 "ShapeReader$Tree" "order" "[I") mw_18_12) (fun _ h9 => h9) rfl dX7_putInOrder_21 ?_
        refine lv_iload_n hx hb dX7_putInOrder_24 rfl (lv_at hl 2 rfl) ?_
        refine lv_iload_n hx hb dX7_putInOrder_25 rfl (lv_at hl 1 rfl) ?_
        obtain ⟨hg3, h⟩ := ig h
        refine va_iast hx hb hK hP hD hS 84 73 gA_84 yA_84 (vp_in_iff.mpr hg3) dX7_putInOrder_26 (fun H locs hP hD hS => ?_)
        replace hP := uA_84 hP
        replace hD := hD0 ((stI q1.2 84 x2.toNatClampNeg x1))
        refine lv_aload_n hx hb dX7_putInOrder_27 rfl (lv_at hl 0 rfl) ?_
        refine va_get (D := (dC, dI)) (ci := 7) (C := RX7) (T := TX7) (N := 13) hx hb hts inlX7 hown hK hP 74 gA_74 rfl 12 (by decide) (hts (.fieldLink RX7 51 "ShapeReader$Tree" "numbers" "[I") mw_18_13) (fun _ h9 => h9) rfl dX7_putInOrder_28 ?_
        refine lv_iload_n hx hb dX7_putInOrder_31 rfl (lv_at hl 1 rfl) ?_
        refine lv_iload_n hx hb dX7_putInOrder_32 rfl (lv_at hl 2 rfl) ?_
        obtain ⟨hg4, h⟩ := ig h
        refine va_iast hx hb hK hP hD hS 85 74 gA_85 yA_85 (vp_in_iff.mpr hg4) dX7_putInOrder_33 (fun H locs hP hD hS => ?_)
        replace hP := uA_85 hP
        replace hD := hD0 ((stI (stI q1.2 84 x2.toNatClampNeg x1) 85 x1.toNatClampNeg x2))
        refine lv_aload_n hx hb dX7_putInOrder_34 rfl (lv_at hl 0 rfl) ?_
        refine lv_iload_n hx hb dX7_putInOrder_35 rfl (lv_at hl 1 rfl) ?_
        obtain ⟨q5, hc, h⟩ := ib h
        have hF := va_frees hD hS hA
        refine va_calli (va_runV (As := [.int x1]) (rest := []) ⟨hx, hb, hml, hown, hts⟩ (s_X7_rowBehind_74 hc) (cwV 1 hts (gV mw_18_20 mw_18_21 mw_18_22 mw_0_11 mw_52_10) rfl rfl rfl (by decide +kernel) ⟨(Nat.le_of_ble_eq_true rfl), (Nat.le_of_ble_eq_true rfl)⟩) (vV (ci := 7) (q0 := 74) hK hP hD hN rfl gA_74) rfl rfl hl.1 rfl (lv_room (Nat.le_of_ble_eq_true rfl)) dX7_putInOrder_36 ⟨(Nat.le_of_ble_eq_true rfl), (Nat.le_of_ble_eq_true rfl)⟩) hS (fun q _ h => hF q h) hF (fun r6 u t H locs ht hvm hw hB _ _ hS => ?_)
        obtain rfl : r6 = q5.1 := hw
        replace hP : va_P (dC, dI) vwCl (wA a k q5.2) H := by rw [← ht]; exact hB.1
        replace hD := hD0 (q5.2)
        clear hB hF
        refine lv_istore_n (lv' := [(1, .int q5.1), (0, .ref (a 74)), (2, .int x2)]) hx hb dX7_putInOrder_39 rfl hl (by decide) rfl (fun ls hl => ?_)
        refine lv_iinc (v := (x2 + 1)) (lv' := [(2, .int (x2 + 1)), (1, .int q5.1), (0, .ref (a 74))]) hx hb dX7_putInOrder_40 hl (k := 2) rfl rfl (by decide) rfl (fun ls hl => ?_)
        refine lv_goto (tgt := 4) hx hb dX7_putInOrder_43 (by decide) ?_
        exact ih _ _ _ h _ _ _ hP hD hS (lv_sub hl [2, 1, 0] rfl)

set_option maxRecDepth 100000 in
set_option maxHeartbeats 4000000 in
theorem b_X7_putInOrder_e_74 {p : Program} {l : Launch} {e : Env} {s : State} {m : MethodId} {args : Array Value} {below : List Frame} {meth : Method} {c : Code} {dC : Nat → ClassId} {dI : Nat → Nat → Nat} {a : Nat → Nat} {k : Nat → ClassId} {A : Nat → Prop} {q : ST} (hC : CxA p s m args meth c dC dI k A cX7_putInOrder RX7 none 3)    {σ : ST} (h : f_X7_putInOrder 74  σ = some q) : GoA p l e ({ frames := 3, cells := 0, slots := 0, locals := 65 } : Room) s m args below meth c (MQ below (qAv dC dI a k A q) args s 0 0 A) dC dI a k A 3 0 σ (lv_args 0 [.ref (a 74)]) [] := by
  have hC0 := hC
  obtain ⟨hx, hb, hr, hml, hown, hts, hlocks, hA, hN, hK⟩ := hC0
  intro H locs ls hP hD hS hl
  have hD0 : ∀ σ1 : ST, va_D A (wA a k σ1) := fun σ1 => wA_D hD
  replace hl : lv_has ls 3 [(0, .ref (a 74))] := hl
  unfold f_X7_putInOrder at h
  refine lv_iconst (v := 0) hx hb dX7_putInOrder_0 (by decide) ?_
  refine lv_istore_n (lv' := [(1, .int 0), (0, .ref (a 74))]) hx hb dX7_putInOrder_1 rfl hl (by decide) rfl (fun ls hl => ?_)
  refine lv_iconst (v := 0) hx hb dX7_putInOrder_2 (by decide) ?_
  refine lv_istore_n (lv' := [(2, .int 0), (1, .int 0), (0, .ref (a 74))]) hx hb dX7_putInOrder_3 rfl hl (by decide) rfl (fun ls hl => ?_)
  exact b_X7_putInOrder_4_74 hC FU _ _ _ h _ _ _ hP hD hS (lv_sub hl [2, 1, 0] rfl)

theorem s_X7_putInOrder_74 {l : Launch} {dC : Nat → ClassId} {dI : Nat → Nat → Nat} {a : Nat → Nat} {k : Nat → ClassId} {sz : Nat}  {σ : ST} {q : ST} (h : f_X7_putInOrder 74  σ = some q) : Met l yX7_putInOrder (.code yX7_putInOrder cX7_putInOrder 3 none :: pw) ({ frames := 3, cells := 0, slots := 0, locals := 65 } : Room) (va_Pc [.ref (a 74)] (vPre dC dI (wA a k σ) (tA k) sz)) (qAv dC dI a k (va_A (wA a k σ) sz) q) 0 0 (va_A (wA a k σ) sz) := metA (fun A => qAv dC dI a k A q) (plainFor_of_name (by decide)) (Nat.le_of_ble_eq_true rfl) (fun _ _ _ _ _ _ _ _ hC => b_X7_putInOrder_e_74 hC h)
