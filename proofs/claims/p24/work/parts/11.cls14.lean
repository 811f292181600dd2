theorem dX10_convert_0 : decode cX10_convert 0 = .ok (.aload_n 0, 1) := by decide +kernel
theorem dX10_convert_1 : decode cX10_convert 1 = .ok (.getfield 48, 3) := by decide +kernel
theorem dX10_convert_4 : decode cX10_convert 4 = .ok (.iload_n 1, 1) := by decide +kernel
theorem dX10_convert_5 : decode cX10_convert 5 = .ok (.invokevirtual 205, 3) := by decide +kernel
theorem dX10_convert_8 : decode cX10_convert 8 = .ok (.ifCond .eq 22, 3) := by decide +kernel
theorem dX10_convert_11 : decode cX10_convert 11 = .ok (.aload_n 0, 1) := by decide +kernel
theorem dX10_convert_12 : decode cX10_convert 12 = .ok (.iload_n 2, 1) := by decide +kernel
theorem dX10_convert_13 : decode cX10_convert 13 = .ok (.invokevirtual 144, 3) := by decide +kernel
theorem dX10_convert_16 : decode cX10_convert 16 = .ok (.ifCond .eq 14, 3) := by decide +kernel
theorem dX10_convert_19 : decode cX10_convert 19 = .ok (.aload_n 0, 1) := by decide +kernel
theorem dX10_convert_20 : decode cX10_convert 20 = .ok (.getfield 48, 3) := by decide +kernel
theorem dX10_convert_23 : decode cX10_convert 23 = .ok (.iload_n 3, 1) := by decide +kernel
theorem dX10_convert_24 : decode cX10_convert 24 = .ok (.invokevirtual 140, 3) := by decide +kernel
theorem dX10_convert_27 : decode cX10_convert 27 = .ok (.ifCond .ne 5, 3) := by decide +kernel
theorem dX10_convert_30 : decode cX10_convert 30 = .ok (.iconst (-1), 1) := by decide +kernel
theorem dX10_convert_31 : decode cX10_convert 31 = .ok (.ireturn, 1) := by decide +kernel
theorem dX10_convert_32 : decode cX10_convert 32 = .ok (.aload_n 0, 1) := by decide +kernel
theorem dX10_convert_33 : decode cX10_convert 33 = .ok (.getfield 64, 3) := by decide +kernel
theorem dX10_convert_36 : decode cX10_convert 36 = .ok (.aload_n 0, 1) := by decide +kernel
theorem dX10_convert_37 : decode cX10_convert 37 = .ok (.getfield 48, 3) := by decide +kernel
theorem dX10_convert_40 : decode cX10_convert 40 = .ok (.iload_n 1, 1) := by decide +kernel
theorem dX10_convert_41 : decode cX10_convert 41 = .ok (.invokevirtual 211, 3) := by decide +kernel
theorem dX10_convert_44 : decode cX10_convert 44 = .ok (.iload_n 2, 1) := by decide +kernel
theorem dX10_convert_45 : decode cX10_convert 45 = .ok (.invokevirtual 249, 3) := by decide +kernel
theorem dX10_convert_48 : decode cX10_convert 48 = .ok (.aload_n 0, 1) := by decide +kernel
theorem dX10_convert_49 : decode cX10_convert 49 = .ok (.getfield 104, 3) := by decide +kernel
theorem dX10_convert_52 : decode cX10_convert 52 = .ok (.iload_n 1, 1) := by decide +kernel
theorem dX10_convert_53 : decode cX10_convert 53 = .ok (.iload_n 2, 1) := by decide +kernel
theorem dX10_convert_54 : decode cX10_convert 54 = .ok (.aload_n 0, 1) := by decide +kernel
theorem dX10_convert_55 : decode cX10_convert 55 = .ok (.getfield 73, 3) := by decide +kernel
theorem dX10_convert_58 : decode cX10_convert 58 = .ok (.invokevirtual 252, 3) := by decide +kernel
theorem dX10_convert_61 : decode cX10_convert 61 = .ok (.istore 4, 2) := by decide +kernel
theorem dX10_convert_63 : decode cX10_convert 63 = .ok (.iload 4, 2) := by decide +kernel
theorem dX10_convert_65 : decode cX10_convert 65 = .ok (.ifCond .ge 6, 3) := by decide +kernel
theorem dX10_convert_68 : decode cX10_convert 68 = .ok (.iload 4, 2) := by decide +kernel
theorem dX10_convert_70 : decode cX10_convert 70 = .ok (.ireturn, 1) := by decide +kernel
theorem dX10_convert_71 : decode cX10_convert 71 = .ok (.aload_n 0, 1) := by decide +kernel
theorem dX10_convert_72 : decode cX10_convert 72 = .ok (.getfield 95, 3) := by decide +kernel
theorem dX10_convert_75 : decode cX10_convert 75 = .ok (.aload_n 0, 1) := by decide +kernel
theorem dX10_convert_76 : decode cX10_convert 76 = .ok (.getfield 73, 3) := by decide +kernel
theorem dX10_convert_79 : decode cX10_convert 79 = .ok (.aload_n 0, 1) := by decide +kernel
theorem dX10_convert_80 : decode cX10_convert 80 = .ok (.getfield 29, 3) := by decide +kernel
theorem dX10_convert_83 : decode cX10_convert 83 = .ok (.iload_n 2, 1) := by decide +kernel
theorem dX10_convert_84 : decode cX10_convert 84 = .ok (.invokevirtual 147, 3) := by decide +kernel
theorem dX10_convert_87 : decode cX10_convert 87 = .ok (.invokevirtual 153, 3) := by decide +kernel
theorem dX10_convert_90 : decode cX10_convert 90 = .ok (.aload_n 0, 1) := by decide +kernel
theorem dX10_convert_91 : decode cX10_convert 91 = .ok (.getfield 95, 3) := by decide +kernel
theorem dX10_convert_94 : decode cX10_convert 94 = .ok (.getfield 157, 3) := by decide +kernel
theorem dX10_convert_97 : decode cX10_convert 97 = .ok (.sipush 400, 3) := by decide +kernel
theorem dX10_convert_100 : decode cX10_convert 100 = .ok (.if_icmp .le 6, 3) := by decide +kernel
theorem dX10_convert_103 : decode cX10_convert 103 = .ok (.bipush (-4), 2) := by decide +kernel
theorem dX10_convert_105 : decode cX10_convert 105 = .ok (.ireturn, 1) := by decide +kernel
theorem dX10_convert_106 : decode cX10_convert 106 = .ok (.aload_n 0, 1) := by decide +kernel
theorem dX10_convert_107 : decode cX10_convert 107 = .ok (.getfield 48, 3) := by decide +kernel
theorem dX10_convert_110 : decode cX10_convert 110 = .ok (.iload_n 3, 1) := by decide +kernel
theorem dX10_convert_111 : decode cX10_convert 111 = .ok (.iload_n 2, 1) := by decide +kernel
theorem dX10_convert_112 : decode cX10_convert 112 = .ok (.aload_n 0, 1) := by decide +kernel
theorem dX10_convert_113 : decode cX10_convert 113 = .ok (.getfield 95, 3) := by decide +kernel
theorem dX10_convert_116 : decode cX10_convert 116 = .ok (.invokevirtual 163, 3) := by decide +kernel
theorem dX10_convert_119 : decode cX10_convert 119 = .ok (.aload_n 0, 1) := by decide +kernel
theorem dX10_convert_120 : decode cX10_convert 120 = .ok (.getfield 95, 3) := by decide +kernel
theorem dX10_convert_123 : decode cX10_convert 123 = .ok (.getfield 157, 3) := by decide +kernel
theorem dX10_convert_126 : decode cX10_convert 126 = .ok (.ireturn, 1) := by decide +kernel
theorem dX2_pack_0 : decode cX2_pack 0 = .ok (.aload_n 0, 1) := by decide +kernel
theorem dX2_pack_1 : decode cX2_pack 1 = .ok (.iconst 0, 1) := by decide +kernel
theorem dX2_pack_2 : decode cX2_pack 2 = .ok (.putfield 15, 3) := by decide +kernel
theorem dX2_pack_5 : decode cX2_pack 5 = .ok (.aload_n 0, 1) := by decide +kernel
theorem dX2_pack_6 : decode cX2_pack 6 = .ok (.aload_n 1, 1) := by decide +kernel
theorem dX2_pack_7 : decode cX2_pack 7 = .ok (.iconst 0, 1) := by decide +kernel
theorem dX2_pack_8 : decode cX2_pack 8 = .ok (.iload_n 2, 1) := by decide +kernel
theorem dX2_pack_9 : decode cX2_pack 9 = .ok (.iconst 0, 1) := by decide +kernel
theorem dX2_pack_10 : decode cX2_pack 10 = .ok (.invokevirtual 23, 3) := by decide +kernel
theorem dX2_pack_13 : decode cX2_pack 13 = .ok (.return_, 1) := by decide +kernel
theorem dX9_pairAt_0 : decode cX9_pairAt 0 = .ok (.iload_n 1, 1) := by decide +kernel
theorem dX9_pairAt_1 : decode cX9_pairAt 1 = .ok (.ifCond .lt 25, 3) := by decide +kernel
theorem dX9_pairAt_4 : decode cX9_pairAt 4 = .ok (.iload_n 1, 1) := by decide +kernel
theorem dX9_pairAt_5 : decode cX9_pairAt 5 = .ok (.aload_n 0, 1) := by decide +kernel
theorem dX9_pairAt_6 : decode cX9_pairAt 6 = .ok (.getfield 15, 3) := by decide +kernel
theorem dX9_pairAt_9 : decode cX9_pairAt 9 = .ok (.if_icmp .ge 17, 3) := by decide +kernel
theorem dX9_pairAt_12 : decode cX9_pairAt 12 = .ok (.iload_n 1, 1) := by decide +kernel
theorem dX9_pairAt_13 : decode cX9_pairAt 13 = .ok (.iconst 4, 1) := by decide +kernel
theorem dX9_pairAt_14 : decode cX9_pairAt 14 = .ok (.if_icmp .ge 12, 3) := by decide +kernel
theorem dX9_pairAt_17 : decode cX9_pairAt 17 = .ok (.aload_n 0, 1) := by decide +kernel
theorem dX9_pairAt_18 : decode cX9_pairAt 18 = .ok (.getfield 11, 3) := by decide +kernel
theorem dX9_pairAt_21 : decode cX9_pairAt 21 = .ok (.iload_n 1, 1) := by decide +kernel
theorem dX9_pairAt_22 : decode cX9_pairAt 22 = .ok (.iaload, 1) := by decide +kernel
theorem dX9_pairAt_23 : decode cX9_pairAt 23 = .ok (.goto 4, 3) := by decide +kernel
theorem dX9_pairAt_26 : decode cX9_pairAt 26 = .ok (.iconst (-1), 1) := by decide +kernel
theorem dX9_pairAt_27 : decode cX9_pairAt 27 = .ok (.ireturn, 1) := by decide +kernel
theorem dX9_use_0 : decode cX9_use 0 = .ok (.bipush 10, 2) := by decide +kernel
theorem dX9_use_2 : decode cX9_use 2 = .ok (.iload_n 1, 1) := by decide +kernel
theorem dX9_use_3 : decode cX9_use 3 = .ok (.imul, 1) := by decide +kernel
theorem dX9_use_4 : decode cX9_use 4 = .ok (.iload_n 2, 1) := by decide +kernel
theorem dX9_use_5 : decode cX9_use 5 = .ok (.iadd, 1) := by decide +kernel
theorem dX9_use_6 : decode cX9_use 6 = .ok (.istore_n 3, 1) := by decide +kernel
theorem dX9_use_7 : decode cX9_use 7 = .ok (.iconst 0, 1) := by decide +kernel
theorem dX9_use_8 : decode cX9_use 8 = .ok (.istore 4, 2) := by decide +kernel
theorem dX9_use_10 : decode cX9_use 10 = .ok (.iload 4, 2) := by decide +kernel
theorem dX9_use_12 : decode cX9_use 12 = .ok (.aload_n 0, 1) := by decide +kernel
theorem dX9_use_13 : decode cX9_use 13 = .ok (.getfield 15, 3) := by decide +kernel
theorem dX9_use_16 : decode cX9_use 16 = .ok (.if_icmp .ge 19, 3) := by decide +kernel
theorem dX9_use_19 : decode cX9_use 19 = .ok (.aload_n 0, 1) := by decide +kernel
theorem dX9_use_20 : decode cX9_use 20 = .ok (.iload 4, 2) := by decide +kernel
theorem dX9_use_22 : decode cX9_use 22 = .ok (.invokevirtual 25, 3) := by decide +kernel
theorem dX9_use_25 : decode cX9_use 25 = .ok (.iload_n 3, 1) := by decide +kernel
theorem dX9_use_26 : decode cX9_use 26 = .ok (.if_icmp .eq 9, 3) := by decide +kernel
theorem dX9_use_29 : decode cX9_use 29 = .ok (.iinc 4 1, 3) := by decide +kernel
theorem dX9_use_32 : decode cX9_use 32 = .ok (.goto (-22), 3) := by decide +kernel
theorem dX9_use_35 : decode cX9_use 35 = .ok (.iload 4, 2) := by decide +kernel
theorem dX9_use_37 : decode cX9_use 37 = .ok (.aload_n 0, 1) := by decide +kernel
theorem dX9_use_38 : decode cX9_use 38 = .ok (.getfield 15, 3) := by decide +kernel
theorem dX9_use_41 : decode cX9_use 41 = .ok (.if_icmp .ge 16, 3) := by decide +kernel
theorem dX9_use_44 : decode cX9_use 44 = .ok (.aload_n 0, 1) := by decide +kernel
theorem dX9_use_45 : decode cX9_use 45 = .ok (.dup, 1) := by decide +kernel
theorem dX9_use_46 : decode cX9_use 46 = .ok (.getfield 19, 3) := by decide +kernel
theorem dX9_use_49 : decode cX9_use 49 = .ok (.iconst 1, 1) := by decide +kernel
theorem dX9_use_50 : decode cX9_use 50 = .ok (.iadd, 1) := by decide +kernel
theorem dX9_use_51 : decode cX9_use 51 = .ok (.putfield 19, 3) := by decide +kernel
theorem dX9_use_54 : decode cX9_use 54 = .ok (.goto 35, 3) := by decide +kernel
theorem dX9_use_57 : decode cX9_use 57 = .ok (.aload_n 0, 1) := by decide +kernel
theorem dX9_use_58 : decode cX9_use 58 = .ok (.dup, 1) := by decide +kernel
theorem dX9_use_59 : decode cX9_use 59 = .ok (.getfield 22, 3) := by decide +kernel
theorem dX9_use_62 : decode cX9_use 62 = .ok (.iconst 1, 1) := by decide +kernel
theorem dX9_use_63 : decode cX9_use 63 = .ok (.iadd, 1) := by decide +kernel
theorem dX9_use_64 : decode cX9_use 64 = .ok (.putfield 22, 3) := by decide +kernel
theorem dX9_use_67 : decode cX9_use 67 = .ok (.aload_n 0, 1) := by decide +kernel
theorem dX9_use_68 : decode cX9_use 68 = .ok (.aload_n 0, 1) := by decide +kernel
theorem dX9_use_69 : decode cX9_use 69 = .ok (.getfield 15, 3) := by decide +kernel
theorem dX9_use_72 : decode cX9_use 72 = .ok (.iconst 1, 1) := by decide +kernel
theorem dX9_use_73 : decode cX9_use 73 = .ok (.iadd, 1) := by decide +kernel
theorem dX9_use_74 : decode cX9_use 74 = .ok (.iconst 4, 1) := by decide +kernel
theorem dX9_use_75 : decode cX9_use 75 = .ok (.invokestatic 29, 3) := by decide +kernel
theorem dX9_use_78 : decode cX9_use 78 = .ok (.putfield 15, 3) := by decide +kernel
theorem dX9_use_81 : decode cX9_use 81 = .ok (.aload_n 0, 1) := by decide +kernel
theorem dX9_use_82 : decode cX9_use 82 = .ok (.getfield 15, 3) := by decide +kernel
theorem dX9_use_85 : decode cX9_use 85 = .ok (.iconst 1, 1) := by decide +kernel
theorem dX9_use_86 : decode cX9_use 86 = .ok (.isub, 1) := by decide +kernel
theorem dX9_use_87 : decode cX9_use 87 = .ok (.istore 4, 2) := by decide +kernel
theorem dX9_use_89 : decode cX9_use 89 = .ok (.iload 4, 2) := by decide +kernel
theorem dX9_use_91 : decode cX9_use 91 = .ok (.iconst 3, 1) := by decide +kernel
theorem dX9_use_92 : decode cX9_use 92 = .ok (.invokestatic 29, 3) := by decide +kernel
theorem dX9_use_95 : decode cX9_use 95 = .ok (.istore 5, 2) := by decide +kernel
theorem dX9_use_97 : decode cX9_use 97 = .ok (.iload 5, 2) := by decide +kernel
theorem dX9_use_99 : decode cX9_use 99 = .ok (.ifCond .le 25, 3) := by decide +kernel
theorem dX9_use_102 : decode cX9_use 102 = .ok (.aload_n 0, 1) := by decide +kernel
theorem dX9_use_103 : decode cX9_use 103 = .ok (.getfield 11, 3) := by decide +kernel
theorem dX9_use_106 : decode cX9_use 106 = .ok (.iload 5, 2) := by decide +kernel
theorem dX9_use_108 : decode cX9_use 108 = .ok (.aload_n 0, 1) := by decide +kernel
theorem dX9_use_109 : decode cX9_use 109 = .ok (.getfield 11, 3) := by decide +kernel
theorem dX9_use_112 : decode cX9_use 112 = .ok (.iload 5, 2) := by decide +kernel
theorem dX9_use_114 : decode cX9_use 114 = .ok (.iconst 1, 1) := by decide +kernel
theorem dX9_use_115 : decode cX9_use 115 = .ok (.isub, 1) := by decide +kernel
theorem dX9_use_116 : decode cX9_use 116 = .ok (.iaload, 1) := by decide +kernel
theorem dX9_use_117 : decode cX9_use 117 = .ok (.iastore, 1) := by decide +kernel
theorem dX9_use_118 : decode cX9_use 118 = .ok (.iinc 5 (-1), 3) := by decide +kernel
theorem dX9_use_121 : decode cX9_use 121 = .ok (.goto (-24), 3) := by decide +kernel
theorem dX9_use_124 : decode cX9_use 124 = .ok (.aload_n 0, 1) := by decide +kernel
theorem dX9_use_125 : decode cX9_use 125 = .ok (.getfield 11, 3) := by decide +kernel
theorem dX9_use_128 : decode cX9_use 128 = .ok (.iconst 0, 1) := by decide +kernel
theorem dX9_use_129 : decode cX9_use 129 = .ok (.iload_n 3, 1) := by decide +kernel
theorem dX9_use_130 : decode cX9_use 130 = .ok (.iastore, 1) := by decide +kernel
theorem dX9_use_131 : decode cX9_use 131 = .ok (.return_, 1) := by decide +kernel
def f_X2_packFields_85 (r_X2_packFields : Nat → Int32 → Int32 → Int32 → ST → Option (ST)) (r_X2_packValue : Nat → Int32 → Int32 → Int32 → ST → Option (ST)) (k10 : Int32 → Int32 → Int32 → Int32 → ST → Option (ST)) (t : Nat) (x3 : Int32) (x4 : Int32) (x5 : Int32) (x6 : Int32) (σ : ST) : Option (ST) := k10 x3 x4 x5 (x6 + 1) σ
def f_X2_packFields_76 (r_X2_packFields : Nat → Int32 → Int32 → Int32 → ST → Option (ST)) (r_X2_packValue : Nat → Int32 → Int32 → Int32 → ST → Option (ST)) (k10 : Int32 → Int32 → Int32 → Int32 → ST → Option (ST)) (t : Nat) (x3 : Int32) (x4 : Int32) (x5 : Int32) (x6 : Int32) (x7 : Int32) (σ : ST) : Option (ST) := (f_X2_packElse  x3 x6 x7 σ).bind fun q1 => f_X2_packFields_85 r_X2_packFields r_X2_packValue k10 t x3 x4 x5 x6 q1
def f_X2_packFields_10 (r_X2_packFields : Nat → Int32 → Int32 → Int32 → ST → Option (ST)) (r_X2_packValue : Nat → Int32 → Int32 → Int32 → ST → Option (ST)) (t : Nat) : Nat → Int32 → Int32 → Int32 → Int32 → ST → Option (ST)
  | 0, _, _, _, _, _ => none
  | n + 1, x3, x4, x5, x6, σ => (f_X5_fieldsOf 4 x3 σ).bind fun q1 => if q1.1 ≤ x6 then (some q1.2) else ((f_X5_typeOf 4 x3 x6 q1.2).bind fun q3 => if x5 = (-1) then (f_X2_packFields_76 r_X2_packFields r_X2_packValue (f_X2_packFields_10 r_X2_packFields r_X2_packValue t n) t x3 x4 x5 x6 q3.1 q3.2) else ((f_X7_placeOf t x5 q3.2).bind fun q5 => if q5.1 = x6 then ((r_X2_packValue t x5 q3.1 (x4 + 1) q5.2).bind fun q7 => (f_X7_nextOf t x5 q7).bind fun q9 => f_X2_packFields_85 r_X2_packFields r_X2_packValue (f_X2_packFields_10 r_X2_packFields r_X2_packValue t n) t x3 x4 q9.1 x6 q9.2) else (f_X2_packFields_76 r_X2_packFields r_X2_packValue (f_X2_packFields_10 r_X2_packFields r_X2_packValue t n) t x3 x4 x5 x6 q3.1 q5.2)))
def f_X2_packFields (r_X2_packFields : Nat → Int32 → Int32 → Int32 → ST → Option (ST)) (r_X2_packValue : Nat → Int32 → Int32 → Int32 → ST → Option (ST)) (t : Nat) (p1 : Int32) (p2 : Int32) (p3 : Int32) (σ : ST) : Option (ST) := (f_X7_firstOf t p1 σ).bind fun q1 => f_X2_packFields_10 r_X2_packFields r_X2_packValue t FU p2 p3 q1.1 0 q1.2

def f_X2_packValue_95 (r_X2_packFields : Nat → Int32 → Int32 → Int32 → ST → Option (ST)) (r_X2_packValue : Nat → Int32 → Int32 → Int32 → ST → Option (ST)) (t : Nat) : Nat → Int32 → Int32 → Int32 → Int32 → ST → Option (ST)
  | 0, _, _, _, _, _ => none
  | n + 1, x4, x6, x7, x8, σ => if 200 ≤ x8 then (some σ) else (if x7 = (-1) then (some σ) else ((f_X5_innerOf 4 x6 σ).bind fun q1 => (r_X2_packValue t x7 q1.1 (x4 + 1) q1.2).bind fun q3 => (f_X7_nextOf t x7 q3).bind fun q5 => f_X2_packValue_95 r_X2_packFields r_X2_packValue t n x4 x6 q5.1 (x8 + 1) q5.2))
def f_X2_packValue_39 (r_X2_packFields : Nat → Int32 → Int32 → Int32 → ST → Option (ST)) (r_X2_packValue : Nat → Int32 → Int32 → Int32 → ST → Option (ST)) (t : Nat) (x2 : Int32) (x4 : Int32) (x5 : Int32) (y0 : Int32) (σ : ST) : Option (ST) := if x5 = 7 then ((f_X5_innerOf 4 y0 σ).bind fun q11 => (r_X2_packFields t x2 q11.1 x4 q11.2).bind fun q13 => some q13) else (if x5 = 6 then ((f_X7_sizeOf t x2 σ).bind fun q5 => (f_X2_putNumber  (q5.1.toInt64) q5.2).bind fun q7 => (f_X7_firstOf t x2 q7).bind fun q9 => f_X2_packValue_95 r_X2_packFields r_X2_packValue t FU x4 y0 q9.1 0 q9.2) else ((f_X7_worthOf t x2 σ).bind fun q1 => (f_X2_packPlain  x5 q1.1 q1.2).bind fun q3 => some q3))
def f_X2_packValue (r_X2_packFields : Nat → Int32 → Int32 → Int32 → ST → Option (ST)) (r_X2_packValue : Nat → Int32 → Int32 → Int32 → ST → Option (ST)) (t : Nat) (p1 : Int32) (p2 : Int32) (p3 : Int32) (σ : ST) : Option (ST) := if p3 ≤ 31 then ((f_X7_sortAt t p1 σ).bind fun q1 => (f_X5_sortOf 4 p2 q1.2).bind fun q3 => if q3.1 = 8 then ((f_X2_packBranch  p2 q1.1 q3.2).bind fun q5 => f_X2_packValue_39 r_X2_packFields r_X2_packValue t p1 p3 q1.1 q5.1 q5.2) else (f_X2_packValue_39 r_X2_packFields r_X2_packValue t p1 p3 q1.1 p2 q3.2)) else (some σ)

def R_X2_packFields : Nat → (Nat → Int32 → Int32 → Int32 → ST → Option (ST)) × (Nat → Int32 → Int32 → Int32 → ST → Option (ST))
  | 0 => ((fun _ _ _ _ _ => none), (fun _ _ _ _ _ => none))
  | n + 1 => (f_X2_packFields ((R_X2_packFields n).1) ((R_X2_packFields n).2), f_X2_packValue ((R_X2_packFields n).1) ((R_X2_packFields n).2))
def f_T_X2_packFields (t : Nat) (p1 : Int32) (p2 : Int32) (p3 : Int32) (σ : ST) : Option (ST) := (R_X2_packFields FR).1 t p1 p2 p3 σ
def f_T_X2_packValue (t : Nat) (p1 : Int32) (p2 : Int32) (p3 : Int32) (σ : ST) : Option (ST) := (R_X2_packFields FR).2 t p1 p2 p3 σ

set_option maxRecDepth 100000 in
set_option maxHeartbeats 4000000 in
theorem b_X2_packFields_85_50 {p : Program} {l : Launch} {e : Env} {s : State} {m : MethodId} {args : Array Value} {below : List Frame} {meth : Method} {c : Code} {dC : Nat → ClassId} {dI : Nat → Nat → Nat} {a : Nat → Nat} {k : Nat → ClassId} {A : Nat → Prop} {q : ST} (hC : CxA p s m args meth c dC dI k A cX2_packFields RX2 none 8) {nn : Nat} {r_X2_packFields : Nat → Int32 → Int32 → Int32 → ST → Option (ST)} (hr_X2_packFields : ∀ {sz : Nat} {p1 : Int32} {p2 : Int32} {p3 : Int32} {σ : ST} {q : ST}, r_X2_packFields 50 p1 p2 p3 σ = some q → Met l yX2_packFields (.code yX2_packFields cX2_packFields 8 none :: pw) ({ frames := 5 + nn, cells := 0, slots := 0, locals := 118 + 28 * nn } : Room) (va_Pc [.ref (a 87), .ref (a 50), .int p1, .int p2, .int p3] (vPre dC dI (wA a k σ) (tA k) sz)) (qAv dC dI a k (va_A (wA a k σ) sz) q) 0 0 (va_A (wA a k σ) sz)) {r_X2_packValue : Nat → Int32 → Int32 → Int32 → ST → Option (ST)} (hr_X2_packValue : ∀ {sz : Nat} {p1 : Int32} {p2 : Int32} {p3 : Int32} {σ : ST} {q : ST}, r_X2_packValue 50 p1 p2 p3 σ = some q → Met l yX2_packValue (.code yX2_packValue cX2_packValue 9 none :: pw) ({ frames := 5 + nn, cells := 0, slots := 0, locals := 118 + 28 * nn } : Room) (va_Pc [.ref (a 87), .ref (a 50), .int p1, .int p2, .int p3] (vPre dC dI (wA a k σ) (tA k) sz)) (qAv dC dI a k (va_A (wA a k σ) sz) q) 0 0 (va_A (wA a k σ) sz)) {k10 : Int32 → Int32 → Int32 → Int32 → ST → Option (ST)} (hk10 : ∀ (x3 : Int32) (x4 : Int32) (x5 : Int32) (x6 : Int32) (σ : ST), k10 x3 x4 x5 x6 σ = some q → GoA p l e ({ frames := 5 + (nn + 1), cells := 0, slots := 0, locals := 118 + 28 * (nn + 1) } : Room) s m args below meth c (MQ below (qAv dC dI a k A q) args s 0 0 A) dC dI a k A 8 10 σ [(0, .ref (a 87)), (1, .ref (a 50)), (3, .int x3), (4, .int x4), (5, .int x5), (6, .int x6)] []) {x3 : Int32} {x4 : Int32} {x5 : Int32} {x6 : Int32} {σ : ST} (h : f_X2_packFields_85 r_X2_packFields r_X2_packValue k10 50 x3 x4 x5 x6 σ = some q) : GoA p l e ({ frames := 5 + (nn + 1), cells := 0, slots := 0, locals := 118 + 28 * (nn + 1) } : Room) s m args below meth c (MQ below (qAv dC dI a k A q) args s 0 0 A) dC dI a k A 8 85 σ [(0, .ref (a 87)), (1, .ref (a 50)), (3, .int x3), (4, .int x4), (5, .int x5), (6, .int x6)] [] := by
  have hC0 := hC
  obtain ⟨hx, hb, hr, hml, hown, hts, hlocks, hA, hN, hK⟩ := hC0
  intro H locs ls hP hD hS hl
  have hD0 : ∀ σ1 : ST, va_D A (wA a k σ1) := fun σ1 => wA_D hD
  unfold f_X2_packFields_85 at h
  refine lv_iinc (v := (x6 + 1)) (lv' := [(6, .int (x6 + 1)), (0, .ref (a 87)), (1, .ref (a 50)), (3, .int x3), (4, .int x4), (5, .int x5)]) hx hb dX2_packFields_85 hl (k := 5) rfl rfl (by decide) rfl (fun ls hl => ?_)
  refine lv_goto (tgt := 10) hx hb dX2_packFields_88 (by decide) ?_
  exact hk10 _ _ _ _ _ h _ _ _ hP hD hS (lv_sub hl [1, 2, 3, 4, 5, 0] rfl)

set_option maxRecDepth 100000 in
set_option maxHeartbeats 4000000 in
theorem b_X2_packFields_76_50 {p : Program} {l : Launch} {e : Env} {s : State} {m : MethodId} {args : Array Value} {below : List Frame} {meth : Method} {c : Code} {dC : Nat → ClassId} {dI : Nat → Nat → Nat} {a : Nat → Nat} {k : Nat → ClassId} {A : Nat → Prop} {q : ST} (hC : CxA p s m args meth c dC dI k A cX2_packFields RX2 none 8) {nn : Nat} {r_X2_packFields : Nat → Int32 → Int32 → Int32 → ST → Option (ST)} (hr_X2_packFields : ∀ {sz : Nat} {p1 : Int32} {p2 : Int32} {p3 : Int32} {σ : ST} {q : ST}, r_X2_packFields 50 p1 p2 p3 σ = some q → Met l yX2_packFields (.code yX2_packFields cX2_packFields 8 none :: pw) ({ frames := 5 + nn, cells := 0, slots := 0, locals := 118 + 28 * nn } : Room) (va_Pc [.ref (a 87), .ref (a 50), .int p1, .int p2, .int p3] (vPre dC dI (wA a k σ) (tA k) sz)) (qAv dC dI a k (va_A (wA a k σ) sz) q) 0 0 (va_A (wA a k σ) sz)) {r_X2_packValue : Nat → Int32 → Int32 → Int32 → ST → Option (ST)} (hr_X2_packValue : ∀ {sz : Nat} {p1 : Int32} {p2 : Int32} {p3 : Int32} {σ : ST} {q : ST}, r_X2_packValue 50 p1 p2 p3 σ = some q → Met l yX2_packValue (.code yX2_packValue cX2_packValue 9 none :: pw) ({ frames := 5 + nn, cells := 0, slots := 0, locals := 118 + 28 * nn } : Room) (va_Pc [.ref (a 87), .ref (a 50), .int p1, .int p2, .int p3] (vPre dC dI (wA a k σ) (tA k) sz)) (qAv dC dI a k (va_A (wA a k σ) sz) q) 0 0 (va_A (wA a k σ) sz)) {k10 : Int32 → Int32 → Int32 → Int32 → ST → Option (ST)} (hk10 : ∀ (x3 : Int32) (x4 : Int32) (x5 : Int32) (x6 : Int32) (σ : ST), k10 x3 x4 x5 x6 σ = some q → GoA p l e ({ frames := 5 + (nn + 1), cells := 0, slots := 0, locals := 118 + 28 * (nn + 1) } : Room) s m args below meth c (MQ below (qAv dC dI a k A q) args s 0 0 A) dC dI a k A 8 10 σ [(0, .ref (a 87)), (1, .ref (a 50)), (3, .int x3), (4, .int x4), (5, .int x5), (6, .int x6)] []) {x3 : Int32} {x4 : Int32} {x5 : Int32} {x6 : Int32} {x7 : Int32} {σ : ST} (h : f_X2_packFields_76 r_X2_packFields r_X2_packValue k10 50 x3 x4 x5 x6 x7 σ = some q) : GoA p l e ({ frames := 5 + (nn + 1), cells := 0, slots := 0, locals := 118 + 28 * (nn + 1) } : Room) s m args below meth c (MQ below (qAv dC dI a k A q) args s 0 0 A) dC dI a k A 8 76 σ [(0, .ref (a 87)), (1, .ref (a 50)), (3, .int x3), (4, .int x4), (5, .int x5), (6, .int x6), (7, .int x7)] [] := by
  have hC0 := hC
  obtain ⟨hx, hb, hr, hml, hown, hts, hlocks, hA, hN, hK⟩ := hC0
  intro H locs ls hP hD hS hl
  have hD0 : ∀ σ1 : ST, va_D A (wA a k σ1) := fun σ1 => wA_D hD
  unfold f_X2_packFields_76 at h
  refine lv_aload_n hx hb dX2_packFields_76 rfl (lv_at hl 0 rfl) ?_
  refine lv_iload_n hx hb dX2_packFields_77 rfl (lv_at hl 2 rfl) ?_
  refine lv_iload hx hb dX2_packFields_78 (lv_at hl 5 rfl) ?_
  refine lv_iload hx hb dX2_packFields_80 (lv_at hl 6 rfl) ?_
  obtain ⟨q1, hc, h⟩ := ib h
  have hF := va_frees hD hS hA
  refine va_callv (va_runV (As := [.int x3, .int x6, .int x7]) (rest := []) ⟨hx, hb, hml, hown, hts⟩ (s_X2_packElse hc) (cwV 3 hts (gV mw_6_11 mw_6_12 mw_6_13 mw_0_6 mw_48_14) rfl rfl rfl (by decide +kernel) ⟨by show 4 + 1 ≤ 5 + (nn + 1); omega, by show 8 + (5 + 11) + 94 ≤ 118 + 28 * (nn + 1); omega⟩) (vV (ci := 2) (q0 := 87) hK hP hD hN rfl gA_87) rfl rfl hl.1 rfl (lv_room (Nat.le_of_ble_eq_true rfl)) dX2_packFields_82 ⟨(Nat.le_of_ble_eq_true rfl), (Nat.le_of_ble_eq_true rfl)⟩) hS (fun q _ h => hF q h) hF (fun u t H locs ht hvm hw hB _ _ hS => ?_)
  replace hP : va_P (dC, dI) vwCl (wA a k q1) H := by rw [← ht]; exact hB.1
  replace hD := hD0 (q1)
  clear hB hF
  exact b_X2_packFields_85_50 hC hr_X2_packFields hr_X2_packValue hk10 h _ _ _ hP hD hS (lv_sub hl [0, 1, 2, 3, 4, 5] rfl)

set_option maxRecDepth 100000 in
set_option maxHeartbeats 4000000 in
theorem b_X2_packFields_10_50 {p : Program} {l : Launch} {e : Env} {s : State} {m : MethodId} {args : Array Value} {below : List Frame} {meth : Method} {c : Code} {dC : Nat → ClassId} {dI : Nat → Nat → Nat} {a : Nat → Nat} {k : Nat → ClassId} {A : Nat → Prop} {q : ST} (hC : CxA p s m args meth c dC dI k A cX2_packFields RX2 none 8) {nn : Nat} {r_X2_packFields : Nat → Int32 → Int32 → Int32 → ST → Option (ST)} (hr_X2_packFields : ∀ {sz : Nat} {p1 : Int32} {p2 : Int32} {p3 : Int32} {σ : ST} {q : ST}, r_X2_packFields 50 p1 p2 p3 σ = some q → Met l yX2_packFields (.code yX2_packFields cX2_packFields 8 none :: pw) ({ frames := 5 + nn, cells := 0, slots := 0, locals := 118 + 28 * nn } : Room) (va_Pc [.ref (a 87), .ref (a 50), .int p1, .int p2, .int p3] (vPre dC dI (wA a k σ) (tA k) sz)) (qAv dC dI a k (va_A (wA a k σ) sz) q) 0 0 (va_A (wA a k σ) sz)) {r_X2_packValue : Nat → Int32 → Int32 → Int32 → ST → Option (ST)} (hr_X2_packValue : ∀ {sz : Nat} {p1 : Int32} {p2 : Int32} {p3 : Int32} {σ : ST} {q : ST}, r_X2_packValue 50 p1 p2 p3 σ = some q → Met l yX2_packValue (.code yX2_packValue cX2_packValue 9 none :: pw) ({ frames := 5 + nn, cells := 0, slots := 0, locals := 118 + 28 * nn } : Room) (va_Pc [.ref (a 87), .ref (a 50), .int p1, .int p2, .int p3] (vPre dC dI (wA a k σ) (tA k) sz)) (qAv dC dI a k (va_A (wA a k σ) sz) q) 0 0 (va_A (wA a k σ) sz))  : ∀ (n : Nat) (x3 : Int32) (x4 : Int32) (x5 : Int32) (x6 : Int32) (σ : ST), f_X2_packFields_10 r_X2_packFields r_X2_packValue 50 n x3 x4 x5 x6 σ = some q → GoA p l e ({ frames := 5 + (nn + 1), cells := 0, slots := 0, locals := 118 + 28 * (nn + 1) } : Room) s m args below meth c (MQ below (qAv dC dI a k A q) args s 0 0 A) dC dI a k A 8 10 σ [(0, .ref (a 87)), (1, .ref (a 50)), (3, .int x3), (4, .int x4), (5, .int x5), (6, .int x6)] [] := by
  intro n
  induction n with
  | zero =>
    intro x3 x4 x5 x6 σ h
    rw [f_X2_packFields_10] at h
    cases h
  | succ n ih =>
    intro x3 x4 x5 x6 σ h
    have hC0 := hC
    obtain ⟨hx, hb, hr, hml, hown, hts, hlocks, hA, hN, hK⟩ := hC0
    intro H locs ls hP hD hS hl
    have hD0 : ∀ σ1 : ST, va_D A (wA a k σ1) := fun σ1 => wA_D hD
    rw [f_X2_packFields_10] at h
    refine lv_iload hx hb dX2_packFields_10 (lv_at hl 5 rfl) ?_
    refine lv_aload_n hx hb dX2_packFields_12 rfl (lv_at hl 0 rfl) ?_
    refine va_get (D := (dC, dI)) (ci := 2) (C := RX2) (T := TX2) (N := 3) hx hb hts inlX2 hown hK hP 87 gA_87 rfl 0 (by decide) (hts (.fieldLink RX2 19 "ShapeReader$Packer" "shapes" "LShapeReader$Shapes;") mw_5_2) (fun _ h9 => h9) rfl dX2_packFields_13 ?_
    refine lv_iload_n hx hb dX2_packFields_16 rfl (lv_at hl 2 rfl) ?_
    obtain ⟨q1, hc, h⟩ := ib h
    have hF := va_frees hD hS hA
    refine va_calli (va_runV (As := [.int x3]) (rest := [.int x6]) ⟨hx, hb, hml, hown, hts⟩ (s_X5_fieldsOf_4 hc) (cwV 1 hts (gV mw_6_6 mw_1_28 mw_1_29 mw_0_9 mw_49_29) rfl rfl rfl (by decide +kernel) ⟨by show 1 + 1 ≤ 5 + (nn + 1); omega, by show 8 + (2 + 11) + 20 ≤ 118 + 28 * (nn + 1); omega⟩) (vV (ci := 5) (q0 := 4) hK hP hD hN rfl gA_4) rfl rfl hl.1 rfl (lv_room (Nat.le_of_ble_eq_true rfl)) dX2_packFields_17 ⟨(Nat.le_of_ble_eq_true rfl), (Nat.le_of_ble_eq_true rfl)⟩) hS (fun q _ h => hF q h) hF (fun r2 u t H locs ht hvm hw hB _ _ hS => ?_)
    obtain rfl : r2 = q1.1 := hw
    replace hP : va_P (dC, dI) vwCl (wA a k q1.2) H := by rw [← ht]; exact hB.1
    replace hD := hD0 (q1.2)
    clear hB hF
    refine lv_icmp_ge (tgt := 91) hx hb dX2_packFields_20 (by decide) (fun hc => ?_) (fun hc => ?_)
    · replace h := ip hc h
      obtain rfl := Option.some.inj h
      exact W.vret hx hb hr (fun t ht hW => ⟨⟨(), rfl, trivial, ⟨by rw [ht]; exact hP, va_K.moved hW.alike hK, hD⟩⟩, hS.F ht⟩) hS.2.2 dX2_packFields_91
    · replace h := iq hc h
      refine lv_aload_n hx hb dX2_packFields_23 rfl (lv_at hl 0 rfl) ?_
      refine va_get (D := (dC, dI)) (ci := 2) (C := RX2) (T := TX2) (N := 3) hx hb hts inlX2 hown hK hP 87 gA_87 rfl 0 (by decide) (hts (.fieldLink RX2 19 "ShapeReader$Packer" "shapes" "LShapeReader$Shapes;") mw_5_2) (fun _ h9 => h9) rfl dX2_packFields_24 ?_
      refine lv_iload_n hx hb dX2_packFields_27 rfl (lv_at hl 2 rfl) ?_
      refine lv_iload hx hb dX2_packFields_28 (lv_at hl 5 rfl) ?_
      obtain ⟨q3, hc, h⟩ := ib h
      have hF := va_frees hD hS hA
      refine va_calli (va_runV (As := [.int x3, .int x6]) (rest := []) ⟨hx, hb, hml, hown, hts⟩ (s_X5_typeOf_4 hc) (cwV 2 hts (gV mw_6_7 mw_2_7 mw_2_8 mw_0_9 mw_50_3) rfl rfl rfl (by decide +kernel) ⟨by show 1 + 1 ≤ 5 + (nn + 1); omega, by show 8 + (3 + 11) + 21 ≤ 118 + 28 * (nn + 1); omega⟩) (vV (ci := 5) (q0 := 4) hK hP hD hN rfl gA_4) rfl rfl hl.1 rfl (lv_room (Nat.le_of_ble_eq_true rfl)) dX2_packFields_30 ⟨(Nat.le_of_ble_eq_true rfl), (Nat.le_of_ble_eq_true rfl)⟩) hS (fun q _ h => hF q h) hF (fun r4 u t H locs ht hvm hw hB _ _ hS => ?_)
      obtain rfl : r4 = q3.1 := hw
      replace hP : va_P (dC, dI) vwCl (wA a k q3.2) H := by rw [← ht]; exact hB.1
      replace hD := hD0 (q3.2)
      clear hB hF
      refine lv_istore (lv' := [(7, .int q3.1), (0, .ref (a 87)), (1, .ref (a 50)), (3, .int x3), (4, .int x4), (5, .int x5), (6, .int x6)]) hx hb dX2_packFields_33 hl (by decide) rfl (fun ls hl => ?_)
      refine lv_iload hx hb dX2_packFields_35 (lv_at hl 5 rfl) ?_
      refine lv_iconst (v := (-1)) hx hb dX2_packFields_37 (by decide) ?_
      refine lv_icmp_eq (tgt := 76) hx hb dX2_packFields_38 (by decide) (fun hc => ?_) (fun hc => ?_)
      · replace h := ip hc h
        exact b_X2_packFields_76_50 hC hr_X2_packFields hr_X2_packValue ih h _ _ _ hP hD hS (lv_sub hl [1, 2, 3, 4, 5, 6, 0] rfl)
      · replace h := iq hc h
        refine lv_aload_n hx hb dX2_packFields_41 rfl (lv_at hl 2 rfl) ?_
        refine lv_iload hx hb dX2_packFields_42 (lv_at hl 5 rfl) ?_
        obtain ⟨q5, hc, h⟩ := ib h
        have hF := va_frees hD hS hA
        refine va_calli (va_runV (As := [.int x5]) (rest := []) ⟨hx, hb, hml, hown, hts⟩ (s_X7_placeOf_50 hc) (cwV 1 hts (gV mw_6_8 mw_6_9 mw_6_10 mw_0_11 mw_52_1) rfl rfl rfl (by decide +kernel) ⟨by show 1 + 1 ≤ 5 + (nn + 1); omega, by show 8 + (2 + 11) + 21 ≤ 118 + 28 * (nn + 1); omega⟩) (vV (ci := 7) (q0 := 50) hK hP hD hN rfl gA_50) rfl rfl hl.1 rfl (lv_room (Nat.le_of_ble_eq_true rfl)) dX2_packFields_44 ⟨(Nat.le_of_ble_eq_true rfl), (Nat.le_of_ble_eq_true rfl)⟩) hS (fun q _ h => hF q h) hF (fun r6 u t H locs ht hvm hw hB _ _ hS => ?_)
        obtain rfl : r6 = q5.1 := hw
        replace hP : va_P (dC, dI) vwCl (wA a k q5.2) H := by rw [← ht]; exact hB.1
        replace hD := hD0 (q5.2)
        clear hB hF
        refine lv_iload hx hb dX2_packFields_47 (lv_at hl 6 rfl) ?_
        refine lv_icmp_ne (tgt := 76) hx hb dX2_packFields_49 (by decide) (fun hc => ?_) (fun hc => ?_)
        · replace h := iq hc h
          exact b_X2_packFields_76_50 hC hr_X2_packFields hr_X2_packValue ih h _ _ _ hP hD hS (lv_sub hl [1, 2, 3, 4, 5, 6, 0] rfl)
        · replace h := ip hc h
          refine lv_aload_n hx hb dX2_packFields_52 rfl (lv_at hl 1 rfl) ?_
          refine lv_aload_n hx hb dX2_packFields_53 rfl (lv_at hl 2 rfl) ?_
          refine lv_iload hx hb dX2_packFields_54 (lv_at hl 5 rfl) ?_
          refine lv_iload hx hb dX2_packFields_56 (lv_at hl 0 rfl) ?_
          refine lv_iload hx hb dX2_packFields_58 (lv_at hl 4 rfl) ?_
          refine lv_iconst (v := 1) hx hb dX2_packFields_60 (by decide) ?_
          refine lv_iadd hx hb dX2_packFields_61 ?_
          obtain ⟨q7, hc, h⟩ := ib h
          have hF := va_frees hD hS hA
          refine va_callv (va_runV (As := [.ref (a 50), .int x5, .int q3.1, .int (x4 + 1)]) (rest := []) ⟨hx, hb, hml, hown, hts⟩ (hr_X2_packValue hc) (cwV 4 hts (gV mw_5_3 mw_5_4 mw_5_5 mw_0_6 mw_48_11) rfl rfl rfl (by decide +kernel) ⟨by show (5 + nn) + 1 ≤ 5 + (nn + 1); omega, by show 8 + (9 + 11) + (118 + 28 * nn) ≤ 118 + 28 * (nn + 1); omega⟩) (vV (ci := 2) (q0 := 87) hK hP hD hN rfl gA_87) rfl rfl hl.1 rfl (lv_room (Nat.le_of_ble_eq_true rfl)) dX2_packFields_62 ⟨(Nat.le_of_ble_eq_true rfl), (Nat.le_of_ble_eq_true rfl)⟩) hS (fun q _ h => hF q h) hF (fun u t H locs ht hvm hw hB _ _ hS => ?_)
          replace hP : va_P (dC, dI) vwCl (wA a k q7) H := by rw [← ht]; exact hB.1
          replace hD := hD0 (q7)
          clear hB hF
          refine lv_aload_n hx hb dX2_packFields_65 rfl (lv_at hl 2 rfl) ?_
          refine lv_iload hx hb dX2_packFields_66 (lv_at hl 5 rfl) ?_
          obtain ⟨q9, hc, h⟩ := ib h
          have hF := va_frees hD hS hA
          refine va_calli (va_runV (As := [.int x5]) (rest := []) ⟨hx, hb, hml, hown, hts⟩ (s_X7_nextOf_50 hc) (cwV 1 hts (gV mw_5_26 mw_5_27 mw_5_28 mw_0_11 mw_52_6) rfl rfl rfl (by decide +kernel) ⟨by show 1 + 1 ≤ 5 + (nn + 1); omega, by show 8 + (2 + 11) + 21 ≤ 118 + 28 * (nn + 1); omega⟩) (vV (ci := 7) (q0 := 50) hK hP hD hN rfl gA_50) rfl rfl hl.1 rfl (lv_room (Nat.le_of_ble_eq_true rfl)) dX2_packFields_68 ⟨(Nat.le_of_ble_eq_true rfl), (Nat.le_of_ble_eq_true rfl)⟩) hS (fun q _ h => hF q h) hF (fun r10 u t H locs ht hvm hw hB _ _ hS => ?_)
          obtain rfl : r10 = q9.1 := hw
          replace hP : va_P (dC, dI) vwCl (wA a k q9.2) H := by rw [← ht]; exact hB.1
          replace hD := hD0 (q9.2)
          clear hB hF
          refine lv_istore (lv' := [(5, .int q9.1), (7, .int q3.1), (0, .ref (a 87)), (1, .ref (a 50)), (3, .int x3), (4, .int x4), (6, .int x6)]) hx hb dX2_packFields_71 hl (by decide) rfl (fun ls hl => ?_)
          refine lv_goto (tgt := 85) hx hb dX2_packFields_73 (by decide) ?_
          exact b_X2_packFields_85_50 hC hr_X2_packFields hr_X2_packValue ih h _ _ _ hP hD hS (lv_sub hl [2, 3, 4, 5, 0, 6] rfl)

set_option maxRecDepth 100000 in
set_option maxHeartbeats 4000000 in
theorem b_X2_packFields_e_50 {p : Program} {l : Launch} {e : Env} {s : State} {m : MethodId} {args : Array Value} {below : List Frame} {meth : Method} {c : Code} {dC : Nat → ClassId} {dI : Nat → Nat → Nat} {a : Nat → Nat} {k : Nat → ClassId} {A : Nat → Prop} {q : ST} (hC : CxA p s m args meth c dC dI k A cX2_packFields RX2 none 8) {nn : Nat} {r_X2_packFields : Nat → Int32 → Int32 → Int32 → ST → Option (ST)} (hr_X2_packFields : ∀ {sz : Nat} {p1 : Int32} {p2 : Int32} {p3 : Int32} {σ : ST} {q : ST}, r_X2_packFields 50 p1 p2 p3 σ = some q → Met l yX2_packFields (.code yX2_packFields cX2_packFields 8 none :: pw) ({ frames := 5 + nn, cells := 0, slots := 0, locals := 118 + 28 * nn } : Room) (va_Pc [.ref (a 87), .ref (a 50), .int p1, .int p2, .int p3] (vPre dC dI (wA a k σ) (tA k) sz)) (qAv dC dI a k (va_A (wA a k σ) sz) q) 0 0 (va_A (wA a k σ) sz)) {r_X2_packValue : Nat → Int32 → Int32 → Int32 → ST → Option (ST)} (hr_X2_packValue : ∀ {sz : Nat} {p1 : Int32} {p2 : Int32} {p3 : Int32} {σ : ST} {q : ST}, r_X2_packValue 50 p1 p2 p3 σ = some q → Met l yX2_packValue (.code yX2_packValue cX2_packValue 9 none :: pw) ({ frames := 5 + nn, cells := 0, slots := 0, locals := 118 + 28 * nn } : Room) (va_Pc [.ref (a 87), .ref (a 50), .int p1, .int p2, .int p3] (vPre dC dI (wA a k σ) (tA k) sz)) (qAv dC dI a k (va_A (wA a k σ) sz) q) 0 0 (va_A (wA a k σ) sz))  {p1 : Int32} {p2 : Int32} {p3 : Int32} {σ : ST} (h : f_X2_packFields r_X2_packFields r_X2_packValue 50 p1 p2 p3 σ = some q) : GoA p l e ({ frames := 5 + (nn + 1), cells := 0, slots := 0, locals := 118 + 28 * (nn + 1) } : Room) s m args below meth c (MQ below (qAv dC dI a k A q) args s 0 0 A) dC dI a k A 8 0 σ (lv_args 0 [.ref (a 87), .ref (a 50), .int p1, .int p2, .int p3]) [] := by
  have hC0 := hC
  obtain ⟨hx, hb, hr, hml, hown, hts, hlocks, hA, hN, hK⟩ := hC0
  intro H locs ls hP hD hS hl
  have hD0 : ∀ σ1 : ST, va_D A (wA a k σ1) := fun σ1 => wA_D hD
  replace hl : lv_has ls 8 [(0, .ref (a 87)), (1, .ref (a 50)), (2, .int p1), (3, .int p2), (4, .int p3)] := hl
  unfold f_X2_packFields at h
  refine lv_aload_n hx hb dX2_packFields_0 rfl (lv_at hl 1 rfl) ?_
  refine lv_iload_n hx hb dX2_packFields_1 rfl (lv_at hl 2 rfl) ?_
  obtain ⟨q1, hc, h⟩ := ib h
  have hF := va_frees hD hS hA
  refine va_calli (va_runV (As := [.int p1]) (rest := []) ⟨hx, hb, hml, hown, hts⟩ (s_X7_firstOf_50 hc) (cwV 1 hts (gV mw_5_23 mw_5_24 mw_5_25 mw_0_11 mw_52_5) rfl rfl rfl (by decide +kernel) ⟨by show 1 + 1 ≤ 5 + (nn + 1); omega, by show 8 + (2 + 11) + 21 ≤ 118 + 28 * (nn + 1); omega⟩) (vV (ci := 7) (q0 := 50) hK hP hD hN rfl gA_50) rfl rfl hl.1 rfl (lv_room (Nat.le_of_ble_eq_true rfl)) dX2_packFields_2 ⟨(Nat.le_of_ble_eq_true rfl), (Nat.le_of_ble_eq_true rfl)⟩) hS (fun q _ h => hF q h) hF (fun r2 u t H locs ht hvm hw hB _ _ hS => ?_)
  obtain rfl : r2 = q1.1 := hw
  replace hP : va_P (dC, dI) vwCl (wA a k q1.2) H := by rw [← ht]; exact hB.1
  replace hD := hD0 (q1.2)
  clear hB hF
  refine lv_istore (lv' := [(5, .int q1.1), (0, .ref (a 87)), (1, .ref (a 50)), (2, .int p1), (3, .int p2), (4, .int p3)]) hx hb dX2_packFields_5 hl (by decide) rfl (fun ls hl => ?_)
  refine lv_iconst (v := 0) hx hb dX2_packFields_7 (by decide) ?_
  refine lv_istore (lv' := [(6, .int 0), (5, .int q1.1), (0, .ref (a 87)), (1, .ref (a 50)), (2, .int p1), (3, .int p2), (4, .int p3)]) hx hb dX2_packFields_8 hl (by decide) rfl (fun ls hl => ?_)
  exact b_X2_packFields_10_50 hC hr_X2_packFields hr_X2_packValue FU _ _ _ _ _ h _ _ _ hP hD hS (lv_sub hl [2, 3, 5, 6, 1, 0] rfl)


set_option maxRecDepth 100000 in
set_option maxHeartbeats 4000000 in
theorem b_X2_packValue_95_50 {p : Program} {l : Launch} {e : Env} {s : State} {m : MethodId} {args : Array Value} {below : List Frame} {meth : Method} {c : Code} {dC : Nat → ClassId} {dI : Nat → Nat → Nat} {a : Nat → Nat} {k : Nat → ClassId} {A : Nat → Prop} {q : ST} (hC : CxA p s m args meth c dC dI k A cX2_packValue RX2 none 9) {nn : Nat} {r_X2_packFields : Nat → Int32 → Int32 → Int32 → ST → Option (ST)} (hr_X2_packFields : ∀ {sz : Nat} {p1 : Int32} {p2 : Int32} {p3 : Int32} {σ : ST} {q : ST}, r_X2_packFields 50 p1 p2 p3 σ = some q → Met l yX2_packFields (.code yX2_packFields cX2_packFields 8 none :: pw) ({ frames := 5 + nn, cells := 0, slots := 0, locals := 118 + 28 * nn } : Room) (va_Pc [.ref (a 87), .ref (a 50), .int p1, .int p2, .int p3] (vPre dC dI (wA a k σ) (tA k) sz)) (qAv dC dI a k (va_A (wA a k σ) sz) q) 0 0 (va_A (wA a k σ) sz)) {r_X2_packValue : Nat → Int32 → Int32 → Int32 → ST → Option (ST)} (hr_X2_packValue : ∀ {sz : Nat} {p1 : Int32} {p2 : Int32} {p3 : Int32} {σ : ST} {q : ST}, r_X2_packValue 50 p1 p2 p3 σ = some q → Met l yX2_packValue (.code yX2_packValue cX2_packValue 9 none :: pw) ({ frames := 5 + nn, cells := 0, slots := 0, locals := 118 + 28 * nn } : Room) (va_Pc [.ref (a 87), .ref (a 50), .int p1, .int p2, .int p3] (vPre dC dI (wA a k σ) (tA k) sz)) (qAv dC dI a k (va_A (wA a k σ) sz) q) 0 0 (va_A (wA a k σ) sz))  : ∀ (n : Nat) (x4 : Int32) (x6 : Int32) (x7 : Int32) (x8 : Int32) (σ : ST), f_X2_packValue_95 r_X2_packFields r_X2_packValue 50 n x4 x6 x7 x8 σ = some q → GoA p l e ({ frames := 5 + (nn + 1), cells := 0, slots := 0, locals := 118 + 28 * (nn + 1) } : Room) s m args below meth c (MQ below (qAv dC dI a k A q) args s 0 0 A) dC dI a k A 9 95 σ [(0, .ref (a 87)), (1, .ref (a 50)), (4, .int x4), (6, .int x6), (7, .int x7), (8, .int x8)] [] := by
  intro n
  induction n with
  | zero =>
    intro x4 x6 x7 x8 σ h
    rw [f_X2_packValue_95] at h
    cases h
  | succ n ih =>
    intro x4 x6 x7 x8 σ h
    have hC0 := hC
    obtain ⟨hx, hb, hr, hml, hown, hts, hlocks, hA, hN, hK⟩ := hC0
    intro H locs ls hP hD hS hl
    have hD0 : ∀ σ1 : ST, va_D A (wA a k σ1) := fun σ1 => wA_D hD
    rw [f_X2_packValue_95] at h
    refine lv_iload hx hb dX2_packValue_95 (lv_at hl 5 rfl) ?_
    refine lv_sipush (v := 200) hx hb dX2_packValue_97 (by decide) ?_
    refine lv_icmp_ge (tgt := 143) hx hb dX2_packValue_100 (by decide) (fun hc => ?_) (fun hc => ?_)
    · replace h := ip hc h
      refine lv_goto (tgt := 157) hx hb dX2_packValue_143 (by decide) ?_
      obtain rfl := Option.some.inj h
      exact W.vret hx hb hr (fun t ht hW => ⟨⟨(), rfl, trivial, ⟨by rw [ht]; exact hP, va_K.moved hW.alike hK, hD⟩⟩, hS.F ht⟩) hS.2.2 dX2_packValue_157
    · replace h := iq hc h
      refine lv_iload hx hb dX2_packValue_103 (lv_at hl 4 rfl) ?_
      refine lv_iconst (v := (-1)) hx hb dX2_packValue_105 (by decide) ?_
      refine lv_icmp_eq (tgt := 143) hx hb dX2_packValue_106 (by decide) (fun hc => ?_) (fun hc => ?_)
      · replace h := ip hc h
        refine lv_goto (tgt := 157) hx hb dX2_packValue_143 (by decide) ?_
        obtain rfl := Option.some.inj h
        exact W.vret hx hb hr (fun t ht hW => ⟨⟨(), rfl, trivial, ⟨by rw [ht]; exact hP, va_K.moved hW.alike hK, hD⟩⟩, hS.F ht⟩) hS.2.2 dX2_packValue_157
      · replace h := iq hc h
        refine lv_aload_n hx hb dX2_packValue_109 rfl (lv_at hl 0 rfl) ?_
        refine lv_aload_n hx hb dX2_packValue_110 rfl (lv_at hl 1 rfl) ?_
        refine lv_iload hx hb dX2_packValue_111 (lv_at hl 4 rfl) ?_
        refine lv_aload_n hx hb dX2_packValue_113 rfl (lv_at hl 0 rfl) ?_
        refine va_get (D := (dC, dI)) (ci := 2) (C := RX2) (T := TX2) (N := 3) hx hb hts inlX2 hown hK hP 87 gA_87 rfl 0 (by decide) (hts (.fieldLink RX2 19 "ShapeReader$Packer" "shapes" "LShapeReader$Shapes;") mw_5_2) (fun _ h9 => h9) rfl dX2_packValue_114 ?_
        refine lv_iload hx hb dX2_packValue_117 (lv_at hl 3 rfl) ?_
        obtain ⟨q1, hc, h⟩ := ib h
        have hF := va_frees hD hS hA
        refine va_calli (va_runV (As := [.int x6]) (rest := [.int x7, .ref (a 50), .ref (a 87)]) ⟨hx, hb, hml, hown, hts⟩ (s_X5_innerOf_4 hc) (cwV 1 hts (gV mw_5_13 mw_2_16 mw_2_17 mw_0_9 mw_50_7) rfl rfl rfl (by decide +kernel) ⟨by show 1 + 1 ≤ 5 + (nn + 1); omega, by show 8 + (2 + 11) + 21 ≤ 118 + 28 * (nn + 1); omega⟩) (vV (ci := 5) (q0 := 4) hK hP hD hN rfl gA_4) rfl rfl hl.1 rfl (lv_room (Nat.le_of_ble_eq_true rfl)) dX2_packValue_119 ⟨(Nat.le_of_ble_eq_true rfl), (Nat.le_of_ble_eq_true rfl)⟩) hS (fun q _ h => hF q h) hF (fun r2 u t H locs ht hvm hw hB _ _ hS => ?_)
        obtain rfl : r2 = q1.1 := hw
        replace hP : va_P (dC, dI) vwCl (wA a k q1.2) H := by rw [← ht]; exact hB.1
        replace hD := hD0 (q1.2)
        clear hB hF
        refine lv_iload hx hb dX2_packValue_122 (lv_at hl 2 rfl) ?_
        refine lv_iconst (v := 1) hx hb dX2_packValue_124 (by decide) ?_
        refine lv_iadd hx hb dX2_packValue_125 ?_
        obtain ⟨q3, hc, h⟩ := ib h
        have hF := va_frees hD hS hA
        refine va_callv (va_runV (As := [.ref (a 50), .int x7, .int q1.1, .int (x4 + 1)]) (rest := []) ⟨hx, hb, hml, hown, hts⟩ (hr_X2_packValue hc) (cwV 4 hts (gV mw_5_3 mw_5_4 mw_5_5 mw_0_6 mw_48_11) rfl rfl rfl (by decide +kernel) ⟨by show (5 + nn) + 1 ≤ 5 + (nn + 1); omega, by show 8 + (9 + 11) + (118 + 28 * nn) ≤ 118 + 28 * (nn + 1); omega⟩) (vV (ci := 2) (q0 := 87) hK hP hD hN rfl gA_87) rfl rfl hl.1 rfl (lv_room (Nat.le_of_ble_eq_true rfl)) dX2_packValue_126 ⟨(Nat.le_of_ble_eq_true rfl), (Nat.le_of_ble_eq_true rfl)⟩) hS (fun q _ h => hF q h) hF (fun u t H locs ht hvm hw hB _ _ hS => ?_)
        replace hP : va_P (dC, dI) vwCl (wA a k q3) H := by rw [← ht]; exact hB.1
        replace hD := hD0 (q3)
        clear hB hF
        refine lv_aload_n hx hb dX2_packValue_129 rfl (lv_at hl 1 rfl) ?_
        refine lv_iload hx hb dX2_packValue_130 (lv_at hl 4 rfl) ?_
        obtain ⟨q5, hc, h⟩ := ib h
        have hF := va_frees hD hS hA
        refine va_calli (va_runV (As := [.int x7]) (rest := []) ⟨hx, hb, hml, hown, hts⟩ (s_X7_nextOf_50 hc) (cwV 1 hts (gV mw_5_26 mw_5_27 mw_5_28 mw_0_11 mw_52_6) rfl rfl rfl (by decide +kernel) ⟨by show 1 + 1 ≤ 5 + (nn + 1); omega, by show 8 + (2 + 11) + 21 ≤ 118 + 28 * (nn + 1); omega⟩) (vV (ci := 7) (q0 := 50) hK hP hD hN rfl gA_50) rfl rfl hl.1 rfl (lv_room (Nat.le_of_ble_eq_true rfl)) dX2_packValue_132 ⟨(Nat.le_of_ble_eq_true rfl), (Nat.le_of_ble_eq_true rfl)⟩) hS (fun q _ h => hF q h) hF (fun r6 u t H locs ht hvm hw hB _ _ hS => ?_)
        obtain rfl : r6 = q5.1 := hw
        replace hP : va_P (dC, dI) vwCl (wA a k q5.2) H := by rw [← ht]; exact hB.1
        replace hD := hD0 (q5.2)
        clear hB hF
        refine lv_istore (lv' := [(7, .int q5.1), (0, .ref (a 87)), (1, .ref (a 50)), (4, .int x4), (6, .int x6), (8, .int x8)]) hx hb dX2_packValue_135 hl (by decide) rfl (fun ls hl => ?_)
        refine lv_iinc (v := (x8 + 1)) (lv' := [(8, .int (x8 + 1)), (7, .int q5.1), (0, .ref (a 87)), (1, .ref (a 50)), (4, .int x4), (6, .int x6)]) hx hb dX2_packValue_137 hl (k := 5) rfl rfl (by decide) rfl (fun ls hl => ?_)
        refine lv_goto (tgt := 95) hx hb dX2_packValue_140 (by decide) ?_
        exact ih _ _ _ _ _ h _ _ _ hP hD hS (lv_sub hl [2, 3, 4, 5, 1, 0] rfl)

set_option maxRecDepth 100000 in
set_option maxHeartbeats 4000000 in
theorem b_X2_packValue_39_50 {p : Program} {l : Launch} {e : Env} {s : State} {m : MethodId} {args : Array Value} {below : List Frame} {meth : Method} {c : Code} {dC : Nat → ClassId} {dI : Nat → Nat → Nat} {a : Nat → Nat} {k : Nat → ClassId} {A : Nat → Prop} {q : ST} (hC : CxA p s m args meth c dC dI k A cX2_packValue RX2 none 9) {nn : Nat} {r_X2_packFields : Nat → Int32 → Int32 → Int32 → ST → Option (ST)} (hr_X2_packFields : ∀ {sz : Nat} {p1 : Int32} {p2 : Int32} {p3 : Int32} {σ : ST} {q : ST}, r_X2_packFields 50 p1 p2 p3 σ = some q → Met l yX2_packFields (.code yX2_packFields cX2_packFields 8 none :: pw) ({ frames := 5 + nn, cells := 0, slots := 0, locals := 118 + 28 * nn } : Room) (va_Pc [.ref (a 87), .ref (a 50), .int p1, .int p2, .int p3] (vPre dC dI (wA a k σ) (tA k) sz)) (qAv dC dI a k (va_A (wA a k σ) sz) q) 0 0 (va_A (wA a k σ) sz)) {r_X2_packValue : Nat → Int32 → Int32 → Int32 → ST → Option (ST)} (hr_X2_packValue : ∀ {sz : Nat} {p1 : Int32} {p2 : Int32} {p3 : Int32} {σ : ST} {q : ST}, r_X2_packValue 50 p1 p2 p3 σ = some q → Met l yX2_packValue (.code yX2_packValue cX2_packValue 9 none :: pw) ({ frames := 5 + nn, cells := 0, slots := 0, locals := 118 + 28 * nn } : Room) (va_Pc [.ref (a 87), .ref (a 50), .int p1, .int p2, .int p3] (vPre dC dI (wA a k σ) (tA k) sz)) (qAv dC dI a k (va_A (wA a k σ) sz) q) 0 0 (va_A (wA a k σ) sz))  {x2 : Int32} {x4 : Int32} {x5 : Int32} {y0 : Int32} {σ : ST} (h : f_X2_packValue_39 r_X2_packFields r_X2_packValue 50 x2 x4 x5 y0 σ = some q) : GoA p l e ({ frames := 5 + (nn + 1), cells := 0, slots := 0, locals := 118 + 28 * (nn + 1) } : Room) s m args below meth c (MQ below (qAv dC dI a k A q) args s 0 0 A) dC dI a k A 9 39 σ [(0, .ref (a 87)), (1, .ref (a 50)), (2, .int x2), (4, .int x4), (5, .int x5)] [.int y0] := by
  have hC0 := hC
  obtain ⟨hx, hb, hr, hml, hown, hts, hlocks, hA, hN, hK⟩ := hC0
  intro H locs ls hP hD hS hl
  have hD0 : ∀ σ1 : ST, va_D A (wA a k σ1) := fun σ1 => wA_D hD
  unfold f_X2_packValue_39 at h
  refine lv_istore (lv' := [(6, .int y0), (0, .ref (a 87)), (1, .ref (a 50)), (2, .int x2), (4, .int x4), (5, .int x5)]) hx hb dX2_packValue_39 hl (by decide) rfl (fun ls hl => ?_)
  refine lv_iload hx hb dX2_packValue_41 (lv_at hl 5 rfl) ?_
  refine lv_bipush (v := 7) hx hb dX2_packValue_43 (by decide) ?_
  refine lv_icmp_ne (tgt := 68) hx hb dX2_packValue_45 (by decide) (fun hc => ?_) (fun hc => ?_)
  · replace h := iq hc h
    refine lv_iload hx hb dX2_packValue_68 (lv_at hl 5 rfl) ?_
    refine lv_bipush (v := 6) hx hb dX2_packValue_70 (by decide) ?_
    refine lv_icmp_ne (tgt := 146) hx hb dX2_packValue_72 (by decide) (fun hc => ?_) (fun hc => ?_)
    · replace h := iq hc h
      refine lv_aload_n hx hb dX2_packValue_146 rfl (lv_at hl 1 rfl) ?_
      refine lv_iload hx hb dX2_packValue_147 (lv_at hl 5 rfl) ?_
      refine lv_aload_n hx hb dX2_packValue_149 rfl (lv_at hl 2 rfl) ?_
      refine lv_iload_n hx hb dX2_packValue_150 rfl (lv_at hl 3 rfl) ?_
      obtain ⟨q1, hc, h⟩ := ib h
      have hF := va_frees hD hS hA
      refine va_calll (va_runV (As := [.int x2]) (rest := [.int x5, .ref (a 87)]) ⟨hx, hb, hml, hown, hts⟩ (s_X7_worthOf_50 hc) (cwV 1 hts (gV mw_5_29 mw_6_0 mw_6_1 mw_0_11 mw_52_4) rfl rfl rfl (by decide +kernel) ⟨by show 1 + 1 ≤ 5 + (nn + 1); omega, by show 8 + (2 + 11) + 21 ≤ 118 + 28 * (nn + 1); omega⟩) (vV (ci := 7) (q0 := 50) hK hP hD hN rfl gA_50) rfl rfl hl.1 rfl (lv_room (Nat.le_of_ble_eq_true rfl)) dX2_packValue_151 ⟨(Nat.le_of_ble_eq_true rfl), (Nat.le_of_ble_eq_true rfl)⟩) hS (fun q _ h => hF q h) hF (fun r2 u t H locs ht hvm hw hB _ _ hS => ?_)
      obtain rfl : r2 = q1.1 := hw
      replace hP : va_P (dC, dI) vwCl (wA a k q1.2) H := by rw [← ht]; exact hB.1
      replace hD := hD0 (q1.2)
      clear hB hF
      obtain ⟨q3, hc, h⟩ := ib h
      have hF := va_frees hD hS hA
      refine va_callv (va_runV (As := [.int x5, .long q1.1]) (rest := []) ⟨hx, hb, hml, hown, hts⟩ (s_X2_packPlain hc) (cwV 2 hts (gV mw_6_2 mw_6_3 mw_6_4 mw_0_6 mw_48_15) rfl rfl rfl (by decide +kernel) ⟨by show 3 + 1 ≤ 5 + (nn + 1); omega, by show 8 + (5 + 11) + 70 ≤ 118 + 28 * (nn + 1); omega⟩) (vV (ci := 2) (q0 := 87) hK hP hD hN rfl gA_87) rfl rfl hl.1 rfl (lv_room (Nat.le_of_ble_eq_true rfl)) dX2_packValue_154 ⟨(Nat.le_of_ble_eq_true rfl), (Nat.le_of_ble_eq_true rfl)⟩) hS (fun q _ h => hF q h) hF (fun u t H locs ht hvm hw hB _ _ hS => ?_)
      replace hP : va_P (dC, dI) vwCl (wA a k q3) H := by rw [← ht]; exact hB.1
      replace hD := hD0 (q3)
      clear hB hF
      obtain rfl := Option.some.inj h
      exact W.vret hx hb hr (fun t ht hW => ⟨⟨(), rfl, trivial, ⟨by rw [ht]; exact hP, va_K.moved hW.alike hK, hD⟩⟩, hS.F ht⟩) hS.2.2 dX2_packValue_157
    · replace h := ip hc h
      refine lv_aload_n hx hb dX2_packValue_75 rfl (lv_at hl 1 rfl) ?_
      refine lv_aload_n hx hb dX2_packValue_76 rfl (lv_at hl 2 rfl) ?_
      refine lv_iload_n hx hb dX2_packValue_77 rfl (lv_at hl 3 rfl) ?_
      obtain ⟨q5, hc, h⟩ := ib h
      have hF := va_frees hD hS hA
      refine va_calli (va_runV (As := [.int x2]) (rest := [.ref (a 87)]) ⟨hx, hb, hml, hown, hts⟩ (s_X7_sizeOf_50 hc) (cwV 1 hts (gV mw_5_17 mw_5_18 mw_5_19 mw_0_11 mw_52_2) rfl rfl rfl (by decide +kernel) ⟨by show 1 + 1 ≤ 5 + (nn + 1); omega, by show 8 + (2 + 11) + 21 ≤ 118 + 28 * (nn + 1); omega⟩) (vV (ci := 7) (q0 := 50) hK hP hD hN rfl gA_50) rfl rfl hl.1 rfl (lv_room (Nat.le_of_ble_eq_true rfl)) dX2_packValue_78 ⟨(Nat.le_of_ble_eq_true rfl), (Nat.le_of_ble_eq_true rfl)⟩) hS (fun q _ h => hF q h) hF (fun r6 u t H locs ht hvm hw hB _ _ hS => ?_)
      obtain rfl : r6 = q5.1 := hw
      replace hP : va_P (dC, dI) vwCl (wA a k q5.2) H := by rw [← ht]; exact hB.1
      replace hD := hD0 (q5.2)
      clear hB hF
      refine lv_i2l (v := q5.1.toInt64) hx hb dX2_packValue_81 rfl ?_
      obtain ⟨q7, hc, h⟩ := ib h
      have hF := va_frees hD hS hA
      refine va_callv (va_runV (As := [.long (q5.1.toInt64)]) (rest := []) ⟨hx, hb, hml, hown, hts⟩ (s_X2_putNumber hc) (cwV 1 hts (gV mw_5_20 mw_5_21 mw_5_22 mw_0_6 mw_48_17) rfl rfl rfl (by decide +kernel) ⟨by show 1 + 1 ≤ 5 + (nn + 1); omega, by show 8 + (6 + 11) + 21 ≤ 118 + 28 * (nn + 1); omega⟩) (vV (ci := 2) (q0 := 87) hK hP hD hN rfl gA_87) rfl rfl hl.1 rfl (lv_room (Nat.le_of_ble_eq_true rfl)) dX2_packValue_82 ⟨(Nat.le_of_ble_eq_true rfl), (Nat.le_of_ble_eq_true rfl)⟩) hS (fun q _ h => hF q h) hF (fun u t H locs ht hvm hw hB _ _ hS => ?_)
      replace hP : va_P (dC, dI) vwCl (wA a k q7) H := by rw [← ht]; exact hB.1
      replace hD := hD0 (q7)
      clear hB hF
      refine lv_aload_n hx hb dX2_packValue_85 rfl (lv_at hl 2 rfl) ?_
      refine lv_iload_n hx hb dX2_packValue_86 rfl (lv_at hl 3 rfl) ?_
      obtain ⟨q9, hc, h⟩ := ib h
      have hF := va_frees hD hS hA
      refine va_calli (va_runV (As := [.int x2]) (rest := []) ⟨hx, hb, hml, hown, hts⟩ (s_X7_firstOf_50 hc) (cwV 1 hts (gV mw_5_23 mw_5_24 mw_5_25 mw_0_11 mw_52_5) rfl rfl rfl (by decide +kernel) ⟨by show 1 + 1 ≤ 5 + (nn + 1); omega, by show 8 + (2 + 11) + 21 ≤ 118 + 28 * (nn + 1); omega⟩) (vV (ci := 7) (q0 := 50) hK hP hD hN rfl gA_50) rfl rfl hl.1 rfl (lv_room (Nat.le_of_ble_eq_true rfl)) dX2_packValue_87 ⟨(Nat.le_of_ble_eq_true rfl), (Nat.le_of_ble_eq_true rfl)⟩) hS (fun q _ h => hF q h) hF (fun r10 u t H locs ht hvm hw hB _ _ hS => ?_)
      obtain rfl : r10 = q9.1 := hw
      replace hP : va_P (dC, dI) vwCl (wA a k q9.2) H := by rw [← ht]; exact hB.1
      replace hD := hD0 (q9.2)
      clear hB hF
      refine lv_istore (lv' := [(7, .int q9.1), (6, .int y0), (0, .ref (a 87)), (1, .ref (a 50)), (2, .int x2), (4, .int x4), (5, .int x5)]) hx hb dX2_packValue_90 hl (by decide) rfl (fun ls hl => ?_)
      refine lv_iconst (v := 0) hx hb dX2_packValue_92 (by decide) ?_
      refine lv_istore (lv' := [(8, .int 0), (7, .int q9.1), (6, .int y0), (0, .ref (a 87)), (1, .ref (a 50)), (2, .int x2), (4, .int x4), (5, .int x5)]) hx hb dX2_packValue_93 hl (by decide) rfl (fun ls hl => ?_)
      exact b_X2_packValue_95_50 hC hr_X2_packFields hr_X2_packValue FU _ _ _ _ _ h _ _ _ hP hD hS (lv_sub hl [3, 4, 6, 2, 1, 0] rfl)
  · replace h := ip hc h
    refine lv_aload_n hx hb dX2_packValue_48 rfl (lv_at hl 1 rfl) ?_
    refine lv_aload_n hx hb dX2_packValue_49 rfl (lv_at hl 2 rfl) ?_
    refine lv_iload_n hx hb dX2_packValue_50 rfl (lv_at hl 3 rfl) ?_
    refine lv_aload_n hx hb dX2_packValue_51 rfl (lv_at hl 1 rfl) ?_
    refine va_get (D := (dC, dI)) (ci := 2) (C := RX2) (T := TX2) (N := 3) hx hb hts inlX2 hown hK hP 87 gA_87 rfl 0 (by decide) (hts (.fieldLink RX2 19 "ShapeReader$Packer" "shapes" "LShapeReader$Shapes;") mw_5_2) (fun _ h9 => h9) rfl dX2_packValue_52 ?_
    refine lv_iload hx hb dX2_packValue_55 (lv_at hl 0 rfl) ?_
    obtain ⟨q11, hc, h⟩ := ib h
    have hF := va_frees hD hS hA
    refine va_calli (va_runV (As := [.int y0]) (rest := [.int x2, .ref (a 50), .ref (a 87)]) ⟨hx, hb, hml, hown, hts⟩ (s_X5_innerOf_4 hc) (cwV 1 hts (gV mw_5_13 mw_2_16 mw_2_17 mw_0_9 mw_50_7) rfl rfl rfl (by decide +kernel) ⟨by show 1 + 1 ≤ 5 + (nn + 1); omega, by show 8 + (2 + 11) + 21 ≤ 118 + 28 * (nn + 1); omega⟩) (vV (ci := 5) (q0 := 4) hK hP hD hN rfl gA_4) rfl rfl hl.1 rfl (lv_room (Nat.le_of_ble_eq_true rfl)) dX2_packValue_57 ⟨(Nat.le_of_ble_eq_true rfl), (Nat.le_of_ble_eq_true rfl)⟩) hS (fun q _ h => hF q h) hF (fun r12 u t H locs ht hvm hw hB _ _ hS => ?_)
    obtain rfl : r12 = q11.1 := hw
    replace hP : va_P (dC, dI) vwCl (wA a k q11.2) H := by rw [← ht]; exact hB.1
    replace hD := hD0 (q11.2)
    clear hB hF
    refine lv_iload hx hb dX2_packValue_60 (lv_at hl 4 rfl) ?_
    obtain ⟨q13, hc, h⟩ := ib h
    have hF := va_frees hD hS hA
    refine va_callv (va_runV (As := [.ref (a 50), .int x2, .int q11.1, .int x4]) (rest := []) ⟨hx, hb, hml, hown, hts⟩ (hr_X2_packFields hc) (cwV 4 hts (gV mw_5_14 mw_5_15 mw_5_16 mw_0_6 mw_48_13) rfl rfl rfl (by decide +kernel) ⟨by show (5 + nn) + 1 ≤ 5 + (nn + 1); omega, by show 8 + (8 + 11) + (118 + 28 * nn) ≤ 118 + 28 * (nn + 1); omega⟩) (vV (ci := 2) (q0 := 87) hK hP hD hN rfl gA_87) rfl rfl hl.1 rfl (lv_room (Nat.le_of_ble_eq_true rfl)) dX2_packValue_62 ⟨(Nat.le_of_ble_eq_true rfl), (Nat.le_of_ble_eq_true rfl)⟩) hS (fun q _ h => hF q h) hF (fun u t H locs ht hvm hw hB _ _ hS => ?_)
    replace hP : va_P (dC, dI) vwCl (wA a k q13) H := by rw [← ht]; exact hB.1
    replace hD := hD0 (q13)
    clear hB hF
    refine lv_goto (tgt := 157) hx hb dX2_packValue_65 (by decide) ?_
    obtain rfl := Option.some.inj h
    exact W.vret hx hb hr (fun t ht hW => ⟨⟨(), rfl, trivial, ⟨by rw [ht]; exact hP, va_K.moved hW.alike hK, hD⟩⟩, hS.F ht⟩) hS.2.2 dX2_packValue_157

set_option maxRecDepth 100000 in
set_option maxHeartbeats 4000000 in
theorem b_X2_packValue_e_50 {p : Program} {l : Launch} {e : Env} {s : State} {m : MethodId} {args : Array Value} {below : List Frame} {meth : Method} {c : Code} {dC : Nat → ClassId} {dI : Nat → Nat → Nat} {a : Nat → Nat} {k : Nat → ClassId} {A : Nat → Prop} {q : ST} (hC : CxA p s m args meth c dC dI k A cX2_packValue RX2 none 9) {nn : Nat} {r_X2_packFields : Nat → Int32 → Int32 → Int32 → ST → Option (ST)} (hr_X2_packFields : ∀ {sz : Nat} {p1 : Int32} {p2 : Int32} {p3 : Int32} {σ : ST} {q : ST}, r_X2_packFields 50 p1 p2 p3 σ = some q → Met l yX2_packFields (.code yX2_packFields cX2_packFields 8 none :: pw) ({ frames := 5 + nn, cells := 0, slots := 0, locals := 118 + 28 * nn } : Room) (va_Pc [.ref (a 87), .ref (a 50), .int p1, .int p2, .int p3] (vPre dC dI (wA a k σ) (tA k) sz)) (qAv dC dI a k (va_A (wA a k σ) sz) q) 0 0 (va_A (wA a k σ) sz)) {r_X2_packValue : Nat → Int32 → Int32 → Int32 → ST → Option (ST)} (hr_X2_packValue : ∀ {sz : Nat} {p1 : Int32} {p2 : Int32} {p3 : Int32} {σ : ST} {q : ST}, r_X2_packValue 50 p1 p2 p3 σ = some q → Met l yX2_packValue (.code yX2_packValue cX2_packValue 9 none :: pw) ({ frames := 5 + nn, cells := 0, slots := 0, locals := 118 + 28 * nn } : Room) (va_Pc [.ref (a 87), .ref (a 50), .int p1, .int p2, .int p3] (vPre dC dI (wA a k σ) (tA k) sz)) (qAv dC dI a k (va_A (wA a k σ) sz) q) 0 0 (va_A (wA a k σ) sz))  {p1 : Int32} {p2 : Int32} {p3 : Int32} {σ : ST} (h : f_X2_packValue r_X2_packFields r_X2_packValue 50 p1 p2 p3 σ = some q) : GoA p l e ({ frames := 5 + (nn + 1), cells := 0, slots := 0, locals := 118 + 28 * (nn + 1) } : Room) s m args below meth c (MQ below (qAv dC dI a k A q) args s 0 0 A) dC dI a k A 9 0 σ (lv_args 0 [.ref (a 87), .ref (a 50), .int p1, .int p2, .int p3]) [] := by
  have hC0 := hC
  obtain ⟨hx, hb, hr, hml, hown, hts, hlocks, hA, hN, hK⟩ := hC0
  intro H locs ls hP hD hS hl
  have hD0 : ∀ σ1 : ST, va_D A (wA a k σ1) := fun σ1 => wA_D hD
  replace hl : lv_has ls 9 [(0, .ref (a 87)), (1, .ref (a 50)), (2, .int p1), (3, .int p2), (4, .int p3)] := hl
  unfold f_X2_packValue at h
  refine lv_iload hx hb dX2_packValue_0 (lv_at hl 4 rfl) ?_
  refine lv_bipush (v := 31) hx hb dX2_packValue_2 (by decide) ?_
  refine lv_icmp_le (tgt := 8) hx hb dX2_packValue_4 (by decide) (fun hc => ?_) (fun hc => ?_)
  · replace h := ip hc h
    refine lv_aload_n hx hb dX2_packValue_8 rfl (lv_at hl 1 rfl) ?_
    refine lv_iload_n hx hb dX2_packValue_9 rfl (lv_at hl 2 rfl) ?_
    obtain ⟨q1, hc, h⟩ := ib h
    have hF := va_frees hD hS hA
    refine va_calli (va_runV (As := [.int p1]) (rest := []) ⟨hx, hb, hml, hown, hts⟩ (s_X7_sortAt_50 hc) (cwV 1 hts (gV mw_5_6 mw_5_7 mw_5_8 mw_0_11 mw_51_29) rfl rfl rfl (by decide +kernel) ⟨by show 1 + 1 ≤ 5 + (nn + 1); omega, by show 8 + (2 + 11) + 21 ≤ 118 + 28 * (nn + 1); omega⟩) (vV (ci := 7) (q0 := 50) hK hP hD hN rfl gA_50) rfl rfl hl.1 rfl (lv_room (Nat.le_of_ble_eq_true rfl)) dX2_packValue_10 ⟨(Nat.le_of_ble_eq_true rfl), (Nat.le_of_ble_eq_true rfl)⟩) hS (fun q _ h => hF q h) hF (fun r2 u t H locs ht hvm hw hB _ _ hS => ?_)
    obtain rfl : r2 = q1.1 := hw
    replace hP : va_P (dC, dI) vwCl (wA a k q1.2) H := by rw [← ht]; exact hB.1
    replace hD := hD0 (q1.2)
    clear hB hF
    refine lv_istore (lv' := [(5, .int q1.1), (0, .ref (a 87)), (1, .ref (a 50)), (2, .int p1), (3, .int p2), (4, .int p3)]) hx hb dX2_packValue_13 hl (by decide) rfl (fun ls hl => ?_)
    refine lv_aload_n hx hb dX2_packValue_15 rfl (lv_at hl 1 rfl) ?_
    refine va_get (D := (dC, dI)) (ci := 2) (C := RX2) (T := TX2) (N := 3) hx hb hts inlX2 hown hK hP 87 gA_87 rfl 0 (by decide) (hts (.fieldLink RX2 19 "ShapeReader$Packer" "shapes" "LShapeReader$Shapes;") mw_5_2) (fun _ h9 => h9) rfl dX2_packValue_16 ?_
    refine lv_iload_n hx hb dX2_packValue_19 rfl (lv_at hl 4 rfl) ?_
    obtain ⟨q3, hc, h⟩ := ib h
    have hF := va_frees hD hS hA
    refine va_calli (va_runV (As := [.int p2]) (rest := []) ⟨hx, hb, hml, hown, hts⟩ (s_X5_sortOf_4 hc) (cwV 1 hts (gV mw_5_9 mw_2_13 mw_2_14 mw_0_9 mw_50_6) rfl rfl rfl (by decide +kernel) ⟨by show 1 + 1 ≤ 5 + (nn + 1); omega, by show 8 + (2 + 11) + 21 ≤ 118 + 28 * (nn + 1); omega⟩) (vV (ci := 5) (q0 := 4) hK hP hD hN rfl gA_4) rfl rfl hl.1 rfl (lv_room (Nat.le_of_ble_eq_true rfl)) dX2_packValue_20 ⟨(Nat.le_of_ble_eq_true rfl), (Nat.le_of_ble_eq_true rfl)⟩) hS (fun q _ h => hF q h) hF (fun r4 u t H locs ht hvm hw hB _ _ hS => ?_)
    obtain rfl : r4 = q3.1 := hw
    replace hP : va_P (dC, dI) vwCl (wA a k q3.2) H := by rw [← ht]; exact hB.1
    replace hD := hD0 (q3.2)
    clear hB hF
    refine lv_bipush (v := 8) hx hb dX2_packValue_23 (by decide) ?_
    refine lv_icmp_ne (tgt := 38) hx hb dX2_packValue_25 (by decide) (fun hc => ?_) (fun hc => ?_)
    · replace h := iq hc h
      refine lv_iload_n hx hb dX2_packValue_38 rfl (lv_at hl 4 rfl) ?_
      exact b_X2_packValue_39_50 hC hr_X2_packFields hr_X2_packValue h _ _ _ hP hD hS (lv_sub hl [1, 2, 3, 5, 0] rfl)
    · replace h := ip hc h
      refine lv_aload_n hx hb dX2_packValue_28 rfl (lv_at hl 1 rfl) ?_
      refine lv_iload_n hx hb dX2_packValue_29 rfl (lv_at hl 4 rfl) ?_
      refine lv_iload hx hb dX2_packValue_30 (lv_at hl 0 rfl) ?_
      obtain ⟨q5, hc, h⟩ := ib h
      have hF := va_frees hD hS hA
      refine va_calli (va_runV (As := [.int p2, .int q1.1]) (rest := []) ⟨hx, hb, hml, hown, hts⟩ (s_X2_packBranch hc) (cwV 2 hts (gV mw_5_10 mw_5_11 mw_5_12 mw_0_6 mw_48_12) rfl rfl rfl (by decide +kernel) ⟨by show 2 + 1 ≤ 5 + (nn + 1); omega, by show 8 + (6 + 11) + 46 ≤ 118 + 28 * (nn + 1); omega⟩) (vV (ci := 2) (q0 := 87) hK hP hD hN rfl gA_87) rfl rfl hl.1 rfl (lv_room (Nat.le_of_ble_eq_true rfl)) dX2_packValue_32 ⟨(Nat.le_of_ble_eq_true rfl), (Nat.le_of_ble_eq_true rfl)⟩) hS (fun q _ h => hF q h) hF (fun r6 u t H locs ht hvm hw hB _ _ hS => ?_)
      obtain rfl : r6 = q5.1 := hw
      replace hP : va_P (dC, dI) vwCl (wA a k q5.2) H := by rw [← ht]; exact hB.1
      replace hD := hD0 (q5.2)
      clear hB hF
      refine lv_goto (tgt := 39) hx hb dX2_packValue_35 (by decide) ?_
      exact b_X2_packValue_39_50 hC hr_X2_packFields hr_X2_packValue h _ _ _ hP hD hS (lv_sub hl [1, 2, 3, 5, 0] rfl)
  · replace h := iq hc h
    obtain rfl := Option.some.inj h
    exact W.vret hx hb hr (fun t ht hW => ⟨⟨(), rfl, trivial, ⟨by rw [ht]; exact hP, va_K.moved hW.alike hK, hD⟩⟩, hS.F ht⟩) hS.2.2 dX2_packValue_7


set_option maxRecDepth 100000 in
set_option maxHeartbeats 4000000 in
theorem s_R_X2_packFields_50 {l : Launch} {dC : Nat → ClassId} {dI : Nat → Nat → Nat} {a : Nat → Nat} {k : Nat → ClassId} : ∀ n : Nat, (∀ {sz : Nat} {p1 : Int32} {p2 : Int32} {p3 : Int32} {σ : ST} {q : ST}, (R_X2_packFields n).1 50 p1 p2 p3 σ = some q → Met l yX2_packFields (.code yX2_packFields cX2_packFields 8 none :: pw) ({ frames := 5 + n, cells := 0, slots := 0, locals := 118 + 28 * n } : Room) (va_Pc [.ref (a 87), .ref (a 50), .int p1, .int p2, .int p3] (vPre dC dI (wA a k σ) (tA k) sz)) (qAv dC dI a k (va_A (wA a k σ) sz) q) 0 0 (va_A (wA a k σ) sz)) ∧ (∀ {sz : Nat} {p1 : Int32} {p2 : Int32} {p3 : Int32} {σ : ST} {q : ST}, (R_X2_packFields n).2 50 p1 p2 p3 σ = some q → Met l yX2_packValue (.code yX2_packValue cX2_packValue 9 none :: pw) ({ frames := 5 + n, cells := 0, slots := 0, locals := 118 + 28 * n } : Room) (va_Pc [.ref (a 87), .ref (a 50), .int p1, .int p2, .int p3] (vPre dC dI (wA a k σ) (tA k) sz)) (qAv dC dI a k (va_A (wA a k σ) sz) q) 0 0 (va_A (wA a k σ) sz)) := by
  intro n
  induction n with
  | zero => exact ⟨(fun h => nomatch h), (fun h => nomatch h)⟩
  | succ n ih => exact ⟨(fun h => metA (fun A => qAv dC dI a k A _) (plainFor_of_name (by decide)) (Nat.le_of_ble_eq_true rfl) (fun _ _ _ _ _ _ _ _ hC => b_X2_packFields_e_50 hC ih.1 ih.2 h)), (fun h => metA (fun A => qAv dC dI a k A _) (plainFor_of_name (by decide)) (Nat.le_of_ble_eq_true rfl) (fun _ _ _ _ _ _ _ _ hC => b_X2_packValue_e_50 hC ih.1 ih.2 h))⟩
theorem s_X2_packFields_50 {l : Launch} {dC : Nat → ClassId} {dI : Nat → Nat → Nat} {a : Nat → Nat} {k : Nat → ClassId} {sz : Nat} {p1 : Int32} {p2 : Int32} {p3 : Int32} {σ : ST} {q : ST} (h : f_T_X2_packFields 50 p1 p2 p3 σ = some q) : Met l yX2_packFields (.code yX2_packFields cX2_packFields 8 none :: pw) ({ frames := 165, cells := 0, slots := 0, locals := 4598 } : Room) (va_Pc [.ref (a 87), .ref (a 50), .int p1, .int p2, .int p3] (vPre dC dI (wA a k σ) (tA k) sz)) (qAv dC dI a k (va_A (wA a k σ) sz) q) 0 0 (va_A (wA a k σ) sz) := (s_R_X2_packFields_50 FR).1 h
theorem s_X2_packValue_50 {l : Launch} {dC : Nat → ClassId} {dI : Nat → Nat → Nat} {a : Nat → Nat} {k : Nat → ClassId} {sz : Nat} {p1 : Int32} {p2 : Int32} {p3 : Int32} {σ : ST} {q : ST} (h : f_T_X2_packValue 50 p1 p2 p3 σ = some q) : Met l yX2_packValue (.code yX2_packValue cX2_packValue 9 none :: pw) ({ frames := 165, cells := 0, slots := 0, locals := 4598 } : Room) (va_Pc [.ref (a 87), .ref (a 50), .int p1, .int p2, .int p3] (vPre dC dI (wA a k σ) (tA k) sz)) (qAv dC dI a k (va_A (wA a k σ) sz) q) 0 0 (va_A (wA a k σ) sz) := (s_R_X2_packFields_50 FR).2 h

set_option maxRecDepth 100000 in
set_option maxHeartbeats 4000000 in
theorem b_X2_packFields_85_62 {p : Program} {l : Launch} {e : Env} {s : State} {m : MethodId} {args : Array Value} {below : List Frame} {meth : Method} {c : Code} {dC : Nat → ClassId} {dI : Nat → Nat → Nat} {a : Nat → Nat} {k : Nat → ClassId} {A : Nat → Prop} {q : ST} (hC : CxA p s m args meth c dC dI k A cX2_packFields RX2 none 8) {nn : Nat} {r_X2_packFields : Nat → Int32 → Int32 → Int32 → ST → Option (ST)} (hr_X2_packFields : ∀ {sz : Nat} {p1 : Int32} {p2 : Int32} {p3 : Int32} {σ : ST} {q : ST}, r_X2_packFields 62 p1 p2 p3 σ = some q → Met l yX2_packFields (.code yX2_packFields cX2_packFields 8 none :: pw) ({ frames := 5 + nn, cells := 0, slots := 0, locals := 118 + 28 * nn } : Room) (va_Pc [.ref (a 87), .ref (a 62), .int p1, .int p2, .int p3] (vPre dC dI (wA a k σ) (tA k) sz)) (qAv dC dI a k (va_A (wA a k σ) sz) q) 0 0 (va_A (wA a k σ) sz)) {r_X2_packValue : Nat → Int32 → Int32 → Int32 → ST → Option (ST)} (hr_X2_packValue : ∀ {sz : Nat} {p1 : Int32} {p2 : Int32} {p3 : Int32} {σ : ST} {q : ST}, r_X2_packValue 62 p1 p2 p3 σ = some q → Met l yX2_packValue (.code yX2_packValue cX2_packValue 9 none :: pw) ({ frames := 5 + nn, cells := 0, slots := 0, locals := 118 + 28 * nn } : Room) (va_Pc [.ref (a 87), .ref (a 62), .int p1, .int p2, .int p3] (vPre dC dI (wA a k σ) (tA k) sz)) (qAv dC dI a k (va_A (wA a k σ) sz) q) 0 0 (va_A (wA a k σ) sz)) {k10 : Int32 → Int32 → Int32 → Int32 → ST → Option (ST)} (hk10 : ∀ (x3 : Int32) (x4 : Int32) (x5 : Int32) (x6 : Int32) (σ : ST), k10 x3 x4 x5 x6 σ = some q → GoA p l e ({ frames := 5 + (nn + 1), cells := 0, slots := 0, locals := 118 + 28 * (nn + 1) } : Room) s m args below meth c (MQ below (qAv dC dI a k A q) args s 0 0 A) dC dI a k A 8 10 σ [(0, .ref (a 87)), (1, .ref (a 62)), (3, .int x3), (4, .int x4), (5, .int x5), (6, .int x6)] []) {x3 : Int32} {x4 : Int32} {x5 : Int32} {x6 : Int32} {σ : ST} (h : f_X2_packFields_85 r_X2_packFields r_X2_packValue k10 62 x3 x4 x5 x6 σ = some q) : GoA p l e ({ frames := 5 + (nn + 1), cells := 0, slots := 0, locals := 118 + 28 * (nn + 1) } : Room) s m args below meth c (MQ below (qAv dC dI a k A q) args s 0 0 A) dC dI a k A 8 85 σ [(0, .ref (a 87)), (1, .ref (a 62)), (3, .int x3), (4, .int x4), (5, .int x5), (6, .int x6)] [] := by
  have hC0 := hC
  obtain ⟨hx, hb, hr, hml, hown, hts, hlocks, hA, hN, hK⟩ := hC0
  intro H locs ls hP hD hS hl
  have hD0 : ∀ σ1 : ST, va_D A (wA a k σ1) := fun σ1 => wA_D hD
  unfold f_X2_packFields_85 at h
  refine lv_iinc (v := (x6 + 1)) (lv' := [(6, .int (x6 + 1)), (0, .ref (a 87)), (1, .ref (a 62)), (3, .int x3), (4, .int x4), (5, .int x5)]) hx hb dX2_packFields_85 hl (k := 5) rfl rfl (by decide) rfl (fun ls hl => ?_)
  refine lv_goto (tgt := 10) hx hb dX2_packFields_88 (by decide) ?_
  exact hk10 _ _ _ _ _ h _ _ _ hP hD hS (lv_sub hl [1, 2, 3, 4, 5, 0] rfl)

set_option maxRecDepth 100000 in
set_option maxHeartbeats 4000000 in
theorem b_X2_packFields_76_62 {p : Program} {l : Launch} {e : Env} {s : State} {m : MethodId} {args : Array Value} {below : List Frame} {meth : Method} {c : Code} {dC : Nat → ClassId} {dI : Nat → Nat → Nat} {a : Nat → Nat} {k : Nat → ClassId} {A : Nat → Prop} {q : ST} (hC : CxA p s m args meth c dC dI k A cX2_packFields RX2 none 8) {nn : Nat} {r_X2_packFields : Nat → Int32 → Int32 → Int32 → ST → Option (ST)} (hr_X2_packFields : ∀ {sz : Nat} {p1 : Int32} {p2 : Int32} {p3 : Int32} {σ : ST} {q : ST}, r_X2_packFields 62 p1 p2 p3 σ = some q → Met l yX2_packFields (.code yX2_packFields cX2_packFields 8 none :: pw) ({ frames := 5 + nn, cells := 0, slots := 0, locals := 118 + 28 * nn } : Room) (va_Pc [.ref (a 87), .ref (a 62), .int p1, .int p2, .int p3] (vPre dC dI (wA a k σ) (tA k) sz)) (qAv dC dI a k (va_A (wA a k σ) sz) q) 0 0 (va_A (wA a k σ) sz)) {r_X2_packValue : Nat → Int32 → Int32 → Int32 → ST → Option (ST)} (hr_X2_packValue : ∀ {sz : Nat} {p1 : Int32} {p2 : Int32} {p3 : Int32} {σ : ST} {q : ST}, r_X2_packValue 62 p1 p2 p3 σ = some q → Met l yX2_packValue (.code yX2_packValue cX2_packValue 9 none :: pw) ({ frames := 5 + nn, cells := 0, slots := 0, locals := 118 + 28 * nn } : Room) (va_Pc [.ref (a 87), .ref (a 62), .int p1, .int p2, .int p3] (vPre dC dI (wA a k σ) (tA k) sz)) (qAv dC dI a k (va_A (wA a k σ) sz) q) 0 0 (va_A (wA a k σ) sz)) {k10 : Int32 → Int32 → Int32 → Int32 → ST → Option (ST)} (hk10 : ∀ (x3 : Int32) (x4 : Int32) (x5 : Int32) (x6 : Int32) (σ : ST), k10 x3 x4 x5 x6 σ = some q → GoA p l e ({ frames := 5 + (nn + 1), cells := 0, slots := 0, locals := 118 + 28 * (nn + 1) } : Room) s m args below meth c (MQ below (qAv dC dI a k A q) args s 0 0 A) dC dI a k A 8 10 σ [(0, .ref (a 87)), (1, .ref (a 62)), (3, .int x3), (4, .int x4), (5, .int x5), (6, .int x6)] []) {x3 : Int32} {x4 : Int32} {x5 : Int32} {x6 : Int32} {x7 : Int32} {σ : ST} (h : f_X2_packFields_76 r_X2_packFields r_X2_packValue k10 62 x3 x4 x5 x6 x7 σ = some q) : GoA p l e ({ frames := 5 + (nn + 1), cells := 0, slots := 0, locals := 118 + 28 * (nn + 1) } : Room) s m args below meth c (MQ below (qAv dC dI a k A q) args s 0 0 A) dC dI a k A 8 76 σ [(0, .ref (a 87)), (1, .ref (a 62)), (3, .int x3), (4, .int x4), (5, .int x5), (6, .int x6), (7, .int x7)] [] := by
  have hC0 := hC
  obtain ⟨hx, hb, hr, hml, hown, hts, hlocks, hA, hN, hK⟩ := hC0
  intro H locs ls hP hD hS hl
  have hD0 : ∀ σ1 : ST, va_D A (wA a k σ1) := fun σ1 => wA_D hD
  unfold f_X2_packFields_76 at h
  refine lv_aload_n hx hb dX2_packFields_76 rfl (lv_at hl 0 rfl) ?_
  refine lv_iload_n hx hb dX2_packFields_77 rfl (lv_at hl 2 rfl) ?_
  refine lv_iload hx hb dX2_packFields_78 (lv_at hl 5 rfl) ?_
  refine lv_iload hx hb dX2_packFields_80 (lv_at hl 6 rfl) ?_
  obtain ⟨q1, hc, h⟩ := ib h
  have hF := va_frees hD hS hA
  refine va_callv (va_runV (As := [.int x3, .int x6, .int x7]) (rest := []) ⟨hx, hb, hml, hown, hts⟩ (s_X2_packElse hc) (cwV 3 hts (gV mw_6_11 mw_6_12 mw_6_13 mw_0_6 mw_48_14) rfl rfl rfl (by decide +kernel) ⟨by show 4 + 1 ≤ 5 + (nn + 1); omega, by show 8 + (5 + 11) + 94 ≤ 118 + 28 * (nn + 1); omega⟩) (vV (ci := 2) (q0 := 87) hK hP hD hN rfl gA_87) rfl rfl hl.1 rfl (lv_room (Nat.le_of_ble_eq_true rfl)) dX2_packFields_82 ⟨(Nat.le_of_ble_eq_true rfl), (Nat.le_of_ble_eq_true rfl)⟩) hS (fun q _ h => hF q h) hF (fun u t H locs ht hvm hw hB _ _ hS => ?_)
  replace hP : va_P (dC, dI) vwCl (wA a k q1) H := by rw [← ht]; exact hB.1
  replace hD := hD0 (q1)
  clear hB hF
  exact b_X2_packFields_85_62 hC hr_X2_packFields hr_X2_packValue hk10 h _ _ _ hP hD hS (lv_sub hl [0, 1, 2, 3, 4, 5] rfl)

set_option maxRecDepth 100000 in
set_option maxHeartbeats 4000000 in
theorem b_X2_packFields_10_62 {p : Program} {l : Launch} {e : Env} {s : State} {m : MethodId} {args : Array Value} {below : List Frame} {meth : Method} {c : Code} {dC : Nat → ClassId} {dI : Nat → Nat → Nat} {a : Nat → Nat} {k : Nat → ClassId} {A : Nat → Prop} {q : ST} (hC : CxA p s m args meth c dC dI k A cX2_packFields RX2 none 8) {nn : Nat} {r_X2_packFields : Nat → Int32 → Int32 → Int32 → ST → Option (ST)} (hr_X2_packFields : ∀ {sz : Nat} {p1 : Int32} {p2 : Int32} {p3 : Int32} {σ : ST} {q : ST}, r_X2_packFields 62 p1 p2 p3 σ = some q → Met l yX2_packFields (.code yX2_packFields cX2_packFields 8 none :: pw) ({ frames := 5 + nn, cells := 0, slots := 0, locals := 118 + 28 * nn } : Room) (va_Pc [.ref (a 87), .ref (a 62), .int p1, .int p2, .int p3] (vPre dC dI (wA a k σ) (tA k) sz)) (qAv dC dI a k (va_A (wA a k σ) sz) q) 0 0 (va_A (wA a k σ) sz)) {r_X2_packValue : Nat → Int32 → Int32 → Int32 → ST → Option (ST)} (hr_X2_packValue : ∀ {sz : Nat} {p1 : Int32} {p2 : Int32} {p3 : Int32} {σ : ST} {q : ST}, r_X2_packValue 62 p1 p2 p3 σ = some q → Met l yX2_packValue (.code yX2_packValue cX2_packValue 9 none :: pw) ({ frames := 5 + nn, cells := 0, slots := 0, locals := 118 + 28 * nn } : Room) (va_Pc [.ref (a 87), .ref (a 62), .int p1, .int p2, .int p3] (vPre dC dI (wA a k σ) (tA k) sz)) (qAv dC dI a k (va_A (wA a k σ) sz) q) 0 0 (va_A (wA a k σ) sz))  : ∀ (n : Nat) (x3 : Int32) (x4 : Int32) (x5 : Int32) (x6 : Int32) (σ : ST), f_X2_packFields_10 r_X2_packFields r_X2_packValue 62 n x3 x4 x5 x6 σ = some q → GoA p l e ({ frames := 5 + (nn + 1), cells := 0, slots := 0, locals := 118 + 28 * (nn + 1) } : Room) s m args below meth c (MQ below (qAv dC dI a k A q) args s 0 0 A) dC dI a k A 8 10 σ [(0, .ref (a 87)), (1, .ref (a 62)), (3, .int x3), (4, .int x4), (5, .int x5), (6, .int x6)] [] := by
  intro n
  induction n with
  | zero =>
    intro x3 x4 x5 x6 σ h
    rw [f_X2_packFields_10] at h
    cases h
  | succ n ih =>
    intro x3 x4 x5 x6 σ h
    have hC0 := hC
    obtain ⟨hx, hb, hr, hml, hown, hts, hlocks, hA, hN, hK⟩ := hC0
    intro H locs ls hP hD hS hl
    have hD0 : ∀ σ1 : ST, va_D A (wA a k σ1) := fun σ1 => wA_D hD
    rw [f_X2_packFields_10] at h
    refine lv_iload hx hb dX2_packFields_10 (lv_at hl 5 rfl) ?_
    refine lv_aload_n hx hb dX2_packFields_12 rfl (lv_at hl 0 rfl) ?_
    refine va_get (D := (dC, dI)) (ci := 2) (C := RX2) (T := TX2) (N := 3) hx hb hts inlX2 hown hK hP 87 gA_87 rfl 0 (by decide) (hts (.fieldLink RX2 19 "ShapeReader$Packer" "shapes" "LShapeReader$Shapes;") mw_5_2) (fun _ h9 => h9) rfl dX2_packFields_13 ?_
    refine lv_iload_n hx hb dX2_packFields_16 rfl (lv_at hl 2 rfl) ?_
    obtain ⟨q1, hc, h⟩ := ib h
    have hF := va_frees hD hS hA
    refine va_calli (va_runV (As := [.int x3]) (rest := [.int x6]) ⟨hx, hb, hml, hown, hts⟩ (s_X5_fieldsOf_4 hc) (cwV 1 hts (gV mw_6_6 mw_1_28 mw_1_29 mw_0_9 mw_49_29) rfl rfl rfl (by decide +kernel) ⟨by show 1 + 1 ≤ 5 + (nn + 1); omega, by show 8 + (2 + 11) + 20 ≤ 118 + 28 * (nn + 1); omega⟩) (vV (ci := 5) (q0 := 4) hK hP hD hN rfl gA_4) rfl rfl hl.1 rfl (lv_room (Nat.le_of_ble_eq_true rfl)) dX2_packFields_17 ⟨(Nat.le_of_ble_eq_true rfl), (Nat.le_of_ble_eq_true rfl)⟩) hS (fun q _ h => hF q h) hF (fun r2 u t H locs ht hvm hw hB _ _ hS => ?_)
    obtain rfl : r2 = q1.1 := hw
    replace hP : va_P (dC, dI) vwCl (wA a k q1.2) H := by rw [← ht]; exact hB.1
    replace hD := hD0 (q1.2)
    clear hB hF
    refine lv_icmp_ge (tgt := 91) hx hb dX2_packFields_20 (by decide) (fun hc => ?_) (fun hc => ?_)
    · replace h := ip hc h
      obtain rfl := Option.some.inj h
      exact W.vret hx hb hr (fun t ht hW => ⟨⟨(), rfl, trivial, ⟨by rw [ht]; exact hP, va_K.moved hW.alike hK, hD⟩⟩, hS.F ht⟩) hS.2.2 dX2_packFields_91
    · replace h := iq hc h
      refine lv_aload_n hx hb dX2_packFields_23 rfl (lv_at hl 0 rfl) ?_
      refine va_get (D := (dC, dI)) (ci := 2) (C := RX2) (T := TX2) (N := 3) hx hb hts inlX2 hown hK hP 87 gA_87 rfl 0 (by decide) (hts (.fieldLink RX2 19 "ShapeReader$Packer" "shapes" "LShapeReader$Shapes;") mw_5_2) (fun _ h9 => h9) rfl dX2_packFields_24 ?_
      refine lv_iload_n hx hb dX2_packFields_27 rfl (lv_at hl 2 rfl) ?_
      refine lv_iload hx hb dX2_packFields_28 (lv_at hl 5 rfl) ?_
      obtain ⟨q3, hc, h⟩ := ib h
      have hF := va_frees hD hS hA
      refine va_calli (va_runV (As := [.int x3, .int x6]) (rest := []) ⟨hx, hb, hml, hown, hts⟩ (s_X5_typeOf_4 hc) (cwV 2 hts (gV mw_6_7 mw_2_7 mw_2_8 mw_0_9 mw_50_3) rfl rfl rfl (by decide +kernel) ⟨by show 1 + 1 ≤ 5 + (nn + 1); omega, by show 8 + (3 + 11) + 21 ≤ 118 + 28 * (nn + 1); omega⟩) (vV (ci := 5) (q0 := 4) hK hP hD hN rfl gA_4) rfl rfl hl.1 rfl (lv_room (Nat.le_of_ble_eq_true rfl)) dX2_packFields_30 ⟨(Nat.le_of_ble_eq_true rfl), (Nat.le_of_ble_eq_true rfl)⟩) hS (fun q _ h => hF q h) hF (fun r4 u t H locs ht hvm hw hB _ _ hS => ?_)
      obtain rfl : r4 = q3.1 := hw
      replace hP : va_P (dC, dI) vwCl (wA a k q3.2) H := by rw [← ht]; exact hB.1
      replace hD := hD0 (q3.2)
      clear hB hF
      refine lv_istore (lv' := [(7, .int q3.1), (0, .ref (a 87)), (1, .ref (a 62)), (3, .int x3), (4, .int x4), (5, .int x5), (6, .int x6)]) hx hb dX2_packFields_33 hl (by decide) rfl (fun ls hl => ?_)
      refine lv_iload hx hb dX2_packFields_35 (lv_at hl 5 rfl) ?_
      refine lv_iconst (v := (-1)) hx hb dX2_packFields_37 (by decide) ?_
      refine lv_icmp_eq (tgt := 76) hx hb dX2_packFields_38 (by decide) (fun hc => ?_) (fun hc => ?_)
      · replace h := ip hc h
        exact b_X2_packFields_76_62 hC hr_X2_packFields hr_X2_packValue ih h _ _ _ hP hD hS (lv_sub hl [1, 2, 3, 4, 5, 6, 0] rfl)
      · replace h := iq hc h
        refine lv_aload_n hx hb dX2_packFields_41 rfl (lv_at hl 2 rfl) ?_
        refine lv_iload hx hb dX2_packFields_42 (lv_at hl 5 rfl) ?_
        obtain ⟨q5, hc, h⟩ := ib h
        have hF := va_frees hD hS hA
        refine va_calli (va_runV (As := [.int x5]) (rest := []) ⟨hx, hb, hml, hown, hts⟩ (s_X7_placeOf_62 hc) (cwV 1 hts (gV mw_6_8 mw_6_9 mw_6_10 mw_0_11 mw_52_1) rfl rfl rfl (by decide +kernel) ⟨by show 1 + 1 ≤ 5 + (nn + 1); omega, by show 8 + (2 + 11) + 21 ≤ 118 + 28 * (nn + 1); omega⟩) (vV (ci := 7) (q0 := 62) hK hP hD hN rfl gA_62) rfl rfl hl.1 rfl (lv_room (Nat.le_of_ble_eq_true rfl)) dX2_packFields_44 ⟨(Nat.le_of_ble_eq_true rfl), (Nat.le_of_ble_eq_true rfl)⟩) hS (fun q _ h => hF q h) hF (fun r6 u t H locs ht hvm hw hB _ _ hS => ?_)
        obtain rfl : r6 = q5.1 := hw
        replace hP : va_P (dC, dI) vwCl (wA a k q5.2) H := by rw [← ht]; exact hB.1
        replace hD := hD0 (q5.2)
        clear hB hF
        refine lv_iload hx hb dX2_packFields_47 (lv_at hl 6 rfl) ?_
        refine lv_icmp_ne (tgt := 76) hx hb dX2_packFields_49 (by decide) (fun hc => ?_) (fun hc => ?_)
        · replace h := iq hc h
          exact b_X2_packFields_76_62 hC hr_X2_packFields hr_X2_packValue ih h _ _ _ hP hD hS (lv_sub hl [1, 2, 3, 4, 5, 6, 0] rfl)
        · replace h := ip hc h
          refine lv_aload_n hx hb dX2_packFields_52 rfl (lv_at hl 1 rfl) ?_
          refine lv_aload_n hx hb dX2_packFields_53 rfl (lv_at hl 2 rfl) ?_
          refine lv_iload hx hb dX2_packFields_54 (lv_at hl 5 rfl) ?_
          refine lv_iload hx hb dX2_packFields_56 (lv_at hl 0 rfl) ?_
          refine lv_iload hx hb dX2_packFields_58 (lv_at hl 4 rfl) ?_
          refine lv_iconst (v := 1) hx hb dX2_packFields_60 (by decide) ?_
          refine lv_iadd hx hb dX2_packFields_61 ?_
          obtain ⟨q7, hc, h⟩ := ib h
          have hF := va_frees hD hS hA
          refine va_callv (va_runV (As := [.ref (a 62), .int x5, .int q3.1, .int (x4 + 1)]) (rest := []) ⟨hx, hb, hml, hown, hts⟩ (hr_X2_packValue hc) (cwV 4 hts (gV mw_5_3 mw_5_4 mw_5_5 mw_0_6 mw_48_11) rfl rfl rfl (by decide +kernel) ⟨by show (5 + nn) + 1 ≤ 5 + (nn + 1); omega, by show 8 + (9 + 11) + (118 + 28 * nn) ≤ 118 + 28 * (nn + 1); omega⟩) (vV (ci := 2) (q0 := 87) hK hP hD hN rfl gA_87) rfl rfl hl.1 rfl (lv_room (Nat.le_of_ble_eq_true rfl)) dX2_packFields_62 ⟨(Nat.le_of_ble_eq_true rfl), (Nat.le_of_ble_eq_true rfl)⟩) hS (fun q _ h => hF q h) hF (fun u t H locs ht hvm hw hB _ _ hS => ?_)
          replace hP : va_P (dC, dI) vwCl (wA a k q7) H := by rw [← ht]; exact hB.1
          replace hD := hD0 (q7)
          clear hB hF
          refine lv_aload_n hx hb dX2_packFields_65 rfl (lv_at hl 2 rfl) ?_
          refine lv_iload hx hb dX2_packFields_66 (lv_at hl 5 rfl) ?_
          obtain ⟨q9, hc, h⟩ := ib h
          have hF := va_frees hD hS hA
          refine va_calli (va_runV (As := [.int x5]) (rest := []) ⟨hx, hb, hml, hown, hts⟩ (s_X7_nextOf_62 hc) (cwV 1 hts (gV mw_5_26 mw_5_27 mw_5_28 mw_0_11 mw_52_6) rfl rfl rfl (by decide +kernel) ⟨by show 1 + 1 ≤ 5 + (nn + 1); omega, by show 8 + (2 + 11) + 21 ≤ 118 + 28 * (nn + 1); omega⟩) (vV (ci := 7) (q0 := 62) hK hP hD hN rfl gA_62) rfl rfl hl.1 rfl (lv_room (Nat.le_of_ble_eq_true rfl)) dX2_packFields_68 ⟨(Nat.le_of_ble_eq_true rfl), (Nat.le_of_ble_eq_true rfl)⟩) hS (fun q _ h => hF q h) hF (fun r10 u t H locs ht hvm hw hB _ _ hS => ?_)
          obtain rfl : r10 = q9.1 := hw
          replace hP : va_P (dC, dI) vwCl (wA a k q9.2) H := by rw [← ht]; exact hB.1
          replace hD := hD0 (q9.2)
          clear hB hF
          refine lv_istore (lv' := [(5, .int q9.1), (7, .int q3.1), (0, .ref (a 87)), (1, .ref (a 62)), (3, .int x3), (4, .int x4), (6, .int x6)]) hx hb dX2_packFields_71 hl (by decide) rfl (fun ls hl => ?_)
          refine lv_goto (tgt := 85) hx hb dX2_packFields_73 (by decide) ?_
          exact b_X2_packFields_85_62 hC hr_X2_packFields hr_X2_packValue ih h _ _ _ hP hD hS (lv_sub hl [2, 3, 4, 5, 0, 6] rfl)

set_option maxRecDepth 100000 in
set_option maxHeartbeats 4000000 in
theorem b_X2_packFields_e_62 {p : Program} {l : Launch} {e : Env} {s : State} {m : MethodId} {args : Array Value} {below : List Frame} {meth : Method} {c : Code} {dC : Nat → ClassId} {dI : Nat → Nat → Nat} {a : Nat → Nat} {k : Nat → ClassId} {A : Nat → Prop} {q : ST} (hC : CxA p s m args meth c dC dI k A cX2_packFields RX2 none 8) {nn : Nat} {r_X2_packFields : Nat → Int32 → Int32 → Int32 → ST → Option (ST)} (hr_X2_packFields : ∀ {sz : Nat} {p1 : Int32} {p2 : Int32} {p3 : Int32} {σ : ST} {q : ST}, r_X2_packFields 62 p1 p2 p3 σ = some q → Met l yX2_packFields (.code yX2_packFields cX2_packFields 8 none :: pw) ({ frames := 5 + nn, cells := 0, slots := 0, locals := 118 + 28 * nn } : Room) (va_Pc [.ref (a 87), .ref (a 62), .int p1, .int p2, .int p3] (vPre dC dI (wA a k σ) (tA k) sz)) (qAv dC dI a k (va_A (wA a k σ) sz) q) 0 0 (va_A (wA a k σ) sz)) {r_X2_packValue : Nat → Int32 → Int32 → Int32 → ST → Option (ST)} (hr_X2_packValue : ∀ {sz : Nat} {p1 : Int32} {p2 : Int32} {p3 : Int32} {σ : ST} {q : ST}, r_X2_packValue 62 p1 p2 p3 σ = some q → Met l yX2_packValue (.code yX2_packValue cX2_packValue 9 none :: pw) ({ frames := 5 + nn, cells := 0, slots := 0, locals := 118 + 28 * nn } : Room) (va_Pc [.ref (a 87), .ref (a 62), .int p1, .int p2, .int p3] (vPre dC dI (wA a k σ) (tA k) sz)) (qAv dC dI a k (va_A (wA a k σ) sz) q) 0 0 (va_A (wA a k σ) sz))  {p1 : Int32} {p2 : Int32} {p3 : Int32} {σ : ST} (h : f_X2_packFields r_X2_packFields r_X2_packValue 62 p1 p2 p3 σ = some q) : GoA p l e ({ frames := 5 + (nn + 1), cells := 0, slots := 0, locals := 118 + 28 * (nn + 1) } : Room) s m args below meth c (MQ below (qAv dC dI a k A q) args s 0 0 A) dC dI a k A 8 0 σ (lv_args 0 [.ref (a 87), .ref (a 62), .int p1, .int p2, .int p3]) [] := by
  have hC0 := hC
  obtain ⟨hx, hb, hr, hml, hown, hts, hlocks, hA, hN, hK⟩ := hC0
  intro H locs ls hP hD hS hl
  have hD0 : ∀ σ1 : ST, va_D A (wA a k σ1) := fun σ1 => wA_D hD
  replace hl : lv_has ls 8 [(0, .ref (a 87)), (1, .ref (a 62)), (2, .int p1), (3, .int p2), (4, .int p3)] := hl
  unfold f_X2_packFields at h
  refine lv_aload_n hx hb dX2_packFields_0 rfl (lv_at hl 1 rfl) ?_
  refine lv_iload_n hx hb dX2_packFields_1 rfl (lv_at hl 2 rfl) ?_
  obtain ⟨q1, hc, h⟩ := ib h
  have hF := va_frees hD hS hA
  refine va_calli (va_runV (As := [.int p1]) (rest := []) ⟨hx, hb, hml, hown, hts⟩ (s_X7_firstOf_62 hc) (cwV 1 hts (gV mw_5_23 mw_5_24 mw_5_25 mw_0_11 mw_52_5) rfl rfl rfl (by decide +kernel) ⟨by show 1 + 1 ≤ 5 + (nn + 1); omega, by show 8 + (2 + 11) + 21 ≤ 118 + 28 * (nn + 1); omega⟩) (vV (ci := 7) (q0 := 62) hK hP hD hN rfl gA_62) rfl rfl hl.1 rfl (lv_room (Nat.le_of_ble_eq_true rfl)) dX2_packFields_2 ⟨(Nat.le_of_ble_eq_true rfl), (Nat.le_of_ble_eq_true rfl)⟩) hS (fun q _ h => hF q h) hF (fun r2 u t H locs ht hvm hw hB _ _ hS => ?_)
  obtain rfl : r2 = q1.1 := hw
  replace hP : va_P (dC, dI) vwCl (wA a k q1.2) H := by rw [← ht]; exact hB.1
  replace hD := hD0 (q1.2)
  clear hB hF
  refine lv_istore (lv' := [(5, .int q1.1), (0, .ref (a 87)), (1, .ref (a 62)), (2, .int p1), (3, .int p2), (4, .int p3)]) hx hb dX2_packFields_5 hl (by decide) rfl (fun ls hl => ?_)
  refine lv_iconst (v := 0) hx hb dX2_packFields_7 (by decide) ?_
  refine lv_istore (lv' := [(6, .int 0), (5, .int q1.1), (0, .ref (a 87)), (1, .ref (a 62)), (2, .int p1), (3, .int p2), (4, .int p3)]) hx hb dX2_packFields_8 hl (by decide) rfl (fun ls hl => ?_)
  exact b_X2_packFields_10_62 hC hr_X2_packFields hr_X2_packValue FU _ _ _ _ _ h _ _ _ hP hD hS (lv_sub hl [2, 3, 5, 6, 1, 0] rfl)


set_option maxRecDepth 100000 in
set_option maxHeartbeats 4000000 in
theorem b_X2_packValue_95_62 {p : Program} {l : Launch} {e : Env} {s : State} {m : MethodId} {args : Array Value} {below : List Frame} {meth : Method} {c : Code} {dC : Nat → ClassId} {dI : Nat → Nat → Nat} {a : Nat → Nat} {k : Nat → ClassId} {A : Nat → Prop} {q : ST} (hC : CxA p s m args meth c dC dI k A cX2_packValue RX2 none 9) {nn : Nat} {r_X2_packFields : Nat → Int32 → Int32 → Int32 → ST → Option (ST)} (hr_X2_packFields : ∀ {sz : Nat} {p1 : Int32} {p2 : Int32} {p3 : Int32} {σ : ST} {q : ST}, r_X2_packFields 62 p1 p2 p3 σ = some q → Met l yX2_packFields (.code yX2_packFields cX2_packFields 8 none :: pw) ({ frames := 5 + nn, cells := 0, slots := 0, locals := 118 + 28 * nn } : Room) (va_Pc [.ref (a 87), .ref (a 62), .int p1, .int p2, .int p3] (vPre dC dI (wA a k σ) (tA k) sz)) (qAv dC dI a k (va_A (wA a k σ) sz) q) 0 0 (va_A (wA a k σ) sz)) {r_X2_packValue : Nat → Int32 → Int32 → Int32 → ST → Option (ST)} (hr_X2_packValue : ∀ {sz : Nat} {p1 : Int32} {p2 : Int32} {p3 : Int32} {σ : ST} {q : ST}, r_X2_packValue 62 p1 p2 p3 σ = some q → Met l yX2_packValue (.code yX2_packValue cX2_packValue 9 none :: pw) ({ frames := 5 + nn, cells := 0, slots := 0, locals := 118 + 28 * nn } : Room) (va_Pc [.ref (a 87), .ref (a 62), .int p1, .int p2, .int p3] (vPre dC dI (wA a k σ) (tA k) sz)) (qAv dC dI a k (va_A (wA a k σ) sz) q) 0 0 (va_A (wA a k σ) sz))  : ∀ (n : Nat) (x4 : Int32) (x6 : Int32) (x7 : Int32) (x8 : Int32) (σ : ST), f_X2_packValue_95 r_X2_packFields r_X2_packValue 62 n x4 x6 x7 x8 σ = some q → GoA p l e ({ frames := 5 + (nn + 1), cells := 0, slots := 0, locals := 118 + 28 * (nn + 1) } : Room) s m args below meth c (MQ below (qAv dC dI a k A q) args s 0 0 A) dC dI a k A 9 95 σ [(0, .ref (a 87)), (1, .ref (a 62)), (4, .int x4), (6, .int x6), (7, .int x7), (8, .int x8)] [] := by
  intro n
  induction n with
  | zero =>
    intro x4 x6 x7 x8 σ h
    rw [f_X2_packValue_95] at h
    cases h
  | succ n ih =>
    intro x4 x6 x7 x8 σ h
    have hC0 := hC
    obtain ⟨hx, hb, hr, hml, hown, hts, hlocks, hA, hN, hK⟩ := hC0
    intro H locs ls hP hD hS hl
    have hD0 : ∀ σ1 : ST, va_D A (wA a k σ1) := fun σ1 => wA_D hD
    rw [f_X2_packValue_95] at h
    refine lv_iload hx hb dX2_packValue_95 (lv_at hl 5 rfl) ?_
    refine lv_sipush (v := 200) hx hb dX2_packValue_97 (by decide) ?_
    refine lv_icmp_ge (tgt := 143) hx hb dX2_packValue_100 (by decide) (fun hc => ?_) (fun hc => ?_)
    · replace h := ip hc h
      refine lv_goto (tgt := 157) hx hb dX2_packValue_143 (by decide) ?_
      obtain rfl := Option.some.inj h
      exact W.vret hx hb hr (fun t ht hW => ⟨⟨(), rfl, trivial, ⟨by rw [ht]; exact hP, va_K.moved hW.alike hK, hD⟩⟩, hS.F ht⟩) hS.2.2 dX2_packValue_157
    · replace h := iq hc h
      refine lv_iload hx hb dX2_packValue_103 (lv_at hl 4 rfl) ?_
      refine lv_iconst (v := (-1)) hx hb dX2_packValue_105 (by decide) ?_
      refine lv_icmp_eq (tgt := 143) hx hb dX2_packValue_106 (by decide) (fun hc => ?_) (fun hc => ?_)
      · replace h := ip hc h
        refine lv_goto (tgt := 157) hx hb dX2_packValue_143 (by decide) ?_
        obtain rfl := Option.some.inj h
        exact W.vret hx hb hr (fun t ht hW => ⟨⟨(), rfl, trivial, ⟨by rw [ht]; exact hP, va_K.moved hW.alike hK, hD⟩⟩, hS.F ht⟩) hS.2.2 dX2_packValue_157
      · replace h := iq hc h
        refine lv_aload_n hx hb dX2_packValue_109 rfl (lv_at hl 0 rfl) ?_
        refine lv_aload_n hx hb dX2_packValue_110 rfl (lv_at hl 1 rfl) ?_
        refine lv_iload hx hb dX2_packValue_111 (lv_at hl 4 rfl) ?_
        refine lv_aload_n hx hb dX2_packValue_113 rfl (lv_at hl 0 rfl) ?_
        refine va_get (D := (dC, dI)) (ci := 2) (C := RX2) (T := TX2) (N := 3) hx hb hts inlX2 hown hK hP 87 gA_87 rfl 0 (by decide) (hts (.fieldLink RX2 19 "ShapeReader$Packer" "shapes" "LShapeReader$Shapes;") mw_5_2) (fun _ h9 => h9) rfl dX2_packValue_114 ?_
        refine lv_iload hx hb dX2_packValue_117 (lv_at hl 3 rfl) ?_
        obtain ⟨q1, hc, h⟩ := ib h
        have hF := va_frees hD hS hA
        refine va_calli (va_runV (As := [.int x6]) (rest := [.int x7, .ref (a 62), .ref (a 87)]) ⟨hx, hb, hml, hown, hts⟩ (s_X5_innerOf_4 hc) (cwV 1 hts (gV mw_5_13 mw_2_16 mw_2_17 mw_0_9 mw_50_7) rfl rfl rfl (by decide +kernel) ⟨by show 1 + 1 ≤ 5 + (nn + 1); omega, by show 8 + (2 + 11) + 21 ≤ 118 + 28 * (nn + 1); omega⟩) (vV (ci := 5) (q0 := 4) hK hP hD hN rfl gA_4) rfl rfl hl.1 rfl (lv_room (Nat.le_of_ble_eq_true rfl)) dX2_packValue_119 ⟨(Nat.le_of_ble_eq_true rfl), (Nat.le_of_ble_eq_true rfl)⟩) hS (fun q _ h => hF q h) hF (fun r2 u t H locs ht hvm hw hB _ _ hS => ?_)
        obtain rfl : r2 = q1.1 := hw
        replace hP : va_P (dC, dI) vwCl (wA a k q1.2) H := by rw [← ht]; exact hB.1
        replace hD := hD0 (q1.2)
        clear hB hF
        refine lv_iload hx hb dX2_packValue_122 (lv_at hl 2 rfl) ?_
        refine lv_iconst (v := 1) hx hb dX2_packValue_124 (by decide) ?_
        refine lv_iadd hx hb dX2_packValue_125 ?_
        obtain ⟨q3, hc, h⟩ := ib h
        have hF := va_frees hD hS hA
        refine va_callv (va_runV (As := [.ref (a 62), .int x7, .int q1.1, .int (x4 + 1)]) (rest := []) ⟨hx, hb, hml, hown, hts⟩ (hr_X2_packValue hc) (cwV 4 hts (gV mw_5_3 mw_5_4 mw_5_5 mw_0_6 mw_48_11) rfl rfl rfl (by decide +kernel) ⟨by show (5 + nn) + 1 ≤ 5 + (nn + 1); omega, by show 8 + (9 + 11) + (118 + 28 * nn) ≤ 118 + 28 * (nn + 1); omega⟩) (vV (ci := 2) (q0 := 87) hK hP hD hN rfl gA_87) rfl rfl hl.1 rfl (lv_room (Nat.le_of_ble_eq_true rfl)) dX2_packValue_126 ⟨(Nat.le_of_ble_eq_true rfl), (Nat.le_of_ble_eq_true rfl)⟩) hS (fun q _ h => hF q h) hF (fun u t H locs ht hvm hw hB _ _ hS => ?_)
        replace hP : va_P (dC, dI) vwCl (wA a k q3) H := by rw [← ht]; exact hB.1
        replace hD := hD0 (q3)
        clear hB hF
        refine lv_aload_n hx hb dX2_packValue_129 rfl (lv_at hl 1 rfl) ?_
        refine lv_iload hx hb dX2_packValue_130 (lv_at hl 4 rfl) ?_
        obtain ⟨q5, hc, h⟩ := ib h
        have hF := va_frees hD hS hA
        refine va_calli (va_runV (As := [.int x7]) (rest := []) ⟨hx, hb, hml, hown, hts⟩ (s_X7_nextOf_62 hc) (cwV 1 hts (gV mw_5_26 mw_5_27 mw_5_28 mw_0_11 mw_52_6) rfl rfl rfl (by decide +kernel) ⟨by show 1 + 1 ≤ 5 + (nn + 1); omega, by show 8 + (2 + 11) + 21 ≤ 118 + 28 * (nn + 1); omega⟩) (vV (ci := 7) (q0 := 62) hK hP hD hN rfl gA_62) rfl rfl hl.1 rfl (lv_room (Nat.le_of_ble_eq_true rfl)) dX2_packValue_132 ⟨(Nat.le_of_ble_eq_true rfl), (Nat.le_of_ble_eq_true rfl)⟩) hS (fun q _ h => hF q h) hF (fun r6 u t H locs ht hvm hw hB _ _ hS => ?_)
        obtain rfl : r6 = q5.1 := hw
        replace hP : va_P (dC, dI) vwCl (wA a k q5.2) H := by rw [← ht]; exact hB.1
        replace hD := hD0 (q5.2)
        clear hB hF
        refine lv_istore (lv' := [(7, .int q5.1), (0, .ref (a 87)), (1, .ref (a 62)), (4, .int x4), (6, .int x6), (8, .int x8)]) hx hb dX2_packValue_135 hl (by decide) rfl (fun ls hl => ?_)
        refine lv_iinc (v := (x8 + 1)) (lv' := [(8, .int (x8 + 1)), (7, .int q5.1), (0, .ref (a 87)), (1, .ref (a 62)), (4, .int x4), (6, .int x6)]) hx hb dX2_packValue_137 hl (k := 5) rfl rfl (by decide) rfl (fun ls hl => ?_)
        refine lv_goto (tgt := 95) hx hb dX2_packValue_140 (by decide) ?_
        exact ih _ _ _ _ _ h _ _ _ hP hD hS (lv_sub hl [2, 3, 4, 5, 1, 0] rfl)

set_option maxRecDepth 100000 in
set_option maxHeartbeats 4000000 in
theorem b_X2_packValue_39_62 {p : Program} {l : Launch} {e : Env} {s : State} {m : MethodId} {args : Array Value} {below : List Frame} {meth : Method} {c : Code} {dC : Nat → ClassId} {dI : Nat → Nat → Nat} {a : Nat → Nat} {k : Nat → ClassId} {A : Nat → Prop} {q : ST} (hC : CxA p s m args meth c dC dI k A cX2_packValue RX2 none 9) {nn : Nat} {r_X2_packFields : Nat → Int32 → Int32 → Int32 → ST → Option (ST)} (hr_X2_packFields : ∀ {sz : Nat} {p1 : Int32} {p2 : Int32} {p3 : Int32} {σ : ST} {q : ST}, r_X2_packFields 62 p1 p2 p3 σ = some q → Met l yX2_packFields (.code yX2_packFields cX2_packFields 8 none :: pw) ({ frames := 5 + nn, cells := 0, slots := 0, locals := 118 + 28 * nn } : Room) (va_Pc [.ref (a 87), .ref (a 62), .int p1, .int p2, .int p3] (vPre dC dI (wA a k σ) (tA k) sz)) (qAv dC dI a k (va_A (wA a k σ) sz) q) 0 0 (va_A (wA a k σ) sz)) {r_X2_packValue : Nat → Int32 → Int32 → Int32 → ST → Option (ST)} (hr_X2_packValue : ∀ {sz : Nat} {p1 : Int32} {p2 : Int32} {p3 : Int32} {σ : ST} {q : ST}, r_X2_packValue 62 p1 p2 p3 σ = some q → Met l yX2_packValue (.code yX2_packValue cX2_packValue 9 none :: pw) ({ frames := 5 + nn, cells := 0, slots := 0, locals := 118 + 28 * nn } : Room) (va_Pc [.ref (a 87), .ref (a 62), .int p1, .int p2, .int p3] (vPre dC dI (wA a k σ) (tA k) sz)) (qAv dC dI a k (va_A (wA a k σ) sz) q) 0 0 (va_A (wA a k σ) sz))  {x2 : Int32} {x4 : Int32} {x5 : Int32} {y0 : Int32} {σ : ST} (h : f_X2_packValue_39 r_X2_packFields r_X2_packValue 62 x2 x4 x5 y0 σ = some q) : GoA p l e ({ frames := 5 + (nn + 1), cells := 0, slots := 0, locals := 118 + 28 * (nn + 1) } : Room) s m args below meth c (MQ below (qAv dC dI a k A q) args s 0 0 A) dC dI a k A 9 39 σ [(0, .ref (a 87)), (1, .ref (a 62)), (2, .int x2), (4, .int x4), (5, .int x5)] [.int y0] := by
  have hC0 := hC
  obtain ⟨hx, hb, hr, hml, hown, hts, hlocks, hA, hN, hK⟩ := hC0
  intro H locs ls hP hD hS hl
  have hD0 : ∀ σ1 : ST, va_D A (wA a k σ1) := fun σ1 => wA_D hD
  unfold f_X2_packValue_39 at h
  refine lv_istore (lv' := [(6, .int y0), (0, .ref (a 87)), (1, .ref (a 62)), (2, .int x2), (4, .int x4), (5, .int x5)]) hx hb dX2_packValue_39 hl (by decide) rfl (fun ls hl => ?_)
  refine lv_iload hx hb dX2_packValue_41 (lv_at hl 5 rfl) ?_
  refine lv_bipush (v := 7) hx hb dX2_packValue_43 (by decide) ?_
  refine lv_icmp_ne (tgt := 68) hx hb dX2_packValue_45 (by decide) (fun hc => ?_) (fun hc => ?_)
  · replace h := iq hc h
    refine lv_iload hx hb dX2_packValue_68 (lv_at hl 5 rfl) ?_
    refine lv_bipush (v := 6) hx hb dX2_packValue_70 (by decide) ?_
    refine lv_icmp_ne (tgt := 146) hx hb dX2_packValue_72 (by decide) (fun hc => ?_) (fun hc => ?_)
    · replace h := iq hc h
      refine lv_aload_n hx hb dX2_packValue_146 rfl (lv_at hl 1 rfl) ?_
      refine lv_iload hx hb dX2_packValue_147 (lv_at hl 5 rfl) ?_
      refine lv_aload_n hx hb dX2_packValue_149 rfl (lv_at hl 2 rfl) ?_
      refine lv_iload_n hx hb dX2_packValue_150 rfl (lv_at hl 3 rfl) ?_
      obtain ⟨q1, hc, h⟩ := ib h
      have hF := va_frees hD hS hA
      refine va_calll (va_runV (As := [.int x2]) (rest := [.int x5, .ref (a 87)]) ⟨hx, hb, hml, hown, hts⟩ (s_X7_worthOf_62 hc) (cwV 1 hts (gV mw_5_29 mw_6_0 mw_6_1 mw_0_11 mw_52_4) rfl rfl rfl (by decide +kernel) ⟨by show 1 + 1 ≤ 5 + (nn + 1); omega, by show 8 + (2 + 11) + 21 ≤ 118 + 28 * (nn + 1); omega⟩) (vV (ci := 7) (q0 := 62) hK hP hD hN rfl gA_62) rfl rfl hl.1 rfl (lv_room (Nat.le_of_ble_eq_true rfl)) dX2_packValue_151 ⟨(Nat.le_of_ble_eq_true rfl), (Nat.le_of_ble_eq_true rfl)⟩) hS (fun q _ h => hF q h) hF (fun r2 u t H locs ht hvm hw hB _ _ hS => ?_)
      obtain rfl : r2 = q1.1 := hw
      replace hP : va_P (dC, dI) vwCl (wA a k q1.2) H := by rw [← ht]; exact hB.1
      replace hD := hD0 (q1.2)
      clear hB hF
      obtain ⟨q3, hc, h⟩ := ib h
      have hF := va_frees hD hS hA
      refine va_callv (va_runV (As := [.int x5, .long q1.1]) (rest := []) ⟨hx, hb, hml, hown, hts⟩ (s_X2_packPlain hc) (cwV 2 hts (gV mw_6_2 mw_6_3 mw_6_4 mw_0_6 mw_48_15) rfl rfl rfl (by decide +kernel) ⟨by show 3 + 1 ≤ 5 + (nn + 1); omega, by show 8 + (5 + 11) + 70 ≤ 118 + 28 * (nn + 1); omega⟩) (vV (ci := 2) (q0 := 87) hK hP hD hN rfl gA_87) rfl rfl hl.1 rfl (lv_room (Nat.le_of_ble_eq_true rfl)) dX2_packValue_154 ⟨(Nat.le_of_ble_eq_true rfl), (Nat.le_of_ble_eq_true rfl)⟩) hS (fun q _ h => hF q h) hF (fun u t H locs ht hvm hw hB _ _ hS => ?_)
      replace hP : va_P (dC, dI) vwCl (wA a k q3) H := by rw [← ht]; exact hB.1
      replace hD := hD0 (q3)
      clear hB hF
      obtain rfl := Option.some.inj h
      exact W.vret hx hb hr (fun t ht hW => ⟨⟨(), rfl, trivial, ⟨by rw [ht]; exact hP, va_K.moved hW.alike hK, hD⟩⟩, hS.F ht⟩) hS.2.2 dX2_packValue_157
    · replace h := ip hc h
      refine lv_aload_n hx hb dX2_packValue_75 rfl (lv_at hl 1 rfl) ?_
      refine lv_aload_n hx hb dX2_packValue_76 rfl (lv_at hl 2 rfl) ?_
      refine lv_iload_n hx hb dX2_packValue_77 rfl (lv_at hl 3 rfl) ?_
      obtain ⟨q5, hc, h⟩ := ib h
      have hF := va_frees hD hS hA
      refine va_calli (va_runV (As := [.int x2]) (rest := [.ref (a 87)]) ⟨hx, hb, hml, hown, hts⟩ (s_X7_sizeOf_62 hc) (cwV 1 hts (gV mw_5_17 mw_5_18 mw_5_19 mw_0_11 mw_52_2) rfl rfl rfl (by decide +kernel) ⟨by show 1 + 1 ≤ 5 + (nn + 1); omega, by show 8 + (2 + 11) + 21 ≤ 118 + 28 * (nn + 1); omega⟩) (vV (ci := 7) (q0 := 62) hK hP hD hN rfl gA_62) rfl rfl hl.1 rfl (lv_room (Nat.le_of_ble_eq_true rfl)) dX2_packValue_78 ⟨(Nat.le_of_ble_eq_true rfl), (Nat.le_of_ble_eq_true rfl)⟩) hS (fun q _ h => hF q h) hF (fun r6 u t H locs ht hvm hw hB _ _ hS => ?_)
      obtain rfl : r6 = q5.1 := hw
      replace hP : va_P (dC, dI) vwCl (wA a k q5.2) H := by rw [← ht]; exact hB.1
      replace hD := hD0 (q5.2)
      clear hB hF
      refine lv_i2l (v := q5.1.toInt64) hx hb dX2_packValue_81 rfl ?_
      obtain ⟨q7, hc, h⟩ := ib h
      have hF := va_frees hD hS hA
      refine va_callv (va_runV (As := [.long (q5.1.toInt64)]) (rest := []) ⟨hx, hb, hml, hown, hts⟩ (s_X2_putNumber hc) (cwV 1 hts (gV mw_5_20 mw_5_21 mw_5_22 mw_0_6 mw_48_17) rfl rfl rfl (by decide +kernel) ⟨by show 1 + 1 ≤ 5 + (nn + 1); omega, by show 8 + (6 + 11) + 21 ≤ 118 + 28 * (nn + 1); omega⟩) (vV (ci := 2) (q0 := 87) hK hP hD hN rfl gA_87) rfl rfl hl.1 rfl (lv_room (Nat.le_of_ble_eq_true rfl)) dX2_packValue_82 ⟨(Nat.le_of_ble_eq_true rfl), (Nat.le_of_ble_eq_true rfl)⟩) hS (fun q _ h => hF q h) hF (fun u t H locs ht hvm hw hB _ _ hS => ?_)
      replace hP : va_P (dC, dI) vwCl (wA a k q7) H := by rw [← ht]; exact hB.1
      replace hD := hD0 (q7)
      clear hB hF
      refine lv_aload_n hx hb dX2_packValue_85 rfl (lv_at hl 2 rfl) ?_
      refine lv_iload_n hx hb dX2_packValue_86 rfl (lv_at hl 3 rfl) ?_
      obtain ⟨q9, hc, h⟩ := ib h
      have hF := va_frees hD hS hA
      refine va_calli (va_runV (As := [.int x2]) (rest := []) ⟨hx, hb, hml, hown, hts⟩ (s_X7_firstOf_62 hc) (cwV 1 hts (gV mw_5_23 mw_5_24 mw_5_25 mw_0_11 mw_52_5) rfl rfl rfl (by decide +kernel) ⟨by show 1 + 1 ≤ 5 + (nn + 1); omega, by show 8 + (2 + 11) + 21 ≤ 118 + 28 * (nn + 1); omega⟩) (vV (ci := 7) (q0 := 62) hK hP hD hN rfl gA_62) rfl rfl hl.1 rfl (lv_room (Nat.le_of_ble_eq_true rfl)) dX2_packValue_87 ⟨(Nat.le_of_ble_eq_true rfl), (Nat.le_of_ble_eq_true rfl)⟩) hS (fun q _ h => hF q h) hF (fun r10 u t H locs ht hvm hw hB _ _ hS => ?_)
      obtain rfl : r10 = q9.1 := hw
      replace hP : va_P (dC, dI) vwCl (wA a k q9.2) H := by rw [← ht]; exact hB.1
      replace hD := hD0 (q9.2)
      clear hB hF
      refine lv_istore (lv' := [(7, .int q9.1), (6, .int y0), (0, .ref (a 87)), (1, .ref (a 62)), (2, .int x2), (4, .int x4), (5, .int x5)]) hx hb dX2_packValue_90 hl (by decide) rfl (fun ls hl => ?_)
      refine lv_iconst (v := 0) hx hb dX2_packValue_92 (by decide) ?_
      refine lv_istore (lv' := [(8, .int 0), (7, .int q9.1), (6, .int y0), (0, .ref (a 87)), (1, .ref (a 62)), (2, .int x2), (4, .int x4), (5, .int x5)]) hx hb dX2_packValue_93 hl (by decide) rfl (fun ls hl => ?_)
      exact b_X2_packValue_95_62 hC hr_X2_packFields hr_X2_packValue FU _ _ _ _ _ h _ _ _ hP hD hS (lv_sub hl [3, 4, 6, 2, 1, 0] rfl)
  · replace h := ip hc h
    refine lv_aload_n hx hb dX2_packValue_48 rfl (lv_at hl 1 rfl) ?_
    refine lv_aload_n hx hb dX2_packValue_49 rfl (lv_at hl 2 rfl) ?_
    refine lv_iload_n hx hb dX2_packValue_50 rfl (lv_at hl 3 rfl) ?_
    refine lv_aload_n hx hb dX2_packValue_51 rfl (lv_at hl 1 rfl) ?_
    refine va_get (D := (dC, dI)) (ci := 2) (C := RX2) (T := TX2) (N := 3) hx hb hts inlX2 hown hK hP 87 gA_87 rfl 0 (by decide) (hts (.fieldLink RX2 19 "ShapeReader$Packer" "shapes" "LShapeReader$Shapes;") mw_5_2) (fun _ h9 => h9) rfl dX2_packValue_52 ?_
    refine lv_iload hx hb dX2_packValue_55 (lv_at hl 0 rfl) ?_
    obtain ⟨q11, hc, h⟩ := ib h
    have hF := va_frees hD hS hA
    refine va_calli (va_runV (As := [.int y0]) (rest := [.int x2, .ref (a 62), .ref (a 87)]) ⟨hx, hb, hml, hown, hts⟩ (s_X5_innerOf_4 hc) (cwV 1 hts (gV mw_5_13 mw_2_16 mw_2_17 mw_0_9 mw_50_7) rfl rfl rfl (by decide +kernel) ⟨by show 1 + 1 ≤ 5 + (nn + 1); omega, by show 8 + (2 + 11) + 21 ≤ 118 + 28 * (nn + 1); omega⟩) (vV (ci := 5) (q0 := 4) hK hP hD hN rfl gA_4) rfl rfl hl.1 rfl (lv_room (Nat.le_of_ble_eq_true rfl)) dX2_packValue_57 ⟨(Nat.le_of_ble_eq_true rfl), (Nat.le_of_ble_eq_true rfl)⟩) hS (fun q _ h => hF q h) hF (fun r12 u t H locs ht hvm hw hB _ _ hS => ?_)
    obtain rfl : r12 = q11.1 := hw
    replace hP : va_P (dC, dI) vwCl (wA a k q11.2) H := by rw [← ht]; exact hB.1
    replace hD := hD0 (q11.2)
    clear hB hF
    refine lv_iload hx hb dX2_packValue_60 (lv_at hl 4 rfl) ?_
    obtain ⟨q13, hc, h⟩ := ib h
    have hF := va_frees hD hS hA
    refine va_callv (va_runV (As := [.ref (a 62), .int x2, .int q11.1, .int x4]) (rest := []) ⟨hx, hb, hml, hown, hts⟩ (hr_X2_packFields hc) (cwV 4 hts (gV mw_5_14 mw_5_15 mw_5_16 mw_0_6 mw_48_13) rfl rfl rfl (by decide +kernel) ⟨by show (5 + nn) + 1 ≤ 5 + (nn + 1); omega, by show 8 + (8 + 11) + (118 + 28 * nn) ≤ 118 + 28 * (nn + 1); omega⟩) (vV (ci := 2) (q0 := 87) hK hP hD hN rfl gA_87) rfl rfl hl.1 rfl (lv_room (Nat.le_of_ble_eq_true rfl)) dX2_packValue_62 ⟨(Nat.le_of_ble_eq_true rfl), (Nat.le_of_ble_eq_true rfl)⟩) hS (fun q _ h => hF q h) hF (fun u t H locs ht hvm hw hB _ _ hS => ?_)
    replace hP : va_P (dC, dI) vwCl (wA a k q13) H := by rw [← ht]; exact hB.1
    replace hD := hD0 (q13)
    clear hB hF
    refine lv_goto (tgt := 157) hx hb dX2_packValue_65 (by decide) ?_
    obtain rfl := Option.some.inj h
    exact W.vret hx hb hr (fun t ht hW => ⟨⟨(), rfl, trivial, ⟨by rw [ht]; exact hP, va_K.moved hW.alike hK, hD⟩⟩, hS.F ht⟩) hS.2.2 dX2_packValue_157

set_option maxRecDepth 100000 in
set_option maxHeartbeats 4000000 in
theorem b_X2_packValue_e_62 {p : Program} {l : Launch} {e : Env} {s : State} {m : MethodId} {args : Array Value} {below : List Frame} {meth : Method} {c : Code} {dC : Nat → ClassId} {dI : Nat → Nat → Nat} {a : Nat → Nat} {k : Nat → ClassId} {A : Nat → Prop} {q : ST} (hC : CxA p s m args meth c dC dI k A cX2_packValue RX2 none 9) {nn : Nat} {r_X2_packFields : Nat → Int32 → Int32 → Int32 → ST → Option (ST)} (hr_X2_packFields : ∀ {sz : Nat} {p1 : Int32} {p2 : Int32} {p3 : Int32} {σ : ST} {q : ST}, r_X2_packFields 62 p1 p2 p3 σ = some q → Met l yX2_packFields (.code yX2_packFields cX2_packFields 8 none :: pw) ({ frames := 5 + nn, cells := 0, slots := 0, locals := 118 + 28 * nn } : Room) (va_Pc [.ref (a 87), .ref (a 62), .int p1, .int p2, .int p3] (vPre dC dI (wA a k σ) (tA k) sz)) (qAv dC dI a k (va_A (wA a k σ) sz) q) 0 0 (va_A (wA a k σ) sz)) {r_X2_packValue : Nat → Int32 → Int32 → Int32 → ST → Option (ST)} (hr_X2_packValue : ∀ {sz : Nat} {p1 : Int32} {p2 : Int32} {p3 : Int32} {σ : ST} {q : ST}, r_X2_packValue 62 p1 p2 p3 σ = some q → Met l yX2_packValue (.code yX2_packValue cX2_packValue 9 none :: pw) ({ frames := 5 + nn, cells := 0, slots := 0, locals := 118 + 28 * nn } : Room) (va_Pc [.ref (a 87), .ref (a 62), .int p1, .int p2, .int p3] (vPre dC dI (wA a k σ) (tA k) sz)) (qAv dC dI a k (va_A (wA a k σ) sz) q) 0 0 (va_A (wA a k σ) sz))  {p1 : Int32} {p2 : Int32} {p3 : Int32} {σ : ST} (h : f_X2_packValue r_X2_packFields r_X2_packValue 62 p1 p2 p3 σ = some q) : GoA p l e ({ frames := 5 + (nn + 1), cells := 0, slots := 0, locals := 118 + 28 * (nn + 1) } : Room) s m args below meth c (MQ below (qAv dC dI a k A q) args s 0 0 A) dC dI a k A 9 0 σ (lv_args 0 [.ref (a 87), .ref (a 62), .int p1, .int p2, .int p3]) [] := by
  have hC0 := hC
  obtain ⟨hx, hb, hr, hml, hown, hts, hlocks, hA, hN, hK⟩ := hC0
  intro H locs ls hP hD hS hl
  have hD0 : ∀ σ1 : ST, va_D A (wA a k σ1) := fun σ1 => wA_D hD
  replace hl : lv_has ls 9 [(0, .ref (a 87)), (1, .ref (a 62)), (2, .int p1), (3, .int p2), (4, .int p3)] := hl
  unfold f_X2_packValue at h
  refine lv_iload hx hb dX2_packValue_0 (lv_at hl 4 rfl) ?_
  refine lv_bipush (v := 31) hx hb dX2_packValue_2 (by decide) ?_
  refine lv_icmp_le (tgt := 8) hx hb dX2_packValue_4 (by decide) (fun hc => ?_) (fun hc => ?_)
  · replace h := ip hc h
    refine lv_aload_n hx hb dX2_packValue_8 rfl (lv_at hl 1 rfl) ?_
    refine lv_iload_n hx hb dX2_packValue_9 rfl (lv_at hl 2 rfl) ?_
    obtain ⟨q1, hc, h⟩ := ib h
    have hF := va_frees hD hS hA
    refine va_calli (va_runV (As := [.int p1]) (rest := []) ⟨hx, hb, hml, hown, hts⟩ (s_X7_sortAt_62 hc) (cwV 1 hts (gV mw_5_6 mw_5_7 mw_5_8 mw_0_11 mw_51_29) rfl rfl rfl (by decide +kernel) ⟨by show 1 + 1 ≤ 5 + (nn + 1); omega, by show 8 + (2 + 11) + 21 ≤ 118 + 28 * (nn + 1); omega⟩) (vV (ci := 7) (q0 := 62) hK hP hD hN rfl gA_62) rfl rfl hl.1 rfl (lv_room (Nat.le_of_ble_eq_true rfl)) dX2_packValue_10 ⟨(Nat.le_of_ble_eq_true rfl), (Nat.le_of_ble_eq_true rfl)⟩) hS (fun q _ h => hF q h) hF (fun r2 u t H locs ht hvm hw hB _ _ hS => ?_)
    obtain rfl : r2 = q1.1 := hw
    replace hP : va_P (dC, dI) vwCl (wA a k q1.2) H := by rw [← ht]; exact hB.1
    replace hD := hD0 (q1.2)
    clear hB hF
    refine lv_istore (lv' := [(5, .int q1.1), (0, .ref (a 87)), (1, .ref (a 62)), (2, .int p1), (3, .int p2), (4, .int p3)]) hx hb dX2_packValue_13 hl (by decide) rfl (fun ls hl => ?_)
    refine lv_aload_n hx hb dX2_packValue_15 rfl (lv_at hl 1 rfl) ?_
    refine va_get (D := (dC, dI)) (ci := 2) (C := RX2) (T := TX2) (N := 3) hx hb hts inlX2 hown hK hP 87 gA_87 rfl 0 (by decide) (hts (.fieldLink RX2 19 "ShapeReader$Packer" "shapes" "LShapeReader$Shapes;") mw_5_2) (fun _ h9 => h9) rfl dX2_packValue_16 ?_
    refine lv_iload_n hx hb dX2_packValue_19 rfl (lv_at hl 4 rfl) ?_
    obtain ⟨q3, hc, h⟩ := ib h
    have hF := va_frees hD hS hA
    refine va_calli (va_runV (As := [.int p2]) (rest := []) ⟨hx, hb, hml, hown, hts⟩ (s_X5_sortOf_4 hc) (cwV 1 hts (gV mw_5_9 mw_2_13 mw_2_14 mw_0_9 mw_50_6) rfl rfl rfl (by decide +kernel) ⟨by show 1 + 1 ≤ 5 + (nn + 1); omega, by show 8 + (2 + 11) + 21 ≤ 118 + 28 * (nn + 1); omega⟩) (vV (ci := 5) (q0 := 4) hK hP hD hN rfl gA_4) rfl rfl hl.1 rfl (lv_room (Nat.le_of_ble_eq_true rfl)) dX2_packValue_20 ⟨(Nat.le_of_ble_eq_true rfl), (Nat.le_of_ble_eq_true rfl)⟩) hS (fun q _ h => hF q h) hF (fun r4 u t H locs ht hvm hw hB _ _ hS => ?_)
    obtain rfl : r4 = q3.1 := hw
    replace hP : va_P (dC, dI) vwCl (wA a k q3.2) H := by rw [← ht]; exact hB.1
    replace hD := hD0 (q3.2)
    clear hB hF
    refine lv_bipush (v := 8) hx hb dX2_packValue_23 (by decide) ?_
    refine lv_icmp_ne (tgt := 38) hx hb dX2_packValue_25 (by decide) (fun hc => ?_) (fun hc => ?_)
    · replace h := iq hc h
      refine lv_iload_n hx hb dX2_packValue_38 rfl (lv_at hl 4 rfl) ?_
      exact b_X2_packValue_39_62 hC hr_X2_packFields hr_X2_packValue h _ _ _ hP hD hS (lv_sub hl [1, 2, 3, 5, 0] rfl)
    · replace h := ip hc h
      refine lv_aload_n hx hb dX2_packValue_28 rfl (lv_at hl 1 rfl) ?_
      refine lv_iload_n hx hb dX2_packValue_29 rfl (lv_at hl 4 rfl) ?_
      refine lv_iload hx hb dX2_packValue_30 (lv_at hl 0 rfl) ?_
      obtain ⟨q5, hc, h⟩ := ib h
      have hF := va_frees hD hS hA
      refine va_calli (va_runV (As := [.int p2, .int q1.1]) (rest := []) ⟨hx, hb, hml, hown, hts⟩ (s_X2_packBranch hc) (cwV 2 hts (gV mw_5_10 mw_5_11 mw_5_12 mw_0_6 mw_48_12) rfl rfl rfl (by decide +kernel) ⟨by show 2 + 1 ≤ 5 + (nn + 1); omega, by show 8 + (6 + 11) + 46 ≤ 118 + 28 * (nn + 1); omega⟩) (vV (ci := 2) (q0 := 87) hK hP hD hN rfl gA_87) rfl rfl hl.1 rfl (lv_room (Nat.le_of_ble_eq_true rfl)) dX2_packValue_32 ⟨(Nat.le_of_ble_eq_true rfl), (Nat.le_of_ble_eq_true rfl)⟩) hS (fun q _ h => hF q h) hF (fun r6 u t H locs ht hvm hw hB _ _ hS => ?_)
      obtain rfl : r6 = q5.1 := hw
      replace hP : va_P (dC, dI) vwCl (wA a k q5.2) H := by rw [← ht]; exact hB.1
      replace hD := hD0 (q5.2)
      clear hB hF
      refine lv_goto (tgt := 39) hx hb dX2_packValue_35 (by decide) ?_
      exact b_X2_packValue_39_62 hC hr_X2_packFields hr_X2_packValue h _ _ _ hP hD hS (lv_sub hl [1, 2, 3, 5, 0] rfl)
  · replace h := iq hc h
    obtain rfl := Option.some.inj h
    exact W.vret hx hb hr (fun t ht hW => ⟨⟨(), rfl, trivial, ⟨by rw [ht]; exact hP, va_K.moved hW.alike hK, hD⟩⟩, hS.F ht⟩) hS.2.2 dX2_packValue_7


set_option maxRecDepth 100000 in
set_option maxHeartbeats 4000000 in
theorem s_R_X2_packFields_62 {l : Launch} {dC : Nat → ClassId} {dI : Nat → Nat → Nat} {a : Nat → Nat} {k : Nat → ClassId} : ∀ n : Nat, (∀ {sz : Nat} {p1 : Int32} {p2 : Int32} {p3 : Int32} {σ : ST} {q : ST}, (R_X2_packFields n).1 62 p1 p2 p3 σ = some q → Met l yX2_packFields (.code yX2_packFields cX2_packFields 8 none :: pw) ({ frames := 5 + n, cells := 0, slots := 0, locals := 118 + 28 * n } : Room) (va_Pc [.ref (a 87), .ref (a 62), .int p1, .int p2, .int p3] (vPre dC dI (wA a k σ) (tA k) sz)) (qAv dC dI a k (va_A (wA a k σ) sz) q) 0 0 (va_A (wA a k σ) sz)) ∧ (∀ {sz : Nat} {p1 : Int32} {p2 : Int32} {p3 : Int32} {σ : ST} {q : ST}, (R_X2_packFields n).2 62 p1 p2 p3 σ = some q → Met l yX2_packValue (.code yX2_packValue cX2_packValue 9 none :: pw) ({ frames := 5 + n, cells := 0, slots := 0, locals := 118 + 28 * n } : Room) (va_Pc [.ref (a 87), .ref (a 62), .int p1, .int p2, .int p3] (vPre dC dI (wA a k σ) (tA k) sz)) (qAv dC dI a k (va_A (wA a k σ) sz) q) 0 0 (va_A (wA a k σ) sz)) := by
  intro n
  induction n with
  | zero => exact ⟨(fun h => nomatch h), (fun h => nomatch h)⟩
  | succ n ih => exact ⟨(fun h => metA (fun A => qAv dC dI a k A _) (plainFor_of_name (by decide)) (Nat.le_of_ble_eq_true rfl) (fun _ _ _ _ _ _ _ _ hC => b_X2_packFields_e_62 hC ih.1 ih.2 h)), (fun h => metA (fun A => qAv dC dI a k A _) (plainFor_of_name (by decide)) (Nat.le_of_ble_eq_true rfl) (fun _ _ _ _ _ _ _ _ hC => b_X2_packValue_e_62 hC ih.1 ih.2 h))⟩
theorem s_X2_packFields_62 {l : Launch} {dC : Nat → ClassId} {dI : Nat → Nat → Nat} {a : Nat → Nat} {k : Nat → ClassId} {sz : Nat} {p1 : Int32} {p2 : Int32} {p3 : Int32} {σ : ST} {q : ST} (h : f_T_X2_packFields 62 p1 p2 p3 σ = some q) : Met l yX2_packFields (.code yX2_packFields cX2_packFields 8 none :: pw) ({ frames := 165, cells := 0, slots := 0, locals := 4598 } : Room) (va_Pc [.ref (a 87), .ref (a 62), .int p1, .int p2, .int p3] (vPre dC dI (wA a k σ) (tA k) sz)) (qAv dC dI a k (va_A (wA a k σ) sz) q) 0 0 (va_A (wA a k σ) sz) := (s_R_X2_packFields_62 FR).1 h
theorem s_X2_packValue_62 {l : Launch} {dC : Nat → ClassId} {dI : Nat → Nat → Nat} {a : Nat → Nat} {k : Nat → ClassId} {sz : Nat} {p1 : Int32} {p2 : Int32} {p3 : Int32} {σ : ST} {q : ST} (h : f_T_X2_packValue 62 p1 p2 p3 σ = some q) : Met l yX2_packValue (.code yX2_packValue cX2_packValue 9 none :: pw) ({ frames := 165, cells := 0, slots := 0, locals := 4598 } : Room) (va_Pc [.ref (a 87), .ref (a 62), .int p1, .int p2, .int p3] (vPre dC dI (wA a k σ) (tA k) sz)) (qAv dC dI a k (va_A (wA a k σ) sz) q) 0 0 (va_A (wA a k σ) sz) := (s_R_X2_packFields_62 FR).2 h

def f_X2_pack (t : Nat) (p1 : Int32) (σ : ST) : Option (ST) := (f_T_X2_packValue t 0 p1 0 (stI σ 87 2 0)).bind fun q1 => some q1

set_option maxRecDepth 100000 in
set_option maxHeartbeats 4000000 in
theorem b_X2_pack_e_50 {p : Program} {l : Launch} {e : Env} {s : State} {m : MethodId} {args : Array Value} {below : List Frame} {meth : Method} {c : Code} {dC : Nat → ClassId} {dI : Nat → Nat → Nat} {a : Nat → Nat} {k : Nat → ClassId} {A : Nat → Prop} {q : ST} (hC : CxA p s m args meth c dC dI k A cX2_pack RX2 none 3)   {p1 : Int32} {σ : ST} (h : f_X2_pack 50 p1 σ = some q) : GoA p l e ({ frames := 166, cells := 0, slots := 0, locals := 4626 } : Room) s m args below meth c (MQ below (qAv dC dI a k A q) args s 0 0 A) dC dI a k A 3 0 σ (lv_args 0 [.ref (a 87), .ref (a 50), .int p1]) [] := by
  have hC0 := hC
  obtain ⟨hx, hb, hr, hml, hown, hts, hlocks, hA, hN, hK⟩ := hC0
  intro H locs ls hP hD hS hl
  have hD0 : ∀ σ1 : ST, va_D A (wA a k σ1) := fun σ1 => wA_D hD
  replace hl : lv_has ls 3 [(0, .ref (a 87)), (1, .ref (a 50)), (2, .int p1)] := hl
  unfold f_X2_pack at h
  refine lv_aload_n hx hb dX2_pack_0 rfl (lv_at hl 0 rfl) ?_
  refine lv_iconst (v := 0) hx hb dX2_pack_1 (by decide) ?_
  refine va_put (D := (dC, dI)) (ci := 2) (ty := .int) (C := RX2) (T := TX2) (N := 3) hx hb hts inlX2 tyX2 tyX2_ok nmX2 hown hK hP hD hS 87 gA_87 rfl 2 (by decide) (hts (.fieldLink RX2 15 "ShapeReader$Packer" "size" "I") mw_5_1) (fun _ h9 => h9) rfl (by decide +kernel) rfl rfl (Nat.le_of_ble_eq_true rfl) dX2_pack_2 (fun H locs hP hD hS => ?_)
  replace hP := uA_87_2 hP
  replace hD := hD0 ((stI σ 87 2 0))
  refine lv_aload_n hx hb dX2_pack_5 rfl (lv_at hl 0 rfl) ?_
  refine lv_aload_n hx hb dX2_pack_6 rfl (lv_at hl 1 rfl) ?_
  refine lv_iconst (v := 0) hx hb dX2_pack_7 (by decide) ?_
  refine lv_iload_n hx hb dX2_pack_8 rfl (lv_at hl 2 rfl) ?_
  refine lv_iconst (v := 0) hx hb dX2_pack_9 (by decide) ?_
  obtain ⟨q1, hc, h⟩ := ib h
  have hF := va_frees hD hS hA
  refine va_callv (va_runV (As := [.ref (a 50), .int 0, .int p1, .int 0]) (rest := []) ⟨hx, hb, hml, hown, hts⟩ (s_X2_packValue_50 hc) (cwV 4 hts (gV mw_5_3 mw_5_4 mw_5_5 mw_0_6 mw_48_11) rfl rfl rfl (by decide +kernel) ⟨(Nat.le_of_ble_eq_true rfl), (Nat.le_of_ble_eq_true rfl)⟩) (vV (ci := 2) (q0 := 87) hK hP hD hN rfl gA_87) rfl rfl hl.1 rfl (lv_room (Nat.le_of_ble_eq_true rfl)) dX2_pack_10 ⟨(Nat.le_of_ble_eq_true rfl), (Nat.le_of_ble_eq_true rfl)⟩) hS (fun q _ h => hF q h) hF (fun u t H locs ht hvm hw hB _ _ hS => ?_)
  replace hP : va_P (dC, dI) vwCl (wA a k q1) H := by rw [← ht]; exact hB.1
  replace hD := hD0 (q1)
  clear hB hF
  obtain rfl := Option.some.inj h
  exact W.vret hx hb hr (fun t ht hW => ⟨⟨(), rfl, trivial, ⟨by rw [ht]; exact hP, va_K.moved hW.alike hK, hD⟩⟩, hS.F ht⟩) hS.2.2 dX2_pack_13

theorem s_X2_pack_50 {l : Launch} {dC : Nat → ClassId} {dI : Nat → Nat → Nat} {a : Nat → Nat} {k : Nat → ClassId} {sz : Nat} {p1 : Int32} {σ : ST} {q : ST} (h : f_X2_pack 50 p1 σ = some q) : Met l yX2_pack (.code yX2_pack cX2_pack 3 none :: pw) ({ frames := 166, cells := 0, slots := 0, locals := 4626 } : Room) (va_Pc [.ref (a 87), .ref (a 50), .int p1] (vPre dC dI (wA a k σ) (tA k) sz)) (qAv dC dI a k (va_A (wA a k σ) sz) q) 0 0 (va_A (wA a k σ) sz) := metA (fun A => qAv dC dI a k A q) (plainFor_of_name (by decide)) (Nat.le_of_ble_eq_true rfl) (fun _ _ _ _ _ _ _ _ hC => b_X2_pack_e_50 hC h)

set_option maxRecDepth 100000 in
set_option maxHeartbeats 4000000 in
theorem b_X2_pack_e_62 {p : Program} {l : Launch} {e : Env} {s : State} {m : MethodId} {args : Array Value} {below : List Frame} {meth : Method} {c : Code} {dC : Nat → ClassId} {dI : Nat → Nat → Nat} {a : Nat → Nat} {k : Nat → ClassId} {A : Nat → Prop} {q : ST} (hC : CxA p s m args meth c dC dI k A cX2_pack RX2 none 3)   {p1 : Int32} {σ : ST} (h : f_X2_pack 62 p1 σ = some q) : GoA p l e ({ frames := 166, cells := 0, slots := 0, locals := 4626 } : Room) s m args below meth c (MQ below (qAv dC dI a k A q) args s 0 0 A) dC dI a k A 3 0 σ (lv_args 0 [.ref (a 87), .ref (a 62), .int p1]) [] := by
  have hC0 := hC
  obtain ⟨hx, hb, hr, hml, hown, hts, hlocks, hA, hN, hK⟩ := hC0
  intro H locs ls hP hD hS hl
  have hD0 : ∀ σ1 : ST, va_D A (wA a k σ1) := fun σ1 => wA_D hD
  replace hl : lv_has ls 3 [(0, .ref (a 87)), (1, .ref (a 62)), (2, .int p1)] := hl
  unfold f_X2_pack at h
  refine lv_aload_n hx hb dX2_pack_0 rfl (lv_at hl 0 rfl) ?_
  refine lv_iconst (v := 0) hx hb dX2_pack_1 (by decide) ?_
  refine va_put (D := (dC, dI)) (ci := 2) (ty := .int) (C := RX2) (T := TX2) (N := 3) hx hb hts inlX2 tyX2 tyX2_ok nmX2 hown hK hP hD hS 87 gA_87 rfl 2 (by decide) (hts (.fieldLink RX2 15 "ShapeReader$Packer" "size" "I") mw_5_1) (fun _ h9 => h9) rfl (by decide +kernel) rfl rfl (Nat.le_of_ble_eq_true rfl) dX2_pack_2 (fun H locs hP hD hS => ?_)
  replace hP := uA_87_2 hP
  replace hD := hD0 ((stI σ 87 2 0))
  refine lv_aload_n hx hb dX2_pack_5 rfl (lv_at hl 0 rfl) ?_
  refine lv_aload_n hx hb dX2_pack_6 rfl (lv_at hl 1 rfl) ?_
  refine lv_iconst (v := 0) hx hb dX2_pack_7 (by decide) ?_
  refine lv_iload_n hx hb dX2_pack_8 rfl (lv_at hl 2 rfl) ?_
  refine lv_iconst (v := 0) hx hb dX2_pack_9 (by decide) ?_
  obtain ⟨q1, hc, h⟩ := ib h
  have hF := va_frees hD hS hA
  refine va_callv (va_runV (As := [.ref (a 62), .int 0, .int p1, .int 0]) (rest := []) ⟨hx, hb, hml, hown, hts⟩ (s_X2_packValue_62 hc) (cwV 4 hts (gV mw_5_3 mw_5_4 mw_5_5 mw_0_6 mw_48_11) rfl rfl rfl (by decide +kernel) ⟨(Nat.le_of_ble_eq_true rfl), (Nat.le_of_ble_eq_true rfl)⟩) (vV (ci := 2) (q0 := 87) hK hP hD hN rfl gA_87) rfl rfl hl.1 rfl (lv_room (Nat.le_of_ble_eq_true rfl)) dX2_pack_10 ⟨(Nat.le_of_ble_eq_true rfl), (Nat.le_of_ble_eq_true rfl)⟩) hS (fun q _ h => hF q h) hF (fun u t H locs ht hvm hw hB _ _ hS => ?_)
  replace hP : va_P (dC, dI) vwCl (wA a k q1) H := by rw [← ht]; exact hB.1
  replace hD := hD0 (q1)
  clear hB hF
  obtain rfl := Option.some.inj h
  exact W.vret hx hb hr (fun t ht hW => ⟨⟨(), rfl, trivial, ⟨by rw [ht]; exact hP, va_K.moved hW.alike hK, hD⟩⟩, hS.F ht⟩) hS.2.2 dX2_pack_13

theorem s_X2_pack_62 {l : Launch} {dC : Nat → ClassId} {dI : Nat → Nat → Nat} {a : Nat → Nat} {k : Nat → ClassId} {sz : Nat} {p1 : Int32} {σ : ST} {q : ST} (h : f_X2_pack 62 p1 σ = some q) : Met l yX2_pack (.code yX2_pack cX2_pack 3 none :: pw) ({ frames := 166, cells := 0, slots := 0, locals := 4626 } : Room) (va_Pc [.ref (a 87), .ref (a 62), .int p1] (vPre dC dI (wA a k σ) (tA k) sz)) (qAv dC dI a k (va_A (wA a k σ) sz) q) 0 0 (va_A (wA a k σ) sz) := metA (fun A => qAv dC dI a k A q) (plainFor_of_name (by decide)) (Nat.le_of_ble_eq_true rfl) (fun _ _ _ _ _ _ _ _ hC => b_X2_pack_e_62 hC h)

def f_X9_pairAt (p0 : Int32) (σ : ST) : Option (Int32 × ST) := if p0 < 0 then (some ((-1), σ)) else (if (σ.1 48 1) ≤ p0 then (some ((-1), σ)) else (if 4 ≤ p0 then (some ((-1), σ)) else (if 0 ≤ p0.toInt ∧ p0.toInt < 4 then (some ((σ.1 49 p0.toNatClampNeg), σ)) else none)))

set_option maxRecDepth 100000 in
set_option maxHeartbeats 4000000 in
theorem b_X9_pairAt_e {p : Program} {l : Launch} {e : Env} {s : State} {m : MethodId} {args : Array Value} {below : List Frame} {meth : Method} {c : Code} {dC : Nat → ClassId} {dI : Nat → Nat → Nat} {a : Nat → Nat} {k : Nat → ClassId} {A : Nat → Prop} {q : Int32 × ST} (hC : CxA p s m args meth c dC dI k A cX9_pairAt RX9 (some .int) 2)   {p0 : Int32} {σ : ST} (h : f_X9_pairAt  p0 σ = some q) : GoA p l e ({ frames := 0, cells := 0, slots := 0, locals := 0 } : Room) s m args below meth c (MQ below (qAi dC dI a k A q) args s 0 0 A) dC dI a k A 2 0 σ (lv_args 0 [.ref (a 48), .int p0]) [] := by
  have hC0 := hC
  obtain ⟨hx, hb, hr, hml, hown, hts, hlocks, hA, hN, hK⟩ := hC0
  intro H locs ls hP hD hS hl
  have hD0 : ∀ σ1 : ST, va_D A (wA a k σ1) := fun σ1 => wA_D hD
  replace hl : lv_has ls 2 [(0, .ref (a 48)), (1, .int p0)] := hl
  unfold f_X9_pairAt at h
  refine lv_iload_n hx hb dX9_pairAt_0 rfl (lv_at hl 1 rfl) ?_
  refine lv_if_lt (tgt := 26) hx hb dX9_pairAt_1 (by decide) (fun hc => ?_) (fun hc => ?_)
  · replace h := ip hc h
    refine lv_iconst (v := (-1)) hx hb dX9_pairAt_26 (by decide) ?_
    obtain rfl := Option.some.inj h
    exact W.iret hx hb hr (fun t ht hW => ⟨⟨_, (), rfl, rfl, ⟨by rw [ht]; exact hP, va_K.moved hW.alike hK, hD⟩⟩, hS.F ht⟩) hS.2.2 dX9_pairAt_27
  · replace h := iq hc h
    refine lv_iload_n hx hb dX9_pairAt_4 rfl (lv_at hl 1 rfl) ?_
    refine lv_aload_n hx hb dX9_pairAt_5 rfl (lv_at hl 0 rfl) ?_
    refine va_get (D := (dC, dI)) (ci := 9) (C := RX9) (T := TX9) (N := 4) hx hb hts inlX9 hown hK hP 48 gA_48 rfl 1 (by decide) (hts (.fieldLink RX9 15 "ShapeReader$Ways" "size" "I") mw_20_12) (fun _ h9 => h9) rfl dX9_pairAt_6 ?_
    refine lv_icmp_ge (tgt := 26) hx hb dX9_pairAt_9 (by decide) (fun hc => ?_) (fun hc => ?_)
    · replace h := ip hc h
      refine lv_iconst (v := (-1)) hx hb dX9_pairAt_26 (by decide) ?_
      obtain rfl := Option.some.inj h
      exact W.iret hx hb hr (fun t ht hW => ⟨⟨_, (), rfl, rfl, ⟨by rw [ht]; exact hP, va_K.moved hW.alike hK, hD⟩⟩, hS.F ht⟩) hS.2.2 dX9_pairAt_27
    · replace h := iq hc h
      refine lv_iload_n hx hb dX9_pairAt_12 rfl (lv_at hl 1 rfl) ?_
      refine lv_iconst (v := 4) hx hb dX9_pairAt_13 (by decide) ?_
      refine lv_icmp_ge (tgt := 26) hx hb dX9_pairAt_14 (by decide) (fun hc => ?_) (fun hc => ?_)
      · replace h := ip hc h
        refine lv_iconst (v := (-1)) hx hb dX9_pairAt_26 (by decide) ?_
        obtain rfl := Option.some.inj h
        exact W.iret hx hb hr (fun t ht hW => ⟨⟨_, (), rfl, rfl, ⟨by rw [ht]; exact hP, va_K.moved hW.alike hK, hD⟩⟩, hS.F ht⟩) hS.2.2 dX9_pairAt_27
      · replace h := iq hc h
        refine lv_aload_n hx hb dX9_pairAt_17 rfl (lv_at hl 0 rfl) ?_
        refine va_get (D := (dC, dI)) (ci := 9) (C := RX9) (T := TX9) (N := 4) hx hb hts inlX9 hown hK hP 48 gA_48 rfl 0 (by decide) (hts (.fieldLink RX9 11 "ShapeReader$Ways" "pairs" "[I") mw_20_11) (fun _ h9 => h9) rfl dX9_pairAt_18 ?_
        refine lv_iload_n hx hb dX9_pairAt_21 rfl (lv_at hl 1 rfl) ?_
        obtain ⟨hg1, h⟩ := ig h
        refine va_iald hx hb hK hP 49 41 gA_49 yA_49 (vp_in_iff.mpr hg1) dX9_pairAt_22 ?_
        refine lv_goto (tgt := 27) hx hb dX9_pairAt_23 (by decide) ?_
        obtain rfl := Option.some.inj h
        exact W.iret hx hb hr (fun t ht hW => ⟨⟨_, (), rfl, rfl, ⟨by rw [ht]; exact hP, va_K.moved hW.alike hK, hD⟩⟩, hS.F ht⟩) hS.2.2 dX9_pairAt_27

theorem s_X9_pairAt {l : Launch} {dC : Nat → ClassId} {dI : Nat → Nat → Nat} {a : Nat → Nat} {k : Nat → ClassId} {sz : Nat} {p0 : Int32} {σ : ST} {q : Int32 × ST} (h : f_X9_pairAt  p0 σ = some q) : Met l yX9_pairAt (.code yX9_pairAt cX9_pairAt 2 (some .int) :: pw) ({ frames := 0, cells := 0, slots := 0, locals := 0 } : Room) (va_Pc [.ref (a 48), .int p0] (vPre dC dI (wA a k σ) (tA k) sz)) (qAi dC dI a k (va_A (wA a k σ) sz) q) 0 0 (va_A (wA a k σ) sz) := metA (fun A => qAi dC dI a k A q) (plainFor_of_name (by decide)) (Nat.le_of_ble_eq_true rfl) (fun _ _ _ _ _ _ _ _ hC => b_X9_pairAt_e hC h)

def f_X9_use_97  : Nat → Int32 → Int32 → ST → Option (ST)
  | 0, _, _, _ => none
  | n + 1, x3, x5, σ => if x5 ≤ 0 then (some (stI σ 49 (0 : Int32).toNatClampNeg x3)) else (if 0 ≤ (x5 - 1).toInt ∧ (x5 - 1).toInt < 4 then (if 0 ≤ x5.toInt ∧ x5.toInt < 4 then (f_X9_use_97  n x3 (x5 + (-1)) (stI σ 49 x5.toNatClampNeg (σ.1 49 (x5 - 1).toNatClampNeg))) else none) else none)
def f_X9_use_89 (x3 : Int32) (x4 : Int32) (σ : ST) : Option (ST) := f_X9_use_97  FU x3 (if 3 < x4 then 3 else x4) σ
def f_X9_use_35 (x3 : Int32) (x4 : Int32) (σ : ST) : Option (ST) := if (σ.1 48 1) ≤ x4 then ((some (stI (stI σ 48 3 ((σ.1 48 3) + 1)) 48 1 (if 4 < (((stI σ 48 3 ((σ.1 48 3) + 1)).1 48 1) + 1) then 4 else (((stI σ 48 3 ((σ.1 48 3) + 1)).1 48 1) + 1)))).bind fun z1 => f_X9_use_89  x3 ((z1.1 48 1) - 1) z1) else (f_X9_use_89  x3 x4 (stI σ 48 2 ((σ.1 48 2) + 1)))
def f_X9_use_10  : Nat → Int32 → Int32 → ST → Option (ST)
  | 0, _, _, _ => none
  | n + 1, x3, x4, σ => if (σ.1 48 1) ≤ x4 then (f_X9_use_35  x3 x4 σ) else ((f_X9_pairAt  x4 σ).bind fun q1 => if q1.1 = x3 then (f_X9_use_35  x3 x4 q1.2) else (f_X9_use_10  n x3 (x4 + 1) q1.2))
def f_X9_use (p0 : Int32) (p1 : Int32) (σ : ST) : Option (ST) := f_X9_use_10  FU ((10 * p0) + p1) 0 σ

set_option maxRecDepth 100000 in
set_option maxHeartbeats 4000000 in
theorem b_X9_use_97 {p : Program} {l : Launch} {e : Env} {s : State} {m : MethodId} {args : Array Value} {below : List Frame} {meth : Method} {c : Code} {dC : Nat → ClassId} {dI : Nat → Nat → Nat} {a : Nat → Nat} {k : Nat → ClassId} {A : Nat → Prop} {q : ST} (hC : CxA p s m args meth c dC dI k A cX9_use RX9 none 6)   : ∀ (n : Nat) (x3 : Int32) (x5 : Int32) (σ : ST), f_X9_use_97  n x3 x5 σ = some q → GoA p l e ({ frames := 1, cells := 0, slots := 0, locals := 30 } : Room) s m args below meth c (MQ below (qAv dC dI a k A q) args s 0 0 A) dC dI a k A 6 97 σ [(0, .ref (a 48)), (3, .int x3), (5, .int x5)] [] := by
  intro n
  induction n with
  | zero =>
    intro x3 x5 σ h
    rw [f_X9_use_97] at h
    cases h
  | succ n ih =>
    intro x3 x5 σ h
    have hC0 := hC
    obtain ⟨hx, hb, hr, hml, hown, hts, hlocks, hA, hN, hK⟩ := hC0
    intro H locs ls hP hD hS hl
    have hD0 : ∀ σ1 : ST, va_D A (wA a k σ1) := fun σ1 => wA_D hD
    rw [f_X9_use_97] at h
    refine lv_iload hx hb dX9_use_97 (lv_at hl 2 rfl) ?_
    refine lv_if_le (tgt := 124) hx hb dX9_use_99 (by decide) (fun hc => ?_) (fun hc => ?_)
    · replace h := ip hc h
      refine lv_aload_n hx hb dX9_use_124 rfl (lv_at hl 0 rfl) ?_
      refine va_get (D := (dC, dI)) (ci := 9) (C := RX9) (T := TX9) (N := 4) hx hb hts inlX9 hown hK hP 48 gA_48 rfl 0 (by decide) (hts (.fieldLink RX9 11 "ShapeReader$Ways" "pairs" "[I") mw_20_11) (fun _ h9 => h9) rfl dX9_use_125 ?_
      refine lv_iconst (v := 0) hx hb dX9_use_128 (by decide) ?_
      refine lv_iload_n hx hb dX9_use_129 rfl (lv_at hl 1 rfl) ?_
      refine va_iast hx hb hK hP hD hS 49 41 gA_49 yA_49 (vp_in_iff.mpr (by decide)) dX9_use_130 (fun H locs hP hD hS => ?_)
      replace hP := uA_49 hP
      replace hD := hD0 ((stI σ 49 (0 : Int32).toNatClampNeg x3))
      obtain rfl := Option.some.inj h
      exact W.vret hx hb hr (fun t ht hW => ⟨⟨(), rfl, trivial, ⟨by rw [ht]; exact hP, va_K.moved hW.alike hK, hD⟩⟩, hS.F ht⟩) hS.2.2 dX9_use_131
    · replace h := iq hc h
      refine lv_aload_n hx hb dX9_use_102 rfl (lv_at hl 0 rfl) ?_
      refine va_get (D := (dC, dI)) (ci := 9) (C := RX9) (T := TX9) (N := 4) hx hb hts inlX9 hown hK hP 48 gA_48 rfl 0 (by decide) (hts (.fieldLink RX9 11 "ShapeReader$Ways" "pairs" "[I") mw_20_11) (fun _ h9 => h9) rfl dX9_use_103 ?_
      refine lv_iload hx hb dX9_use_106 (lv_at hl 2 rfl) ?_
      refine lv_aload_n hx hb dX9_use_108 rfl (lv_at hl 0 rfl) ?_
      refine va_get (D := (dC, dI)) (ci := 9) (C := RX9) (T := TX9) (N := 4) hx hb hts inlX9 hown hK hP 48 gA_48 rfl 0 (by decide) (hts (.fieldLink RX9 11 "ShapeReader$Ways" "pairs" "[I") mw_20_11) (fun _ h9 => h9) rfl dX9_use_109 ?_
      refine lv_iload hx hb dX9_use_112 (lv_at hl 2 rfl) ?_
      refine lv_iconst (v := 1) hx hb dX9_use_114 (by decide) ?_
      refine lv_isub hx hb dX9_use_115 ?_
      obtain ⟨hg1, h⟩ := ig h
      refine va_iald hx hb hK hP 49 41 gA_49 yA_49 (vp_in_iff.mpr hg1) dX9_use_116 ?_
      obtain ⟨hg2, h⟩ := ig h
      refine va_iast hx hb hK hP hD hS 49 41 gA_49 yA_49 (vp_in_iff.mpr hg2) dX9_use_117 (fun H locs hP hD hS => ?_)
      replace hP := uA_49 hP
      replace hD := hD0 ((stI σ 49 x5.toNatClampNeg (σ.1 49 (x5 - 1).toNatClampNeg)))
      refine lv_iinc (v := (x5 + (-1))) (lv' := [(5, .int (x5 + (-1))), (0, .ref (a 48)), (3, .int x3)]) hx hb dX9_use_118 hl (k := 2) rfl rfl (by decide) rfl (fun ls hl => ?_)
      refine lv_goto (tgt := 97) hx hb dX9_use_121 (by decide) ?_
      exact ih _ _ _ h _ _ _ hP hD hS (lv_sub hl [1, 2, 0] rfl)

set_option maxRecDepth 100000 in
set_option maxHeartbeats 4000000 in
theorem b_X9_use_89 {p : Program} {l : Launch} {e : Env} {s : State} {m : MethodId} {args : Array Value} {below : List Frame} {meth : Method} {c : Code} {dC : Nat → ClassId} {dI : Nat → Nat → Nat} {a : Nat → Nat} {k : Nat → ClassId} {A : Nat → Prop} {q : ST} (hC : CxA p s m args meth c dC dI k A cX9_use RX9 none 6)   {x3 : Int32} {x4 : Int32} {σ : ST} (h : f_X9_use_89  x3 x4 σ = some q) : GoA p l e ({ frames := 1, cells := 0, slots := 0, locals := 30 } : Room) s m args below meth c (MQ below (qAv dC dI a k A q) args s 0 0 A) dC dI a k A 6 89 σ [(0, .ref (a 48)), (3, .int x3), (4, .int x4)] [] := by
  have hC0 := hC
  obtain ⟨hx, hb, hr, hml, hown, hts, hlocks, hA, hN, hK⟩ := hC0
  intro H locs ls hP hD hS hl
  have hD0 : ∀ σ1 : ST, va_D A (wA a k σ1) := fun σ1 => wA_D hD
  unfold f_X9_use_89 at h
  refine lv_iload hx hb dX9_use_89 (lv_at hl 2 rfl) ?_
  refine lv_iconst (v := 3) hx hb dX9_use_91 (by decide) ?_
  refine va_mmin hx hb (hml.trans hl.1.symm) hown (hts (.methodLink RX9 29 Lib.Math.min.name) mw_20_18) (hts (.static Lib.Math.min.name) mw_20_19) (hts (.initialized RJ9) mw_1_6) (hts (.code Lib.Math.min.name Lib.Math.min.code 2 (some .int)) mw_52_23) (Nat.le_of_ble_eq_true rfl) (Nat.le_of_ble_eq_true rfl) (Nat.le_of_ble_eq_true rfl) (Nat.le_of_ble_eq_true rfl) dX9_use_92 ?_
  refine lv_istore (lv' := [(5, .int (if 3 < x4 then 3 else x4)), (0, .ref (a 48)), (3, .int x3), (4, .int x4)]) hx hb dX9_use_95 hl (by decide) rfl (fun ls hl => ?_)
  exact b_X9_use_97 hC FU _ _ _ h _ _ _ hP hD hS (lv_sub hl [1, 2, 0] rfl)

set_option maxRecDepth 100000 in
set_option maxHeartbeats 4000000 in
theorem b_X9_use_35 {p : Program} {l : Launch} {e : Env} {s : State} {m : MethodId} {args : Array Value} {below : List Frame} {meth : Method} {c : Code} {dC : Nat → ClassId} {dI : Nat → Nat → Nat} {a : Nat → Nat} {k : Nat → ClassId} {A : Nat → Prop} {q : ST} (hC : CxA p s m args meth c dC dI k A cX9_use RX9 none 6)   {x3 : Int32} {x4 : Int32} {σ : ST} (h : f_X9_use_35  x3 x4 σ = some q) : GoA p l e ({ frames := 1, cells := 0, slots := 0, locals := 30 } : Room) s m args below meth c (MQ below (qAv dC dI a k A q) args s 0 0 A) dC dI a k A 6 35 σ [(0, .ref (a 48)), (3, .int x3), (4, .int x4)] [] := by
  have hC0 := hC
  obtain ⟨hx, hb, hr, hml, hown, hts, hlocks, hA, hN, hK⟩ := hC0
  intro H locs ls hP hD hS hl
  have hD0 : ∀ σ1 : ST, va_D A (wA a k σ1) := fun σ1 => wA_D hD
  unfold f_X9_use_35 at h
  refine lv_iload hx hb dX9_use_35 (lv_at hl 2 rfl) ?_
  refine lv_aload_n hx hb dX9_use_37 rfl (lv_at hl 0 rfl) ?_
  refine va_get (D := (dC, dI)) (ci := 9) (C := RX9) (T := TX9) (N := 4) hx hb hts inlX9 hown hK hP 48 gA_48 rfl 1 (by decide) (hts (.fieldLink RX9 15 "ShapeReader$Ways" "size" "I") mw_20_12) (fun _ h9 => h9) rfl dX9_use_38 ?_
  refine lv_icmp_ge (tgt := 57) hx hb dX9_use_41 (by decide) (fun hc => ?_) (fun hc => ?_)
  · replace h := ip hc h
    refine lv_aload_n hx hb dX9_use_57 rfl (lv_at hl 0 rfl) ?_
    refine lv_dup hx hb dX9_use_58 rfl ?_
    refine va_get (D := (dC, dI)) (ci := 9) (C := RX9) (T := TX9) (N := 4) hx hb hts inlX9 hown hK hP 48 gA_48 rfl 3 (by decide) (hts (.fieldLink RX9 22 "ShapeReader$Ways" "notFound" "I") mw_20_14) (fun _ h9 => h9) rfl dX9_use_59 ?_
    refine lv_iconst (v := 1) hx hb dX9_use_62 (by decide) ?_
    refine lv_iadd hx hb dX9_use_63 ?_
    refine va_put (D := (dC, dI)) (ci := 9) (ty := .int) (C := RX9) (T := TX9) (N := 4) hx hb hts inlX9 tyX9 tyX9_ok nmX9 hown hK hP hD hS 48 gA_48 rfl 3 (by decide) (hts (.fieldLink RX9 22 "ShapeReader$Ways" "notFound" "I") mw_20_14) (fun _ h9 => h9) rfl (by decide +kernel) rfl rfl (Nat.le_of_ble_eq_true rfl) dX9_use_64 (fun H locs hP hD hS => ?_)
    replace hP := uA_48_3 hP
    replace hD := hD0 ((stI σ 48 3 ((σ.1 48 3) + 1)))
    refine lv_aload_n hx hb dX9_use_67 rfl (lv_at hl 0 rfl) ?_
    refine lv_aload_n hx hb dX9_use_68 rfl (lv_at hl 0 rfl) ?_
    refine va_get (D := (dC, dI)) (ci := 9) (C := RX9) (T := TX9) (N := 4) hx hb hts inlX9 hown hK hP 48 gA_48 rfl 1 (by decide) (hts (.fieldLink RX9 15 "ShapeReader$Ways" "size" "I") mw_20_12) (fun _ h9 => h9) rfl dX9_use_69 ?_
    refine lv_iconst (v := 1) hx hb dX9_use_72 (by decide) ?_
    refine lv_iadd hx hb dX9_use_73 ?_
    refine lv_iconst (v := 4) hx hb dX9_use_74 (by decide) ?_
    refine va_mmin hx hb (hml.trans hl.1.symm) hown (hts (.methodLink RX9 29 Lib.Math.min.name) mw_20_18) (hts (.static Lib.Math.min.name) mw_20_19) (hts (.initialized RJ9) mw_1_6) (hts (.code Lib.Math.min.name Lib.Math.min.code 2 (some .int)) mw_52_23) (Nat.le_of_ble_eq_true rfl) (Nat.le_of_ble_eq_true rfl) (Nat.le_of_ble_eq_true rfl) (Nat.le_of_ble_eq_true rfl) dX9_use_75 ?_
    refine va_put (D := (dC, dI)) (ci := 9) (ty := .int) (C := RX9) (T := TX9) (N := 4) hx hb hts inlX9 tyX9 tyX9_ok nmX9 hown hK hP hD hS 48 gA_48 rfl 1 (by decide) (hts (.fieldLink RX9 15 "ShapeReader$Ways" "size" "I") mw_20_12) (fun _ h9 => h9) rfl (by decide +kernel) rfl rfl (Nat.le_of_ble_eq_true rfl) dX9_use_78 (fun H locs hP hD hS => ?_)
    replace hP := uA_48_1 hP
    replace hD := hD0 ((stI (stI σ 48 3 ((σ.1 48 3) + 1)) 48 1 (if 4 < (((stI σ 48 3 ((σ.1 48 3) + 1)).1 48 1) + 1) then 4 else (((stI σ 48 3 ((σ.1 48 3) + 1)).1 48 1) + 1))))
    obtain ⟨z1, hs, h⟩ := ib h
    replace hs := Option.some.inj hs
    replace hP : va_P (dC, dI) vwCl (wA a k z1) H := by rw [← hs]; exact hP
    replace hD := hD0 z1
    clear hs
    refine lv_aload_n hx hb dX9_use_81 rfl (lv_at hl 0 rfl) ?_
    refine va_get (D := (dC, dI)) (ci := 9) (C := RX9) (T := TX9) (N := 4) hx hb hts inlX9 hown hK hP 48 gA_48 rfl 1 (by decide) (hts (.fieldLink RX9 15 "ShapeReader$Ways" "size" "I") mw_20_12) (fun _ h9 => h9) rfl dX9_use_82 ?_
    refine lv_iconst (v := 1) hx hb dX9_use_85 (by decide) ?_
    refine lv_isub hx hb dX9_use_86 ?_
    refine lv_istore (lv' := [(4, .int ((z1.1 48 1) - 1)), (0, .ref (a 48)), (3, .int x3)]) hx hb dX9_use_87 hl (by decide) rfl (fun ls hl => ?_)
    exact b_X9_use_89 hC h _ _ _ hP hD hS (lv_sub hl [1, 2, 0] rfl)
  · replace h := iq hc h
    refine lv_aload_n hx hb dX9_use_44 rfl (lv_at hl 0 rfl) ?_
    refine lv_dup hx hb dX9_use_45 rfl ?_
    refine va_get (D := (dC, dI)) (ci := 9) (C := RX9) (T := TX9) (N := 4) hx hb hts inlX9 hown hK hP 48 gA_48 rfl 2 (by decide) (hts (.fieldLink RX9 19 "ShapeReader$Ways" "found" "I") mw_20_13) (fun _ h9 => h9) rfl dX9_use_46 ?_
    refine lv_iconst (v := 1) hx hb dX9_use_49 (by decide) ?_
    refine lv_iadd hx hb dX9_use_50 ?_
    refine va_put (D := (dC, dI)) (ci := 9) (ty := .int) (C := RX9) (T := TX9) (N := 4) hx hb hts inlX9 tyX9 tyX9_ok nmX9 hown hK hP hD hS 48 gA_48 rfl 2 (by decide) (hts (.fieldLink RX9 19 "ShapeReader$Ways" "found" "I") mw_20_13) (fun _ h9 => h9) rfl (by decide +kernel) rfl rfl (Nat.le_of_ble_eq_true rfl) dX9_use_51 (fun H locs hP hD hS => ?_)
    replace hP := uA_48_2 hP
    replace hD := hD0 ((stI σ 48 2 ((σ.1 48 2) + 1)))
    refine lv_goto (tgt := 89) hx hb dX9_use_54 (by decide) ?_
    exact b_X9_use_89 hC h _ _ _ hP hD hS (lv_sub hl [0, 1, 2] rfl)

set_option maxRecDepth 100000 in
set_option maxHeartbeats 4000000 in
theorem b_X9_use_10 {p : Program} {l : Launch} {e : Env} {s : State} {m : MethodId} {args : Array Value} {below : List Frame} {meth : Method} {c : Code} {dC : Nat → ClassId} {dI : Nat → Nat → Nat} {a : Nat → Nat} {k : Nat → ClassId} {A : Nat → Prop} {q : ST} (hC : CxA p s m args meth c dC dI k A cX9_use RX9 none 6)   : ∀ (n : Nat) (x3 : Int32) (x4 : Int32) (σ : ST), f_X9_use_10  n x3 x4 σ = some q → GoA p l e ({ frames := 1, cells := 0, slots := 0, locals := 30 } : Room) s m args below meth c (MQ below (qAv dC dI a k A q) args s 0 0 A) dC dI a k A 6 10 σ [(0, .ref (a 48)), (3, .int x3), (4, .int x4)] [] := by
  intro n
  induction n with
  | zero =>
    intro x3 x4 σ h
    rw [f_X9_use_10] at h
    cases h
  | succ n ih =>
    intro x3 x4 σ h
    have hC0 := hC
    obtain ⟨hx, hb, hr, hml, hown, hts, hlocks, hA, hN, hK⟩ := hC0
    intro H locs ls hP hD hS hl
    have hD0 : ∀ σ1 : ST, va_D A (wA a k σ1) := fun σ1 => wA_D hD
    rw [f_X9_use_10] at h
    refine lv_iload hx hb dX9_use_10 (lv_at hl 2 rfl) ?_
    refine lv_aload_n hx hb dX9_use_12 rfl (lv_at hl 0 rfl) ?_
    refine va_get (D := (dC, dI)) (ci := 9) (C := RX9) (T := TX9) (N := 4) hx hb hts inlX9 hown hK hP 48 gA_48 rfl 1 (by decide) (hts (.fieldLink RX9 15 "ShapeReader$Ways" "size" "I") mw_20_12) (fun _ h9 => h9) rfl dX9_use_13 ?_
    refine lv_icmp_ge (tgt := 35) hx hb dX9_use_16 (by decide) (fun hc => ?_) (fun hc => ?_)
    · replace h := ip hc h
      exact b_X9_use_35 hC h _ _ _ hP hD hS (lv_sub hl [0, 1, 2] rfl)
    · replace h := iq hc h
      refine lv_aload_n hx hb dX9_use_19 rfl (lv_at hl 0 rfl) ?_
      refine lv_iload hx hb dX9_use_20 (lv_at hl 2 rfl) ?_
      obtain ⟨q1, hc, h⟩ := ib h
      have hF := va_frees hD hS hA
      refine va_calli (va_runV (As := [.int x4]) (rest := []) ⟨hx, hb, hml, hown, hts⟩ (s_X9_pairAt hc) (cwV 1 hts (gV mw_20_15 mw_20_16 mw_20_17 mw_0_13 mw_52_21) rfl rfl rfl (by decide +kernel) ⟨(Nat.le_of_ble_eq_true rfl), (Nat.le_of_ble_eq_true rfl)⟩) (vV (ci := 9) (q0 := 48) hK hP hD hN rfl gA_48) rfl rfl hl.1 rfl (lv_room (Nat.le_of_ble_eq_true rfl)) dX9_use_22 ⟨(Nat.le_of_ble_eq_true rfl), (Nat.le_of_ble_eq_true rfl)⟩) hS (fun q _ h => hF q h) hF (fun r2 u t H locs ht hvm hw hB _ _ hS => ?_)
      obtain rfl : r2 = q1.1 := hw
      replace hP : va_P (dC, dI) vwCl (wA a k q1.2) H := by rw [← ht]; exact hB.1
      replace hD := hD0 (q1.2)
      clear hB hF
      refine lv_iload_n hx hb dX9_use_25 rfl (lv_at hl 1 rfl) ?_
      refine lv_icmp_eq (tgt := 35) hx hb dX9_use_26 (by decide) (fun hc => ?_) (fun hc => ?_)
      · replace h := ip hc h
        exact b_X9_use_35 hC h _ _ _ hP hD hS (lv_sub hl [0, 1, 2] rfl)
      · replace h := iq hc h
        refine lv_iinc (v := (x4 + 1)) (lv' := [(4, .int (x4 + 1)), (0, .ref (a 48)), (3, .int x3)]) hx hb dX9_use_29 hl (k := 2) rfl rfl (by decide) rfl (fun ls hl => ?_)
        refine lv_goto (tgt := 10) hx hb dX9_use_32 (by decide) ?_
        exact ih _ _ _ h _ _ _ hP hD hS (lv_sub hl [1, 2, 0] rfl)

set_option maxRecDepth 100000 in
set_option maxHeartbeats 4000000 in
theorem b_X9_use_e {p : Program} {l : Launch} {e : Env} {s : State} {m : MethodId} {args : Array Value} {below : List Frame} {meth : Method} {c : Code} {dC : Nat → ClassId} {dI : Nat → Nat → Nat} {a : Nat → Nat} {k : Nat → ClassId} {A : Nat → Prop} {q : ST} (hC : CxA p s m args meth c dC dI k A cX9_use RX9 none 6)   {p0 : Int32} {p1 : Int32} {σ : ST} (h : f_X9_use  p0 p1 σ = some q) : GoA p l e ({ frames := 1, cells := 0, slots := 0, locals := 30 } : Room) s m args below meth c (MQ below (qAv dC dI a k A q) args s 0 0 A) dC dI a k A 6 0 σ (lv_args 0 [.ref (a 48), .int p0, .int p1]) [] := by
  have hC0 := hC
  obtain ⟨hx, hb, hr, hml, hown, hts, hlocks, hA, hN, hK⟩ := hC0
  intro H locs ls hP hD hS hl
  have hD0 : ∀ σ1 : ST, va_D A (wA a k σ1) := fun σ1 => wA_D hD
  replace hl : lv_has ls 6 [(0, .ref (a 48)), (1, .int p0), (2, .int p1)] := hl
  unfold f_X9_use at h
  refine lv_bipush (v := 10) hx hb dX9_use_0 (by decide) ?_
  refine lv_iload_n hx hb dX9_use_2 rfl (lv_at hl 1 rfl) ?_
  refine lv_imul hx hb dX9_use_3 ?_
  refine lv_iload_n hx hb dX9_use_4 rfl (lv_at hl 2 rfl) ?_
  refine lv_iadd hx hb dX9_use_5 ?_
  refine lv_istore_n (lv' := [(3, .int ((10 * p0) + p1)), (0, .ref (a 48)), (1, .int p0), (2, .int p1)]) hx hb dX9_use_6 rfl hl (by decide) rfl (fun ls hl => ?_)
  refine lv_iconst (v := 0) hx hb dX9_use_7 (by decide) ?_
  refine lv_istore (lv' := [(4, .int 0), (3, .int ((10 * p0) + p1)), (0, .ref (a 48)), (1, .int p0), (2, .int p1)]) hx hb dX9_use_8 hl (by decide) rfl (fun ls hl => ?_)
  exact b_X9_use_10 hC FU _ _ _ h _ _ _ hP hD hS (lv_sub hl [2, 1, 0] rfl)

theorem s_X9_use {l : Launch} {dC : Nat → ClassId} {dI : Nat → Nat → Nat} {a : Nat → Nat} {k : Nat → ClassId} {sz : Nat} {p0 : Int32} {p1 : Int32} {σ : ST} {q : ST} (h : f_X9_use  p0 p1 σ = some q) : Met l yX9_use (.code yX9_use cX9_use 6 none :: pw) ({ frames := 1, cells := 0, slots := 0, locals := 30 } : Room) (va_Pc [.ref (a 48), .int p0, .int p1] (vPre dC dI (wA a k σ) (tA k) sz)) (qAv dC dI a k (va_A (wA a k σ) sz) q) 0 0 (va_A (wA a k σ) sz) := metA (fun A => qAv dC dI a k A q) (plainFor_of_name (by decide)) (Nat.le_of_ble_eq_true rfl) (fun _ _ _ _ _ _ _ _ hC => b_X9_use_e hC h)
